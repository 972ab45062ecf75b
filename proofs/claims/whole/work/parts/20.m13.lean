set_option maxRecDepth 100000 in
def wp_Model_look_305 (z : Nat → Nat) (Q : xh → Prop) (k190 : Nat × Int32 × xh → Prop) (k235 : Nat × Int32 × Int32 × Int32 × xh → Prop) (a0 : Nat) (x1 : Int32) (x2 : Int32) (x3 : Int32) (hp : xh) : Prop :=
  k235 (a0, x1, x2, (x3 + 1), hp)
set_option maxRecDepth 100000 in
set_option maxHeartbeats 4000000 in
theorem t_Model_look_305 {p : Program} {l : Launch} {e : Env} {s : State} {m : MethodId} {args : Array Value} {below : List Frame} {meth : Method} {c : Code} {G : xG} {z : Nat → Nat} {A : Nat → Prop} {Qw : State → Prop} {Q : xh → Prop} {k190 : Nat × Int32 × xh → Prop} {k235 : Nat × Int32 × Int32 × Int32 × xh → Prop} {a0 : Nat} {x1 : Int32} {x2 : Int32} {x3 : Int32} {hp : xh} (X : xX p l e rm_Model_look s m args below meth c G z A y_Model_look b_Model_look 5) (hret : xRet p l e rm_Model_look s m args below meth c G A 5 Qw b_Model_look none (xqv Q)) (hk190 : ∀ (a0 : Nat) (x1 : Int32) (hp : xh), k190 (a0, x1, hp) → xE p l e rm_Model_look s m args below meth c G A 5 Qw 0 0 hp 190 [(0, .ref a0), (1, .int x1)] []) (hk235 : ∀ (a0 : Nat) (x1 : Int32) (x2 : Int32) (x3 : Int32) (hp : xh), k235 (a0, x1, x2, x3, hp) → xE p l e rm_Model_look s m args below meth c G A 5 Qw 0 0 hp 235 [(0, .ref a0), (1, .int x1), (2, .int x2), (3, .int x3)] []) (hf : wp_Model_look_305 z Q k190 k235 a0 x1 x2 x3 hp) : xE p l e rm_Model_look s m args below meth c G A 5 Qw 0 0 hp 305 [(0, .ref a0), (1, .int x1), (2, .int x2), (3, .int x3)] [] := by
  unfold wp_Model_look_305 at hf
  refine x_iinc X (q := 3) (v := (x3 + 1)) (lv' := [(3, .int (x3 + 1)), (0, .ref a0), (1, .int x1), (2, .int x2)]) d_Model_look_305 rfl (by rfl) (by decide) rfl 308 rfl ?_
  refine x_goto X d_Model_look_308 235 (by decide) ?_
  exact x_sub [1, 2, 3, 0] rfl (hk235 _ _ _ _ _ hf)
set_option maxRecDepth 100000 in
def wp_Model_look_235_b (z : Nat → Nat) (Q : xh → Prop) (k190 : Nat × Int32 × xh → Prop) (k235 : Nat × Int32 × Int32 × Int32 × xh → Prop) (a0 : Nat) (x1 : Int32) (x2 : Int32) (x3 : Int32) (hp : xh) : Prop :=
  ∃ v1, fI hp a0 12 39 = some v1 ∧ ((v1 ≤ x3 → (k190 (a0, (x1 + 1), hp))) ∧ (¬ v1 ≤ x3 → (∃ o2, fR hp a0 12 35 = some o2 ∧ (∃ v3, aI hp o2 4 ((32 * x2) + x3) = some v3 ∧ (∃ o4, fR hp a0 12 37 = some o4 ∧ (∃ v5, aI hp o4 0 v3 = some v5 ∧ ((v5 ≤ 0 → (∃ o6, fR hp a0 12 37 = some o6 ∧ (∃ o7, fR hp a0 12 37 = some o7 ∧ (∃ v8, aI hp o7 0 x2 = some v8 ∧ (∃ h9, sI hp o6 0 v3 (v8 + 1) = some h9 ∧ (∃ o10, fR h9 a0 12 36 = some o10 ∧ (∃ v11, fI h9 a0 12 38 = some v11 ∧ (∃ h12, sI h9 o10 0 v11 v3 = some h12 ∧ (∃ v13, fI h12 a0 12 38 = some v13 ∧ (∃ h14, pV h12 a0 12 38 (.int (v13 + 1)) = some h14 ∧ wp_Model_look_305 z Q k190 k235 a0 x1 x2 x3 h14)))))))))) ∧ (¬ v5 ≤ 0 → wp_Model_look_305 z Q k190 k235 a0 x1 x2 x3 hp))))))))
set_option maxRecDepth 100000 in
def wp_Model_look_235 (z : Nat → Nat) (Q : xh → Prop) (k190 : Nat × Int32 × xh → Prop) (a0 : Nat) (x1 : Int32) (x2 : Int32) (x3 : Int32) (hp : xh) : Prop := ∃ f : Nat, xloop (fun k235 a => wp_Model_look_235_b z Q k190 k235 a.1 a.2.1 a.2.2.1 a.2.2.2.1 a.2.2.2.2) f (a0, x1, x2, x3, hp)
set_option maxRecDepth 100000 in
set_option maxHeartbeats 4000000 in
theorem t_Model_look_235 {p : Program} {l : Launch} {e : Env} {s : State} {m : MethodId} {args : Array Value} {below : List Frame} {meth : Method} {c : Code} {G : xG} {z : Nat → Nat} {A : Nat → Prop} {Qw : State → Prop} {Q : xh → Prop} {k190 : Nat × Int32 × xh → Prop} {a0 : Nat} {x1 : Int32} {x2 : Int32} {x3 : Int32} {hp : xh} (X : xX p l e rm_Model_look s m args below meth c G z A y_Model_look b_Model_look 5) (hret : xRet p l e rm_Model_look s m args below meth c G A 5 Qw b_Model_look none (xqv Q)) (hk190 : ∀ (a0 : Nat) (x1 : Int32) (hp : xh), k190 (a0, x1, hp) → xE p l e rm_Model_look s m args below meth c G A 5 Qw 0 0 hp 190 [(0, .ref a0), (1, .int x1)] []) (hf : wp_Model_look_235 z Q k190 a0 x1 x2 x3 hp) : xE p l e rm_Model_look s m args below meth c G A 5 Qw 0 0 hp 235 [(0, .ref a0), (1, .int x1), (2, .int x2), (3, .int x3)] [] := by
  obtain ⟨f, hf⟩ := hf
  refine xloop_ind (F := fun k235 a => wp_Model_look_235_b z Q k190 k235 a.1 a.2.1 a.2.2.1 a.2.2.2.1 a.2.2.2.2) (E := fun a => xE p l e rm_Model_look s m args below meth c G A 5 Qw 0 0 a.2.2.2.2 235 [(0, .ref (a.1)), (1, .int (a.2.1)), (2, .int (a.2.2.1)), (3, .int (a.2.2.2.1))] []) ?_ f (a0, x1, x2, x3, hp) hf
  intro k235 hk a hf
  obtain ⟨a0, x1, x2, x3, hp⟩ := a
  have hk235 : ∀ (a0 : Nat) (x1 : Int32) (x2 : Int32) (x3 : Int32) (hp : xh), k235 (a0, x1, x2, x3, hp) → xE p l e rm_Model_look s m args below meth c G A 5 Qw 0 0 hp 235 [(0, .ref a0), (1, .int x1), (2, .int x2), (3, .int x3)] [] := fun a0 x1 x2 x3 hp h => hk (a0, x1, x2, x3, hp) h
  have hf : wp_Model_look_235_b z Q k190 k235 a0 x1 x2 x3 hp := hf
  unfold wp_Model_look_235_b at hf
  refine x_iload_n X (q := 3) d_Model_look_235 rfl 236 rfl ?_
  refine x_aload_n X (q := 0) d_Model_look_236 rfl 237 rfl ?_
  refine x_getI X hf (ci := 12) (j := 39) rfl (by decide) rfl lf_Model_274 d_Model_look_237 240 rfl (fun v1 hf => ?_)
  refine x_icmp_ge X hf d_Model_look_240 311 243 (by decide) rfl (fun hf => ?_) (fun hf => ?_)
  · refine x_iinc X (q := 1) (v := (x1 + 1)) (lv' := [(1, .int (x1 + 1)), (0, .ref a0), (2, .int x2), (3, .int x3)]) d_Model_look_311 rfl (by rfl) (by decide) rfl 314 rfl ?_
    refine x_goto X d_Model_look_314 190 (by decide) ?_
    exact x_sub [1, 0] rfl (hk190 _ _ _ hf)
  · refine x_aload_n X (q := 0) d_Model_look_243 rfl 244 rfl ?_
    refine x_getR X hf (ci := 12) (j := 35) rfl (by decide) rfl lf_Model_93 d_Model_look_244 247 rfl (fun o2 hf => ?_)
    refine x_bipush X (v := 32) d_Model_look_247 (by decide) 249 rfl ?_
    refine x_iload_n X (q := 2) d_Model_look_249 rfl 250 rfl ?_
    refine x_imul X d_Model_look_250 251 rfl ?_
    refine x_iload_n X (q := 3) d_Model_look_251 rfl 252 rfl ?_
    refine x_iadd X d_Model_look_252 253 rfl ?_
    refine x_cald X hf d_Model_look_253 254 rfl (fun v3 hf => ?_)
    refine x_istore X (lv' := [(4, .int v3), (0, .ref a0), (1, .int x1), (2, .int x2), (3, .int x3)]) d_Model_look_254 (by decide) rfl 256 rfl ?_
    refine x_aload_n X (q := 1) d_Model_look_256 rfl 257 rfl ?_
    refine x_getR X hf (ci := 12) (j := 37) rfl (by decide) rfl lf_Model_100 d_Model_look_257 260 rfl (fun o4 hf => ?_)
    refine x_iload X (q := 0) d_Model_look_260 rfl 262 rfl ?_
    refine x_iald X hf d_Model_look_262 263 rfl (fun v5 hf => ?_)
    refine x_if_le X hf d_Model_look_263 269 266 (by decide) rfl (fun hf => ?_) (fun hf => ?_)
    · refine x_aload_n X (q := 1) d_Model_look_269 rfl 270 rfl ?_
      refine x_getR X hf (ci := 12) (j := 37) rfl (by decide) rfl lf_Model_100 d_Model_look_270 273 rfl (fun o6 hf => ?_)
      refine x_iload X (q := 0) d_Model_look_273 rfl 275 rfl ?_
      refine x_aload_n X (q := 1) d_Model_look_275 rfl 276 rfl ?_
      refine x_getR X hf (ci := 12) (j := 37) rfl (by decide) rfl lf_Model_100 d_Model_look_276 279 rfl (fun o7 hf => ?_)
      refine x_iload_n X (q := 3) d_Model_look_279 rfl 280 rfl ?_
      refine x_iald X hf d_Model_look_280 281 rfl (fun v8 hf => ?_)
      refine x_iconst X (v := 1) d_Model_look_281 (by decide) 282 rfl ?_
      refine x_iadd X d_Model_look_282 283 rfl ?_
      refine x_iast X hf d_Model_look_283 284 rfl (fun h9 hf => ?_)
      refine x_aload_n X (q := 1) d_Model_look_284 rfl 285 rfl ?_
      refine x_getR X hf (ci := 12) (j := 36) rfl (by decide) rfl lf_Model_97 d_Model_look_285 288 rfl (fun o10 hf => ?_)
      refine x_aload_n X (q := 1) d_Model_look_288 rfl 289 rfl ?_
      refine x_getI X hf (ci := 12) (j := 38) rfl (by decide) rfl lf_Model_286 d_Model_look_289 292 rfl (fun v11 hf => ?_)
      refine x_iload X (q := 0) d_Model_look_292 rfl 294 rfl ?_
      refine x_iast X hf d_Model_look_294 295 rfl (fun h12 hf => ?_)
      refine x_aload_n X (q := 1) d_Model_look_295 rfl 296 rfl ?_
      refine x_dup X rfl d_Model_look_296 297 rfl ?_
      refine x_getI X hf (ci := 12) (j := 38) rfl (by decide) rfl lf_Model_286 d_Model_look_297 300 rfl (fun v13 hf => ?_)
      refine x_iconst X (v := 1) d_Model_look_300 (by decide) 301 rfl ?_
      refine x_iadd X d_Model_look_301 302 rfl ?_
      refine x_put X hf (ci := 12) (j := 38) (ty := .int) rfl (by decide) rfl lf_Model_286 rfl (by decide +kernel) rfl rfl d_Model_look_302 305 rfl (fun h14 hf => ?_)
      exact x_sub [1, 2, 3, 4] rfl (t_Model_look_305 X hret hk190 hk235 hf)
    · refine x_goto X d_Model_look_266 305 (by decide) ?_
      exact x_sub [1, 2, 3, 4] rfl (t_Model_look_305 X hret hk190 hk235 hf)
set_option maxRecDepth 100000 in
def wp_Model_look_233 (z : Nat → Nat) (Q : xh → Prop) (k190 : Nat × Int32 × xh → Prop) (a0 : Nat) (x1 : Int32) (x2 : Int32) (hp : xh) : Prop :=
  wp_Model_look_235 z Q k190 a0 x1 x2 0 hp
set_option maxRecDepth 100000 in
set_option maxHeartbeats 4000000 in
theorem t_Model_look_233 {p : Program} {l : Launch} {e : Env} {s : State} {m : MethodId} {args : Array Value} {below : List Frame} {meth : Method} {c : Code} {G : xG} {z : Nat → Nat} {A : Nat → Prop} {Qw : State → Prop} {Q : xh → Prop} {k190 : Nat × Int32 × xh → Prop} {a0 : Nat} {x1 : Int32} {x2 : Int32} {hp : xh} (X : xX p l e rm_Model_look s m args below meth c G z A y_Model_look b_Model_look 5) (hret : xRet p l e rm_Model_look s m args below meth c G A 5 Qw b_Model_look none (xqv Q)) (hk190 : ∀ (a0 : Nat) (x1 : Int32) (hp : xh), k190 (a0, x1, hp) → xE p l e rm_Model_look s m args below meth c G A 5 Qw 0 0 hp 190 [(0, .ref a0), (1, .int x1)] []) (hf : wp_Model_look_233 z Q k190 a0 x1 x2 hp) : xE p l e rm_Model_look s m args below meth c G A 5 Qw 0 0 hp 233 [(0, .ref a0), (1, .int x1), (2, .int x2)] [] := by
  unfold wp_Model_look_233 at hf
  refine x_iconst X (v := 0) d_Model_look_233 (by decide) 234 rfl ?_
  refine x_istore_n X (lv' := [(3, .int 0), (0, .ref a0), (1, .int x1), (2, .int x2)]) d_Model_look_234 rfl (by decide) rfl 235 rfl ?_
  exact x_sub [1, 2, 3, 0] rfl (t_Model_look_235 X hret hk190 hf)
set_option maxRecDepth 100000 in
def wp_Model_look_190_b (z : Nat → Nat) (Q : xh → Prop)  (k190 : Nat × Int32 × xh → Prop) (a0 : Nat) (x1 : Int32) (hp : xh) : Prop :=
  ∃ v1, fI hp a0 12 38 = some v1 ∧ ((v1 ≤ x1 → (∃ v2, fI hp a0 12 41 = some v2 ∧ ((v2 ≤ 0 → Q hp) ∧ (¬ v2 ≤ 0 → (xcls hp a0 12 ∧ wp_Model_find z (fun h3 => Q h3) a0 hp))))) ∧ (¬ v1 ≤ x1 → (∃ o4, fR hp a0 12 36 = some o4 ∧ (∃ v5, aI hp o4 0 x1 = some v5 ∧ (∃ v6, fI hp a0 12 41 = some v6 ∧ ((¬ v6 = 0 → wp_Model_look_233 z Q k190 a0 x1 v5 hp) ∧ (v6 = 0 → (∃ o7, fR hp a0 12 34 = some o7 ∧ (∃ v8, aL hp o7 3 v5 = some v8 ∧ (((lg_cmp v8 0) = 0 → wp_Model_look_233 z Q k190 a0 x1 v5 hp) ∧ (¬ (lg_cmp v8 0) = 0 → (∃ o9, fR hp a0 12 37 = some o9 ∧ (∃ v10, aI hp o9 0 v5 = some v10 ∧ (∃ h11, pV hp a0 12 41 (.int v10) = some h11 ∧ wp_Model_look_233 z Q k190 a0 x1 v5 h11))))))))))))))
set_option maxRecDepth 100000 in
def wp_Model_look_190 (z : Nat → Nat) (Q : xh → Prop)  (a0 : Nat) (x1 : Int32) (hp : xh) : Prop := ∃ f : Nat, xloop (fun k190 a => wp_Model_look_190_b z Q  k190 a.1 a.2.1 a.2.2) f (a0, x1, hp)
set_option maxRecDepth 100000 in
set_option maxHeartbeats 4000000 in
theorem t_Model_look_190 {p : Program} {l : Launch} {e : Env} {s : State} {m : MethodId} {args : Array Value} {below : List Frame} {meth : Method} {c : Code} {G : xG} {z : Nat → Nat} {A : Nat → Prop} {Qw : State → Prop} {Q : xh → Prop} {a0 : Nat} {x1 : Int32} {hp : xh} (X : xX p l e rm_Model_look s m args below meth c G z A y_Model_look b_Model_look 5) (hret : xRet p l e rm_Model_look s m args below meth c G A 5 Qw b_Model_look none (xqv Q))  (hf : wp_Model_look_190 z Q  a0 x1 hp) : xE p l e rm_Model_look s m args below meth c G A 5 Qw 0 0 hp 190 [(0, .ref a0), (1, .int x1)] [] := by
  obtain ⟨f, hf⟩ := hf
  refine xloop_ind (F := fun k190 a => wp_Model_look_190_b z Q  k190 a.1 a.2.1 a.2.2) (E := fun a => xE p l e rm_Model_look s m args below meth c G A 5 Qw 0 0 a.2.2 190 [(0, .ref (a.1)), (1, .int (a.2.1))] []) ?_ f (a0, x1, hp) hf
  intro k190 hk a hf
  obtain ⟨a0, x1, hp⟩ := a
  have hk190 : ∀ (a0 : Nat) (x1 : Int32) (hp : xh), k190 (a0, x1, hp) → xE p l e rm_Model_look s m args below meth c G A 5 Qw 0 0 hp 190 [(0, .ref a0), (1, .int x1)] [] := fun a0 x1 hp h => hk (a0, x1, hp) h
  have hf : wp_Model_look_190_b z Q  k190 a0 x1 hp := hf
  unfold wp_Model_look_190_b at hf
  refine x_iload_n X (q := 1) d_Model_look_190 rfl 191 rfl ?_
  refine x_aload_n X (q := 0) d_Model_look_191 rfl 192 rfl ?_
  refine x_getI X hf (ci := 12) (j := 38) rfl (by decide) rfl lf_Model_286 d_Model_look_192 195 rfl (fun v1 hf => ?_)
  refine x_icmp_ge X hf d_Model_look_195 317 198 (by decide) rfl (fun hf => ?_) (fun hf => ?_)
  · refine x_aload_n X (q := 0) d_Model_look_317 rfl 318 rfl ?_
    refine x_getI X hf (ci := 12) (j := 41) rfl (by decide) rfl lf_Model_289 d_Model_look_318 321 rfl (fun v2 hf => ?_)
    refine x_if_le X hf d_Model_look_321 328 324 (by decide) rfl (fun hf => ?_) (fun hf => ?_)
    · exact hret _ _ _ _ _ none (Nat.le_refl 0) (Nat.le_refl 0) ⟨rfl, hf⟩ ⟨rfl, d_Model_look_328⟩
    · refine x_aload_n X (q := 0) d_Model_look_324 rfl 325 rfl ?_
      refine x_callV0v X (t_Model_find hf.2) hf.1 (ci := 12) rfl rfl lm_Model_292 im_Model_find sl_Model_find cd_Model_find in_Model ds_Model_find rfl rfl (Nat.le_of_ble_eq_true rfl) (Nat.le_of_ble_eq_true rfl) (Nat.le_of_ble_eq_true rfl) rfl rfl (Nat.le_refl 0) (Nat.le_refl 0) d_Model_look_325 328 rfl (fun h3 hf => ?_)
      exact hret _ _ _ _ _ none (Nat.le_refl 0) (Nat.le_refl 0) ⟨rfl, hf⟩ ⟨rfl, d_Model_look_328⟩
  · refine x_aload_n X (q := 0) d_Model_look_198 rfl 199 rfl ?_
    refine x_getR X hf (ci := 12) (j := 36) rfl (by decide) rfl lf_Model_97 d_Model_look_199 202 rfl (fun o4 hf => ?_)
    refine x_iload_n X (q := 1) d_Model_look_202 rfl 203 rfl ?_
    refine x_iald X hf d_Model_look_203 204 rfl (fun v5 hf => ?_)
    refine x_istore_n X (lv' := [(2, .int v5), (0, .ref a0), (1, .int x1)]) d_Model_look_204 rfl (by decide) rfl 205 rfl ?_
    refine x_aload_n X (q := 1) d_Model_look_205 rfl 206 rfl ?_
    refine x_getI X hf (ci := 12) (j := 41) rfl (by decide) rfl lf_Model_289 d_Model_look_206 209 rfl (fun v6 hf => ?_)
    refine x_if_ne X hf d_Model_look_209 233 212 (by decide) rfl (fun hf => ?_) (fun hf => ?_)
    · exact x_sub [1, 2, 0] rfl (t_Model_look_233 X hret hk190 hf)
    · refine x_aload_n X (q := 1) d_Model_look_212 rfl 213 rfl ?_
      refine x_getR X hf (ci := 12) (j := 34) rfl (by decide) rfl lf_Model_89 d_Model_look_213 216 rfl (fun o7 hf => ?_)
      refine x_iload_n X (q := 0) d_Model_look_216 rfl 217 rfl ?_
      refine x_lald X hf d_Model_look_217 218 rfl (fun v8 hf => ?_)
      refine x_lconst X (v := 0) d_Model_look_218 (by decide) 219 rfl ?_
      refine x_lcmp X d_Model_look_219 220 rfl ?_
      refine x_if_eq X hf d_Model_look_220 233 223 (by decide) rfl (fun hf => ?_) (fun hf => ?_)
      · exact x_sub [1, 2, 0] rfl (t_Model_look_233 X hret hk190 hf)
      · refine x_aload_n X (q := 1) d_Model_look_223 rfl 224 rfl ?_
        refine x_aload_n X (q := 1) d_Model_look_224 rfl 225 rfl ?_
        refine x_getR X hf (ci := 12) (j := 37) rfl (by decide) rfl lf_Model_100 d_Model_look_225 228 rfl (fun o9 hf => ?_)
        refine x_iload_n X (q := 0) d_Model_look_228 rfl 229 rfl ?_
        refine x_iald X hf d_Model_look_229 230 rfl (fun v10 hf => ?_)
        refine x_put X hf (ci := 12) (j := 41) (ty := .int) rfl (by decide) rfl lf_Model_289 rfl (by decide +kernel) rfl rfl d_Model_look_230 233 rfl (fun h11 hf => ?_)
        exact x_sub [1, 2, 0] rfl (t_Model_look_233 X hret hk190 hf)
set_option maxRecDepth 100000 in
def wp_Model_look_105_b (z : Nat → Nat) (Q : xh → Prop) (k47 : Nat × Int32 × xh → Prop) (k105 : Nat × Int32 × Int32 × xh → Prop) (a0 : Nat) (x1 : Int32) (x2 : Int32) (hp : xh) : Prop :=
  ∃ v1, fI hp a0 12 39 = some v1 ∧ ((v1 ≤ x2 → (∃ o2, fR hp a0 12 37 = some o2 ∧ (∃ h3, sI hp o2 0 x1 0 = some h3 ∧ (k47 (a0, (x1 + 1), h3))))) ∧ (¬ v1 ≤ x2 → (∃ o4, fR hp a0 12 35 = some o4 ∧ (xcls hp a0 12 ∧ wp_Model_next z (fun v6 h5 => xcls h5 a0 12 ∧ wp_Model_next z (fun v8 h7 => ∃ o9, fR h7 a0 12 10 = some o9 ∧ (∃ v10, aI h7 o9 0 2 = some v10 ∧ (∃ h11, sI h7 o4 4 ((32 * x1) + x2) (vp_nar .char (((v6 ||| (v8 <<< (v10 &&& 31))).toUInt32 % 65536).toInt32)) = some h11 ∧ (k105 (a0, x1, (x2 + 1), h11))))) a0 1 x2 h5) a0 0 x2 hp))))
set_option maxRecDepth 100000 in
def wp_Model_look_105 (z : Nat → Nat) (Q : xh → Prop) (k47 : Nat × Int32 × xh → Prop) (a0 : Nat) (x1 : Int32) (x2 : Int32) (hp : xh) : Prop := ∃ f : Nat, xloop (fun k105 a => wp_Model_look_105_b z Q k47 k105 a.1 a.2.1 a.2.2.1 a.2.2.2) f (a0, x1, x2, hp)
set_option maxRecDepth 100000 in
set_option maxHeartbeats 4000000 in
theorem t_Model_look_105 {p : Program} {l : Launch} {e : Env} {s : State} {m : MethodId} {args : Array Value} {below : List Frame} {meth : Method} {c : Code} {G : xG} {z : Nat → Nat} {A : Nat → Prop} {Qw : State → Prop} {Q : xh → Prop} {k47 : Nat × Int32 × xh → Prop} {a0 : Nat} {x1 : Int32} {x2 : Int32} {hp : xh} (X : xX p l e rm_Model_look s m args below meth c G z A y_Model_look b_Model_look 5) (hret : xRet p l e rm_Model_look s m args below meth c G A 5 Qw b_Model_look none (xqv Q)) (hk47 : ∀ (a0 : Nat) (x1 : Int32) (hp : xh), k47 (a0, x1, hp) → xE p l e rm_Model_look s m args below meth c G A 5 Qw 0 0 hp 47 [(0, .ref a0), (1, .int x1)] []) (hf : wp_Model_look_105 z Q k47 a0 x1 x2 hp) : xE p l e rm_Model_look s m args below meth c G A 5 Qw 0 0 hp 105 [(0, .ref a0), (1, .int x1), (2, .int x2)] [] := by
  obtain ⟨f, hf⟩ := hf
  refine xloop_ind (F := fun k105 a => wp_Model_look_105_b z Q k47 k105 a.1 a.2.1 a.2.2.1 a.2.2.2) (E := fun a => xE p l e rm_Model_look s m args below meth c G A 5 Qw 0 0 a.2.2.2 105 [(0, .ref (a.1)), (1, .int (a.2.1)), (2, .int (a.2.2.1))] []) ?_ f (a0, x1, x2, hp) hf
  intro k105 hk a hf
  obtain ⟨a0, x1, x2, hp⟩ := a
  have hk105 : ∀ (a0 : Nat) (x1 : Int32) (x2 : Int32) (hp : xh), k105 (a0, x1, x2, hp) → xE p l e rm_Model_look s m args below meth c G A 5 Qw 0 0 hp 105 [(0, .ref a0), (1, .int x1), (2, .int x2)] [] := fun a0 x1 x2 hp h => hk (a0, x1, x2, hp) h
  have hf : wp_Model_look_105_b z Q k47 k105 a0 x1 x2 hp := hf
  unfold wp_Model_look_105_b at hf
  refine x_iload_n X (q := 2) d_Model_look_105 rfl 106 rfl ?_
  refine x_aload_n X (q := 0) d_Model_look_106 rfl 107 rfl ?_
  refine x_getI X hf (ci := 12) (j := 39) rfl (by decide) rfl lf_Model_274 d_Model_look_107 110 rfl (fun v1 hf => ?_)
  refine x_icmp_ge X hf d_Model_look_110 151 113 (by decide) rfl (fun hf => ?_) (fun hf => ?_)
  · refine x_aload_n X (q := 0) d_Model_look_151 rfl 152 rfl ?_
    refine x_getR X hf (ci := 12) (j := 37) rfl (by decide) rfl lf_Model_100 d_Model_look_152 155 rfl (fun o2 hf => ?_)
    refine x_iload_n X (q := 1) d_Model_look_155 rfl 156 rfl ?_
    refine x_iconst X (v := 0) d_Model_look_156 (by decide) 157 rfl ?_
    refine x_iast X hf d_Model_look_157 158 rfl (fun h3 hf => ?_)
    refine x_iinc X (q := 1) (v := (x1 + 1)) (lv' := [(1, .int (x1 + 1)), (0, .ref a0), (2, .int x2)]) d_Model_look_158 rfl (by rfl) (by decide) rfl 161 rfl ?_
    refine x_goto X d_Model_look_161 47 (by decide) ?_
    exact x_sub [1, 0] rfl (hk47 _ _ _ hf)
  · refine x_aload_n X (q := 0) d_Model_look_113 rfl 114 rfl ?_
    refine x_getR X hf (ci := 12) (j := 35) rfl (by decide) rfl lf_Model_93 d_Model_look_114 117 rfl (fun o4 hf => ?_)
    refine x_bipush X (v := 32) d_Model_look_117 (by decide) 119 rfl ?_
    refine x_iload_n X (q := 1) d_Model_look_119 rfl 120 rfl ?_
    refine x_imul X d_Model_look_120 121 rfl ?_
    refine x_iload_n X (q := 2) d_Model_look_121 rfl 122 rfl ?_
    refine x_iadd X d_Model_look_122 123 rfl ?_
    refine x_aload_n X (q := 0) d_Model_look_123 rfl 124 rfl ?_
    refine x_iconst X (v := 0) d_Model_look_124 (by decide) 125 rfl ?_
    refine x_iload_n X (q := 2) d_Model_look_125 rfl 126 rfl ?_
    refine x_callV0i X (t_Model_next hf.2) hf.1 (ci := 12) rfl rfl lm_Model_264 im_Model_next sl_Model_next cd_Model_next in_Model ds_Model_next rfl rfl (Nat.le_of_ble_eq_true rfl) (Nat.le_of_ble_eq_true rfl) (Nat.le_of_ble_eq_true rfl) rfl rfl (Nat.le_refl 0) (Nat.le_refl 0) d_Model_look_126 129 rfl (fun v6 h5 hf => ?_)
    refine x_aload_n X (q := 0) d_Model_look_129 rfl 130 rfl ?_
    refine x_iconst X (v := 1) d_Model_look_130 (by decide) 131 rfl ?_
    refine x_iload_n X (q := 2) d_Model_look_131 rfl 132 rfl ?_
    refine x_callV0i X (t_Model_next hf.2) hf.1 (ci := 12) rfl rfl lm_Model_264 im_Model_next sl_Model_next cd_Model_next in_Model ds_Model_next rfl rfl (Nat.le_of_ble_eq_true rfl) (Nat.le_of_ble_eq_true rfl) (Nat.le_of_ble_eq_true rfl) rfl rfl (Nat.le_refl 0) (Nat.le_refl 0) d_Model_look_132 135 rfl (fun v8 h7 hf => ?_)
    refine x_aload_n X (q := 0) d_Model_look_135 rfl 136 rfl ?_
    refine x_getR X hf (ci := 12) (j := 10) rfl (by decide) rfl lf_Model_20 d_Model_look_136 139 rfl (fun o9 hf => ?_)
    refine x_iconst X (v := 2) d_Model_look_139 (by decide) 140 rfl ?_
    refine x_iald X hf d_Model_look_140 141 rfl (fun v10 hf => ?_)
    refine x_ishl X d_Model_look_141 142 rfl ?_
    refine x_ior X d_Model_look_142 143 rfl ?_
    refine x_i2c X d_Model_look_143 144 rfl ?_
    refine x_cast X hf d_Model_look_144 145 rfl (fun h11 hf => ?_)
    refine x_iinc X (q := 2) (v := (x2 + 1)) (lv' := [(2, .int (x2 + 1)), (0, .ref a0), (1, .int x1)]) d_Model_look_145 rfl (by rfl) (by decide) rfl 148 rfl ?_
    refine x_goto X d_Model_look_148 105 (by decide) ?_
    exact x_sub [1, 2, 0] rfl (hk105 _ _ _ _ hf)
set_option maxRecDepth 100000 in
def wp_Model_look_69_b (z : Nat → Nat) (Q : xh → Prop) (k47 : Nat × Int32 × xh → Prop) (k69 : Nat × Int32 × Int32 × xh → Prop) (a0 : Nat) (x1 : Int32) (x2 : Int32) (hp : xh) : Prop :=
  ∃ o1, fR hp a0 12 10 = some o1 ∧ (∃ v2, aI hp o1 0 3 = some v2 ∧ ((v2 ≤ x2 → wp_Model_look_105 z Q k47 a0 x1 0 hp) ∧ (¬ v2 ≤ x2 → (∃ o3, fR hp a0 12 34 = some o3 ∧ (∃ o4, fR hp a0 12 34 = some o4 ∧ (∃ v5, aL hp o4 3 x1 = some v5 ∧ (xcls hp a0 12 ∧ wp_Model_tellsBy z (fun v7 h6 => ∃ h8, sL h6 o3 3 x1 (v5 ||| v7) = some h8 ∧ (k69 (a0, x1, (x2 + 1), h8))) a0 x2 hp)))))))
set_option maxRecDepth 100000 in
def wp_Model_look_69 (z : Nat → Nat) (Q : xh → Prop) (k47 : Nat × Int32 × xh → Prop) (a0 : Nat) (x1 : Int32) (x2 : Int32) (hp : xh) : Prop := ∃ f : Nat, xloop (fun k69 a => wp_Model_look_69_b z Q k47 k69 a.1 a.2.1 a.2.2.1 a.2.2.2) f (a0, x1, x2, hp)
set_option maxRecDepth 100000 in
set_option maxHeartbeats 4000000 in
theorem t_Model_look_69 {p : Program} {l : Launch} {e : Env} {s : State} {m : MethodId} {args : Array Value} {below : List Frame} {meth : Method} {c : Code} {G : xG} {z : Nat → Nat} {A : Nat → Prop} {Qw : State → Prop} {Q : xh → Prop} {k47 : Nat × Int32 × xh → Prop} {a0 : Nat} {x1 : Int32} {x2 : Int32} {hp : xh} (X : xX p l e rm_Model_look s m args below meth c G z A y_Model_look b_Model_look 5) (hret : xRet p l e rm_Model_look s m args below meth c G A 5 Qw b_Model_look none (xqv Q)) (hk47 : ∀ (a0 : Nat) (x1 : Int32) (hp : xh), k47 (a0, x1, hp) → xE p l e rm_Model_look s m args below meth c G A 5 Qw 0 0 hp 47 [(0, .ref a0), (1, .int x1)] []) (hf : wp_Model_look_69 z Q k47 a0 x1 x2 hp) : xE p l e rm_Model_look s m args below meth c G A 5 Qw 0 0 hp 69 [(0, .ref a0), (1, .int x1), (2, .int x2)] [] := by
  obtain ⟨f, hf⟩ := hf
  refine xloop_ind (F := fun k69 a => wp_Model_look_69_b z Q k47 k69 a.1 a.2.1 a.2.2.1 a.2.2.2) (E := fun a => xE p l e rm_Model_look s m args below meth c G A 5 Qw 0 0 a.2.2.2 69 [(0, .ref (a.1)), (1, .int (a.2.1)), (2, .int (a.2.2.1))] []) ?_ f (a0, x1, x2, hp) hf
  intro k69 hk a hf
  obtain ⟨a0, x1, x2, hp⟩ := a
  have hk69 : ∀ (a0 : Nat) (x1 : Int32) (x2 : Int32) (hp : xh), k69 (a0, x1, x2, hp) → xE p l e rm_Model_look s m args below meth c G A 5 Qw 0 0 hp 69 [(0, .ref a0), (1, .int x1), (2, .int x2)] [] := fun a0 x1 x2 hp h => hk (a0, x1, x2, hp) h
  have hf : wp_Model_look_69_b z Q k47 k69 a0 x1 x2 hp := hf
  unfold wp_Model_look_69_b at hf
  refine x_iload_n X (q := 2) d_Model_look_69 rfl 70 rfl ?_
  refine x_aload_n X (q := 0) d_Model_look_70 rfl 71 rfl ?_
  refine x_getR X hf (ci := 12) (j := 10) rfl (by decide) rfl lf_Model_20 d_Model_look_71 74 rfl (fun o1 hf => ?_)
  refine x_iconst X (v := 3) d_Model_look_74 (by decide) 75 rfl ?_
  refine x_iald X hf d_Model_look_75 76 rfl (fun v2 hf => ?_)
  refine x_icmp_ge X hf d_Model_look_76 103 79 (by decide) rfl (fun hf => ?_) (fun hf => ?_)
  · refine x_iconst X (v := 0) d_Model_look_103 (by decide) 104 rfl ?_
    refine x_istore_n X (lv' := [(2, .int 0), (0, .ref a0), (1, .int x1)]) d_Model_look_104 rfl (by decide) rfl 105 rfl ?_
    exact x_sub [1, 2, 0] rfl (t_Model_look_105 X hret hk47 hf)
  · refine x_aload_n X (q := 0) d_Model_look_79 rfl 80 rfl ?_
    refine x_getR X hf (ci := 12) (j := 34) rfl (by decide) rfl lf_Model_89 d_Model_look_80 83 rfl (fun o3 hf => ?_)
    refine x_iload_n X (q := 1) d_Model_look_83 rfl 84 rfl ?_
    refine x_aload_n X (q := 0) d_Model_look_84 rfl 85 rfl ?_
    refine x_getR X hf (ci := 12) (j := 34) rfl (by decide) rfl lf_Model_89 d_Model_look_85 88 rfl (fun o4 hf => ?_)
    refine x_iload_n X (q := 1) d_Model_look_88 rfl 89 rfl ?_
    refine x_lald X hf d_Model_look_89 90 rfl (fun v5 hf => ?_)
    refine x_aload_n X (q := 0) d_Model_look_90 rfl 91 rfl ?_
    refine x_iload_n X (q := 2) d_Model_look_91 rfl 92 rfl ?_
    refine x_callV0l X (t_Model_tellsBy hf.2) hf.1 (ci := 12) rfl rfl lm_Model_283 im_Model_tellsBy sl_Model_tellsBy cd_Model_tellsBy in_Model ds_Model_tellsBy rfl rfl (Nat.le_of_ble_eq_true rfl) (Nat.le_of_ble_eq_true rfl) (Nat.le_of_ble_eq_true rfl) rfl rfl (Nat.le_refl 0) (Nat.le_refl 0) d_Model_look_92 95 rfl (fun v7 h6 hf => ?_)
    refine x_lor X d_Model_look_95 96 rfl ?_
    refine x_last X hf d_Model_look_96 97 rfl (fun h8 hf => ?_)
    refine x_iinc X (q := 2) (v := (x2 + 1)) (lv' := [(2, .int (x2 + 1)), (0, .ref a0), (1, .int x1)]) d_Model_look_97 rfl (by rfl) (by decide) rfl 100 rfl ?_
    refine x_goto X d_Model_look_100 69 (by decide) ?_
    exact x_sub [1, 2, 0] rfl (hk69 _ _ _ _ hf)
set_option maxRecDepth 100000 in
def wp_Model_look_47_b (z : Nat → Nat) (Q : xh → Prop)  (k47 : Nat × Int32 × xh → Prop) (a0 : Nat) (x1 : Int32) (hp : xh) : Prop :=
  ∃ v1, fI hp a0 12 40 = some v1 ∧ ((v1 ≤ x1 → (∃ h2, pV hp a0 12 38 (.int 1) = some h2 ∧ (∃ o3, fR h2 a0 12 36 = some o3 ∧ (∃ h4, sI h2 o3 0 0 0 = some h4 ∧ (∃ o5, fR h4 a0 12 37 = some o5 ∧ (∃ h6, sI h4 o5 0 0 1 = some h6 ∧ (∃ h7, pV h6 a0 12 41 (.int 0) = some h7 ∧ wp_Model_look_190 z Q a0 0 h7))))))) ∧ (¬ v1 ≤ x1 → (xcls hp a0 12 ∧ wp_Model_reckonBoth z (fun h8 => ∃ o9, fR h8 a0 12 34 = some o9 ∧ (∃ h10, sL h8 o9 3 x1 0 = some h10 ∧ wp_Model_look_69 z Q k47 a0 x1 0 h10)) a0 x1 hp)))
set_option maxRecDepth 100000 in
def wp_Model_look_47 (z : Nat → Nat) (Q : xh → Prop)  (a0 : Nat) (x1 : Int32) (hp : xh) : Prop := ∃ f : Nat, xloop (fun k47 a => wp_Model_look_47_b z Q  k47 a.1 a.2.1 a.2.2) f (a0, x1, hp)
set_option maxRecDepth 100000 in
set_option maxHeartbeats 4000000 in
theorem t_Model_look_47 {p : Program} {l : Launch} {e : Env} {s : State} {m : MethodId} {args : Array Value} {below : List Frame} {meth : Method} {c : Code} {G : xG} {z : Nat → Nat} {A : Nat → Prop} {Qw : State → Prop} {Q : xh → Prop} {a0 : Nat} {x1 : Int32} {hp : xh} (X : xX p l e rm_Model_look s m args below meth c G z A y_Model_look b_Model_look 5) (hret : xRet p l e rm_Model_look s m args below meth c G A 5 Qw b_Model_look none (xqv Q))  (hf : wp_Model_look_47 z Q  a0 x1 hp) : xE p l e rm_Model_look s m args below meth c G A 5 Qw 0 0 hp 47 [(0, .ref a0), (1, .int x1)] [] := by
  obtain ⟨f, hf⟩ := hf
  refine xloop_ind (F := fun k47 a => wp_Model_look_47_b z Q  k47 a.1 a.2.1 a.2.2) (E := fun a => xE p l e rm_Model_look s m args below meth c G A 5 Qw 0 0 a.2.2 47 [(0, .ref (a.1)), (1, .int (a.2.1))] []) ?_ f (a0, x1, hp) hf
  intro k47 hk a hf
  obtain ⟨a0, x1, hp⟩ := a
  have hk47 : ∀ (a0 : Nat) (x1 : Int32) (hp : xh), k47 (a0, x1, hp) → xE p l e rm_Model_look s m args below meth c G A 5 Qw 0 0 hp 47 [(0, .ref a0), (1, .int x1)] [] := fun a0 x1 hp h => hk (a0, x1, hp) h
  have hf : wp_Model_look_47_b z Q  k47 a0 x1 hp := hf
  unfold wp_Model_look_47_b at hf
  refine x_iload_n X (q := 1) d_Model_look_47 rfl 48 rfl ?_
  refine x_aload_n X (q := 0) d_Model_look_48 rfl 49 rfl ?_
  refine x_getI X hf (ci := 12) (j := 40) rfl (by decide) rfl lf_Model_277 d_Model_look_49 52 rfl (fun v1 hf => ?_)
  refine x_icmp_ge X hf d_Model_look_52 164 55 (by decide) rfl (fun hf => ?_) (fun hf => ?_)
  · refine x_aload_n X (q := 0) d_Model_look_164 rfl 165 rfl ?_
    refine x_iconst X (v := 1) d_Model_look_165 (by decide) 166 rfl ?_
    refine x_put X hf (ci := 12) (j := 38) (ty := .int) rfl (by decide) rfl lf_Model_286 rfl (by decide +kernel) rfl rfl d_Model_look_166 169 rfl (fun h2 hf => ?_)
    refine x_aload_n X (q := 0) d_Model_look_169 rfl 170 rfl ?_
    refine x_getR X hf (ci := 12) (j := 36) rfl (by decide) rfl lf_Model_97 d_Model_look_170 173 rfl (fun o3 hf => ?_)
    refine x_iconst X (v := 0) d_Model_look_173 (by decide) 174 rfl ?_
    refine x_iconst X (v := 0) d_Model_look_174 (by decide) 175 rfl ?_
    refine x_iast X hf d_Model_look_175 176 rfl (fun h4 hf => ?_)
    refine x_aload_n X (q := 0) d_Model_look_176 rfl 177 rfl ?_
    refine x_getR X hf (ci := 12) (j := 37) rfl (by decide) rfl lf_Model_100 d_Model_look_177 180 rfl (fun o5 hf => ?_)
    refine x_iconst X (v := 0) d_Model_look_180 (by decide) 181 rfl ?_
    refine x_iconst X (v := 1) d_Model_look_181 (by decide) 182 rfl ?_
    refine x_iast X hf d_Model_look_182 183 rfl (fun h6 hf => ?_)
    refine x_aload_n X (q := 0) d_Model_look_183 rfl 184 rfl ?_
    refine x_iconst X (v := 0) d_Model_look_184 (by decide) 185 rfl ?_
    refine x_put X hf (ci := 12) (j := 41) (ty := .int) rfl (by decide) rfl lf_Model_289 rfl (by decide +kernel) rfl rfl d_Model_look_185 188 rfl (fun h7 hf => ?_)
    refine x_iconst X (v := 0) d_Model_look_188 (by decide) 189 rfl ?_
    refine x_istore_n X (lv' := [(1, .int 0), (0, .ref a0)]) d_Model_look_189 rfl (by decide) rfl 190 rfl ?_
    exact x_sub [1, 0] rfl (t_Model_look_190 X hret hf)
  · refine x_aload_n X (q := 0) d_Model_look_55 rfl 56 rfl ?_
    refine x_iload_n X (q := 1) d_Model_look_56 rfl 57 rfl ?_
    refine x_callV0v X (t_Model_reckonBoth hf.2) hf.1 (ci := 12) rfl rfl lm_Model_280 im_Model_reckonBoth sl_Model_reckonBoth cd_Model_reckonBoth in_Model ds_Model_reckonBoth rfl rfl (Nat.le_of_ble_eq_true rfl) (Nat.le_of_ble_eq_true rfl) (Nat.le_of_ble_eq_true rfl) rfl rfl (Nat.le_refl 0) (Nat.le_refl 0) d_Model_look_57 60 rfl (fun h8 hf => ?_)
    refine x_aload_n X (q := 0) d_Model_look_60 rfl 61 rfl ?_
    refine x_getR X hf (ci := 12) (j := 34) rfl (by decide) rfl lf_Model_89 d_Model_look_61 64 rfl (fun o9 hf => ?_)
    refine x_iload_n X (q := 1) d_Model_look_64 rfl 65 rfl ?_
    refine x_lconst X (v := 0) d_Model_look_65 (by decide) 66 rfl ?_
    refine x_last X hf d_Model_look_66 67 rfl (fun h10 hf => ?_)
    refine x_iconst X (v := 0) d_Model_look_67 (by decide) 68 rfl ?_
    refine x_istore_n X (lv' := [(2, .int 0), (0, .ref a0), (1, .int x1)]) d_Model_look_68 rfl (by decide) rfl 69 rfl ?_
    exact x_sub [1, 2, 0] rfl (t_Model_look_69 X hret hk47 hf)
set_option maxRecDepth 100000 in
def wp_Model_look (z : Nat → Nat) (Q : xh → Prop) (a0 : Nat) (hp : xh) : Prop :=
  ∃ v1, fI hp a0 12 33 = some v1 ∧ ((v1 = 0 → (∃ h2, pV hp a0 12 33 (.int 1) = some h2 ∧ (∃ o3, fR h2 a0 12 10 = some o3 ∧ (∃ v4, aI h2 o3 0 1 = some v4 ∧ (∃ h5, pV h2 a0 12 39 (.int ((1 : Int32) <<< (v4 &&& 31))) = some h5 ∧ (∃ o6, fR h5 a0 12 10 = some o6 ∧ (∃ v7, aI h5 o6 0 2 = some v7 ∧ (∃ o8, fR h5 a0 12 10 = some o8 ∧ (∃ v9, aI h5 o8 0 7 = some v9 ∧ (∃ h10, pV h5 a0 12 40 (.int ((1 : Int32) <<< ((v7 + v9) &&& 31))) = some h10 ∧ wp_Model_look_47 z Q a0 0 h10)))))))))) ∧ (¬ v1 = 0 → Q hp))
set_option maxRecDepth 100000 in
set_option maxHeartbeats 4000000 in
theorem t_Model_look {l : Launch} {G : xG} {z : Nat → Nat} {Q : xh → Prop} {a0 : Nat} {hp : xh} (hf : wp_Model_look z Q a0 hp) : xM l G z y_Model_look b_Model_look 5 none rm_Model_look [.ref a0] hp (xqv Q) := by
  refine xM_of (by decide) (Nat.le_of_ble_eq_true rfl) (lv0 := [(0, .ref a0)]) rfl ?_
  intro p e s m args below meth c A Qw X hret
  unfold wp_Model_look at hf
  refine x_aload_n X (q := 0) d_Model_look_0 rfl 1 rfl ?_
  refine x_getI X hf (ci := 12) (j := 33) rfl (by decide) rfl lf_Model_200 d_Model_look_1 4 rfl (fun v1 hf => ?_)
  refine x_if_eq X hf d_Model_look_4 8 7 (by decide) rfl (fun hf => ?_) (fun hf => ?_)
  · refine x_aload_n X (q := 0) d_Model_look_8 rfl 9 rfl ?_
    refine x_iconst X (v := 1) d_Model_look_9 (by decide) 10 rfl ?_
    refine x_put X hf (ci := 12) (j := 33) (ty := .boolean) rfl (by decide) rfl lf_Model_200 rfl (by decide +kernel) (xbl_nar (Or.inr rfl)) (xbl_fit (Or.inr rfl)) d_Model_look_10 13 rfl (fun h2 hf => ?_)
    refine x_aload_n X (q := 0) d_Model_look_13 rfl 14 rfl ?_
    refine x_iconst X (v := 1) d_Model_look_14 (by decide) 15 rfl ?_
    refine x_aload_n X (q := 0) d_Model_look_15 rfl 16 rfl ?_
    refine x_getR X hf (ci := 12) (j := 10) rfl (by decide) rfl lf_Model_20 d_Model_look_16 19 rfl (fun o3 hf => ?_)
    refine x_iconst X (v := 1) d_Model_look_19 (by decide) 20 rfl ?_
    refine x_iald X hf d_Model_look_20 21 rfl (fun v4 hf => ?_)
    refine x_ishl X d_Model_look_21 22 rfl ?_
    refine x_put X hf (ci := 12) (j := 39) (ty := .int) rfl (by decide) rfl lf_Model_274 rfl (by decide +kernel) rfl rfl d_Model_look_22 25 rfl (fun h5 hf => ?_)
    refine x_aload_n X (q := 0) d_Model_look_25 rfl 26 rfl ?_
    refine x_iconst X (v := 1) d_Model_look_26 (by decide) 27 rfl ?_
    refine x_aload_n X (q := 0) d_Model_look_27 rfl 28 rfl ?_
    refine x_getR X hf (ci := 12) (j := 10) rfl (by decide) rfl lf_Model_20 d_Model_look_28 31 rfl (fun o6 hf => ?_)
    refine x_iconst X (v := 2) d_Model_look_31 (by decide) 32 rfl ?_
    refine x_iald X hf d_Model_look_32 33 rfl (fun v7 hf => ?_)
    refine x_aload_n X (q := 0) d_Model_look_33 rfl 34 rfl ?_
    refine x_getR X hf (ci := 12) (j := 10) rfl (by decide) rfl lf_Model_20 d_Model_look_34 37 rfl (fun o8 hf => ?_)
    refine x_bipush X (v := 7) d_Model_look_37 (by decide) 39 rfl ?_
    refine x_iald X hf d_Model_look_39 40 rfl (fun v9 hf => ?_)
    refine x_iadd X d_Model_look_40 41 rfl ?_
    refine x_ishl X d_Model_look_41 42 rfl ?_
    refine x_put X hf (ci := 12) (j := 40) (ty := .int) rfl (by decide) rfl lf_Model_277 rfl (by decide +kernel) rfl rfl d_Model_look_42 45 rfl (fun h10 hf => ?_)
    refine x_iconst X (v := 0) d_Model_look_45 (by decide) 46 rfl ?_
    refine x_istore_n X (lv' := [(1, .int 0), (0, .ref a0)]) d_Model_look_46 rfl (by decide) rfl 47 rfl ?_
    exact x_sub [1, 0] rfl (t_Model_look_47 X hret hf)
  · exact hret _ _ _ _ _ none (Nat.le_refl 0) (Nat.le_refl 0) ⟨rfl, hf⟩ ⟨rfl, d_Model_look_7⟩

set_option maxRecDepth 100000 in
def wp_Model_none_18 (z : Nat → Nat) (Q : Int32 → xh → Prop)  (a0 : Nat) (s1 : Int32) (s0 : Nat) (hp : xh) : Prop :=
  xcls hp s0 12 ∧ wp_Model_fails z (fun v2 h1 => (v2 = 0 → (xcls h1 a0 12 ∧ wp_Model_look z (fun h4 => Q 0 h4) a0 h1)) ∧ (¬ v2 = 0 → Q 1 h1)) s0 s1 1 hp
set_option maxRecDepth 100000 in
set_option maxHeartbeats 4000000 in
theorem t_Model_none_18 {p : Program} {l : Launch} {e : Env} {s : State} {m : MethodId} {args : Array Value} {below : List Frame} {meth : Method} {c : Code} {G : xG} {z : Nat → Nat} {A : Nat → Prop} {Qw : State → Prop} {Q : Int32 → xh → Prop} {a0 : Nat} {s1 : Int32} {s0 : Nat} {hp : xh} (X : xX p l e rm_Model_none s m args below meth c G z A y_Model_none b_Model_none 1) (hret : xRet p l e rm_Model_none s m args below meth c G A 1 Qw b_Model_none (some .boolean) (xqz Q))  (hf : wp_Model_none_18 z Q  a0 s1 s0 hp) : xE p l e rm_Model_none s m args below meth c G A 1 Qw 0 0 hp 18 [(0, .ref a0)] [.int s1, .ref s0] := by
  unfold wp_Model_none_18 at hf
  refine x_iconst X (v := 1) d_Model_none_18 (by decide) 19 rfl ?_
  refine x_callV0z X (t_Model_fails hf.2) hf.1 (ci := 12) rfl rfl lm_Model_301 im_Model_fails sl_Model_fails cd_Model_fails in_Model ds_Model_fails rfl rfl (Nat.le_of_ble_eq_true rfl) (Nat.le_of_ble_eq_true rfl) (Nat.le_of_ble_eq_true rfl) rfl rfl (Nat.le_refl 0) (Nat.le_refl 0) d_Model_none_19 22 rfl (fun v2 h1 hb3 hf => ?_)
  refine x_if_eq X hf d_Model_none_22 27 25 (by decide) rfl (fun hf => ?_) (fun hf => ?_)
  · refine x_aload_n X (q := 0) d_Model_none_27 rfl 28 rfl ?_
    refine x_callV0v X (t_Model_look hf.2) hf.1 (ci := 12) rfl rfl lm_Model_305 im_Model_look sl_Model_look cd_Model_look in_Model ds_Model_look rfl rfl (Nat.le_of_ble_eq_true rfl) (Nat.le_of_ble_eq_true rfl) (Nat.le_of_ble_eq_true rfl) rfl rfl (Nat.le_refl 0) (Nat.le_refl 0) d_Model_none_28 31 rfl (fun h4 hf => ?_)
    refine x_iconst X (v := 0) d_Model_none_31 (by decide) 32 rfl ?_
    exact hret _ _ _ _ _ (some (.int 0)) (Nat.le_refl 0) (Nat.le_refl 0) ⟨_, rfl, (Or.inl rfl), hf⟩ ⟨⟨_, rfl, xbl_nar (Or.inl rfl)⟩, d_Model_none_32⟩
  · refine x_iconst X (v := 1) d_Model_none_25 (by decide) 26 rfl ?_
    exact hret _ _ _ _ _ (some (.int 1)) (Nat.le_refl 0) (Nat.le_refl 0) ⟨_, rfl, (Or.inr rfl), hf⟩ ⟨⟨_, rfl, xbl_nar (Or.inr rfl)⟩, d_Model_none_26⟩
set_option maxRecDepth 100000 in
def wp_Model_none (z : Nat → Nat) (Q : Int32 → xh → Prop) (a0 : Nat) (hp : xh) : Prop :=
  ∃ h1, pV hp a0 12 0 (.int 0) = some h1 ∧ (xcls h1 a0 12 ∧ wp_Model_matches z (fun v3 h2 => (¬ v3 = 0 → wp_Model_none_18 z Q a0 0 a0 h2) ∧ (v3 = 0 → wp_Model_none_18 z Q a0 1 a0 h2)) a0 h1)
set_option maxRecDepth 100000 in
set_option maxHeartbeats 4000000 in
theorem t_Model_none {l : Launch} {G : xG} {z : Nat → Nat} {Q : Int32 → xh → Prop} {a0 : Nat} {hp : xh} (hf : wp_Model_none z Q a0 hp) : xM l G z y_Model_none b_Model_none 1 (some .boolean) rm_Model_none [.ref a0] hp (xqz Q) := by
  refine xM_of (by decide) (Nat.le_of_ble_eq_true rfl) (lv0 := [(0, .ref a0)]) rfl ?_
  intro p e s m args below meth c A Qw X hret
  unfold wp_Model_none at hf
  refine x_aload_n X (q := 0) d_Model_none_0 rfl 1 rfl ?_
  refine x_iconst X (v := 0) d_Model_none_1 (by decide) 2 rfl ?_
  refine x_put X hf (ci := 12) (j := 0) (ty := .int) rfl (by decide) rfl lf_Model_127 rfl (by decide +kernel) rfl rfl d_Model_none_2 5 rfl (fun h1 hf => ?_)
  refine x_aload_n X (q := 0) d_Model_none_5 rfl 6 rfl ?_
  refine x_aload_n X (q := 0) d_Model_none_6 rfl 7 rfl ?_
  refine x_callV0z X (t_Model_matches hf.2) hf.1 (ci := 12) rfl rfl lm_Model_298 im_Model_matches sl_Model_matches cd_Model_matches in_Model ds_Model_matches rfl rfl (Nat.le_of_ble_eq_true rfl) (Nat.le_of_ble_eq_true rfl) (Nat.le_of_ble_eq_true rfl) rfl rfl (Nat.le_refl 0) (Nat.le_refl 0) d_Model_none_7 10 rfl (fun v3 h2 hb4 hf => ?_)
  refine x_if_ne X hf d_Model_none_10 17 13 (by decide) rfl (fun hf => ?_) (fun hf => ?_)
  · refine x_iconst X (v := 0) d_Model_none_17 (by decide) 18 rfl ?_
    exact x_sub [0] rfl (t_Model_none_18 X hret hf)
  · refine x_iconst X (v := 1) d_Model_none_13 (by decide) 14 rfl ?_
    refine x_goto X d_Model_none_14 18 (by decide) ?_
    exact x_sub [0] rfl (t_Model_none_18 X hret hf)

set_option maxRecDepth 100000 in
def wp_Model_judge (z : Nat → Nat) (Q : Int32 → xh → Prop) (a0 : Nat) (hp : xh) : Prop :=
  xcls hp a0 12 ∧ wp_Model_none z (fun v2 h1 => (v2 = 0 → (∃ v4, fI h1 a0 12 41 = some v4 ∧ Q v4 h1)) ∧ (¬ v2 = 0 → Q 0 h1)) a0 hp
set_option maxRecDepth 100000 in
set_option maxHeartbeats 4000000 in
theorem t_Model_judge {l : Launch} {G : xG} {z : Nat → Nat} {Q : Int32 → xh → Prop} {a0 : Nat} {hp : xh} (hf : wp_Model_judge z Q a0 hp) : xM l G z y_Model_judge b_Model_judge 1 (some .int) rm_Model_judge [.ref a0] hp (xqi Q) := by
  refine xM_of (by decide) (Nat.le_of_ble_eq_true rfl) (lv0 := [(0, .ref a0)]) rfl ?_
  intro p e s m args below meth c A Qw X hret
  unfold wp_Model_judge at hf
  refine x_aload_n X (q := 0) d_Model_judge_0 rfl 1 rfl ?_
  refine x_callV0z X (t_Model_none hf.2) hf.1 (ci := 12) rfl rfl lm_Model_308 im_Model_none sl_Model_none cd_Model_none in_Model ds_Model_none rfl rfl (Nat.le_of_ble_eq_true rfl) (Nat.le_of_ble_eq_true rfl) (Nat.le_of_ble_eq_true rfl) rfl rfl (Nat.le_refl 0) (Nat.le_refl 0) d_Model_judge_1 4 rfl (fun v2 h1 hb3 hf => ?_)
  refine x_if_eq X hf d_Model_judge_4 11 7 (by decide) rfl (fun hf => ?_) (fun hf => ?_)
  · refine x_aload_n X (q := 0) d_Model_judge_11 rfl 12 rfl ?_
    refine x_getI X hf (ci := 12) (j := 41) rfl (by decide) rfl lf_Model_289 d_Model_judge_12 15 rfl (fun v4 hf => ?_)
    exact hret _ _ _ _ _ (some (.int v4)) (Nat.le_refl 0) (Nat.le_refl 0) ⟨_, rfl, hf⟩ ⟨⟨_, rfl, rfl⟩, d_Model_judge_15⟩
  · refine x_iconst X (v := 0) d_Model_judge_7 (by decide) 8 rfl ?_
    refine x_goto X d_Model_judge_8 15 (by decide) ?_
    exact hret _ _ _ _ _ (some (.int 0)) (Nat.le_refl 0) (Nat.le_refl 0) ⟨_, rfl, hf⟩ ⟨⟨_, rfl, rfl⟩, d_Model_judge_15⟩

set_option maxRecDepth 100000 in
def wp_Model_witness_37 (z : Nat → Nat) (Q : Int32 → xh → Prop)   (hp : xh) : Prop :=
  Q (-1) hp
set_option maxRecDepth 100000 in
set_option maxHeartbeats 4000000 in
theorem t_Model_witness_37 {p : Program} {l : Launch} {e : Env} {s : State} {m : MethodId} {args : Array Value} {below : List Frame} {meth : Method} {c : Code} {G : xG} {z : Nat → Nat} {A : Nat → Prop} {Qw : State → Prop} {Q : Int32 → xh → Prop}  {hp : xh} (X : xX p l e rm_Model_witness s m args below meth c G z A y_Model_witness b_Model_witness 2) (hret : xRet p l e rm_Model_witness s m args below meth c G A 2 Qw b_Model_witness (some .int) (xqi Q))  (hf : wp_Model_witness_37 z Q  hp) : xE p l e rm_Model_witness s m args below meth c G A 2 Qw 0 0 hp 37 [] [] := by
  unfold wp_Model_witness_37 at hf
  refine x_iconst X (v := (-1)) d_Model_witness_37 (by decide) 38 rfl ?_
  refine x_goto X d_Model_witness_38 47 (by decide) ?_
  exact hret _ _ _ _ _ (some (.int (-1))) (Nat.le_refl 0) (Nat.le_refl 0) ⟨_, rfl, hf⟩ ⟨⟨_, rfl, rfl⟩, d_Model_witness_47⟩
set_option maxRecDepth 100000 in
def wp_Model_witness (z : Nat → Nat) (Q : Int32 → xh → Prop) (a0 : Nat) (x1 : Int32) (hp : xh) : Prop :=
  ∃ h1, pV hp a0 12 0 (.int 0) = some h1 ∧ (xcls h1 a0 12 ∧ wp_Model_matches z (fun v3 h2 => (¬ v3 = 0 → (xcls h2 a0 12 ∧ wp_Model_look z (fun h5 => (x1 < 0 → wp_Model_witness_37 z Q h5) ∧ (¬ x1 < 0 → ((255 < x1 → wp_Model_witness_37 z Q h5) ∧ (¬ 255 < x1 → (∃ v6, fI h5 a0 12 41 = some v6 ∧ ((x1 < v6 → (∃ o7, fR h5 a0 12 45 = some o7 ∧ (∃ v8, aI h5 o7 0 x1 = some v8 ∧ Q v8 h5))) ∧ (¬ x1 < v6 → wp_Model_witness_37 z Q h5))))))) a0 h2)) ∧ (v3 = 0 → (Q (-1) h2))) a0 h1)
set_option maxRecDepth 100000 in
set_option maxHeartbeats 4000000 in
theorem t_Model_witness {l : Launch} {G : xG} {z : Nat → Nat} {Q : Int32 → xh → Prop} {a0 : Nat} {x1 : Int32} {hp : xh} (hf : wp_Model_witness z Q a0 x1 hp) : xM l G z y_Model_witness b_Model_witness 2 (some .int) rm_Model_witness [.ref a0, .int x1] hp (xqi Q) := by
  refine xM_of (by decide) (Nat.le_of_ble_eq_true rfl) (lv0 := [(0, .ref a0), (1, .int x1)]) rfl ?_
  intro p e s m args below meth c A Qw X hret
  unfold wp_Model_witness at hf
  refine x_aload_n X (q := 0) d_Model_witness_0 rfl 1 rfl ?_
  refine x_iconst X (v := 0) d_Model_witness_1 (by decide) 2 rfl ?_
  refine x_put X hf (ci := 12) (j := 0) (ty := .int) rfl (by decide) rfl lf_Model_127 rfl (by decide +kernel) rfl rfl d_Model_witness_2 5 rfl (fun h1 hf => ?_)
  refine x_aload_n X (q := 0) d_Model_witness_5 rfl 6 rfl ?_
  refine x_callV0z X (t_Model_matches hf.2) hf.1 (ci := 12) rfl rfl lm_Model_298 im_Model_matches sl_Model_matches cd_Model_matches in_Model ds_Model_matches rfl rfl (Nat.le_of_ble_eq_true rfl) (Nat.le_of_ble_eq_true rfl) (Nat.le_of_ble_eq_true rfl) rfl rfl (Nat.le_refl 0) (Nat.le_refl 0) d_Model_witness_6 9 rfl (fun v3 h2 hb4 hf => ?_)
  refine x_if_ne X hf d_Model_witness_9 14 12 (by decide) rfl (fun hf => ?_) (fun hf => ?_)
  · refine x_aload_n X (q := 0) d_Model_witness_14 rfl 15 rfl ?_
    refine x_callV0v X (t_Model_look hf.2) hf.1 (ci := 12) rfl rfl lm_Model_305 im_Model_look sl_Model_look cd_Model_look in_Model ds_Model_look rfl rfl (Nat.le_of_ble_eq_true rfl) (Nat.le_of_ble_eq_true rfl) (Nat.le_of_ble_eq_true rfl) rfl rfl (Nat.le_refl 0) (Nat.le_refl 0) d_Model_witness_15 18 rfl (fun h5 hf => ?_)
    refine x_iload_n X (q := 1) d_Model_witness_18 rfl 19 rfl ?_
    refine x_if_lt X hf d_Model_witness_19 37 22 (by decide) rfl (fun hf => ?_) (fun hf => ?_)
    · exact x_sub [] rfl (t_Model_witness_37 X hret hf)
    · refine x_iload_n X (q := 1) d_Model_witness_22 rfl 23 rfl ?_
      refine x_sipush X (v := 255) d_Model_witness_23 (by decide) 26 rfl ?_
      refine x_icmp_gt X hf d_Model_witness_26 37 29 (by decide) rfl (fun hf => ?_) (fun hf => ?_)
      · exact x_sub [] rfl (t_Model_witness_37 X hret hf)
      · refine x_iload_n X (q := 1) d_Model_witness_29 rfl 30 rfl ?_
        refine x_aload_n X (q := 0) d_Model_witness_30 rfl 31 rfl ?_
        refine x_getI X hf (ci := 12) (j := 41) rfl (by decide) rfl lf_Model_289 d_Model_witness_31 34 rfl (fun v6 hf => ?_)
        refine x_icmp_lt X hf d_Model_witness_34 41 37 (by decide) rfl (fun hf => ?_) (fun hf => ?_)
        · refine x_aload_n X (q := 0) d_Model_witness_41 rfl 42 rfl ?_
          refine x_getR X hf (ci := 12) (j := 45) rfl (by decide) rfl lf_Model_112 d_Model_witness_42 45 rfl (fun o7 hf => ?_)
          refine x_iload_n X (q := 1) d_Model_witness_45 rfl 46 rfl ?_
          refine x_iald X hf d_Model_witness_46 47 rfl (fun v8 hf => ?_)
          exact hret _ _ _ _ _ (some (.int v8)) (Nat.le_refl 0) (Nat.le_refl 0) ⟨_, rfl, hf⟩ ⟨⟨_, rfl, rfl⟩, d_Model_witness_47⟩
        · exact x_sub [] rfl (t_Model_witness_37 X hret hf)
  · refine x_iconst X (v := (-1)) d_Model_witness_12 (by decide) 13 rfl ?_
    exact hret _ _ _ _ _ (some (.int (-1))) (Nat.le_refl 0) (Nat.le_refl 0) ⟨_, rfl, hf⟩ ⟨⟨_, rfl, rfl⟩, d_Model_witness_13⟩

set_option maxRecDepth 100000 in
def wp_Model_blame_35 (z : Nat → Nat) (Q : Int32 → xh → Prop)   (hp : xh) : Prop :=
  Q (-1) hp
set_option maxRecDepth 100000 in
set_option maxHeartbeats 4000000 in
theorem t_Model_blame_35 {p : Program} {l : Launch} {e : Env} {s : State} {m : MethodId} {args : Array Value} {below : List Frame} {meth : Method} {c : Code} {G : xG} {z : Nat → Nat} {A : Nat → Prop} {Qw : State → Prop} {Q : Int32 → xh → Prop}  {hp : xh} (X : xX p l e rm_Model_blame s m args below meth c G z A y_Model_blame b_Model_blame 1) (hret : xRet p l e rm_Model_blame s m args below meth c G A 1 Qw b_Model_blame (some .int) (xqi Q))  (hf : wp_Model_blame_35 z Q  hp) : xE p l e rm_Model_blame s m args below meth c G A 1 Qw 0 0 hp 35 [] [] := by
  unfold wp_Model_blame_35 at hf
  refine x_iconst X (v := (-1)) d_Model_blame_35 (by decide) 36 rfl ?_
  refine x_goto X d_Model_blame_36 43 (by decide) ?_
  exact hret _ _ _ _ _ (some (.int (-1))) (Nat.le_refl 0) (Nat.le_refl 0) ⟨_, rfl, hf⟩ ⟨⟨_, rfl, rfl⟩, d_Model_blame_43⟩
set_option maxRecDepth 100000 in
def wp_Model_blame (z : Nat → Nat) (Q : Int32 → xh → Prop) (a0 : Nat) (hp : xh) : Prop :=
  ∃ h1, pV hp a0 12 0 (.int 0) = some h1 ∧ (xcls h1 a0 12 ∧ wp_Model_matches z (fun v3 h2 => (¬ v3 = 0 → (xcls h2 a0 12 ∧ wp_Model_look z (fun h5 => ∃ v6, fI h5 a0 12 41 = some v6 ∧ ((v6 = 0 → wp_Model_blame_35 z Q h5) ∧ (¬ v6 = 0 → (∃ v7, fI h5 a0 12 41 = some v7 ∧ ((v7 ≤ 256 → (∃ v8, fI h5 a0 12 46 = some v8 ∧ Q v8 h5)) ∧ (¬ v7 ≤ 256 → wp_Model_blame_35 z Q h5)))))) a0 h2)) ∧ (v3 = 0 → (Q (-1) h2))) a0 h1)
set_option maxRecDepth 100000 in
set_option maxHeartbeats 4000000 in
theorem t_Model_blame {l : Launch} {G : xG} {z : Nat → Nat} {Q : Int32 → xh → Prop} {a0 : Nat} {hp : xh} (hf : wp_Model_blame z Q a0 hp) : xM l G z y_Model_blame b_Model_blame 1 (some .int) rm_Model_blame [.ref a0] hp (xqi Q) := by
  refine xM_of (by decide) (Nat.le_of_ble_eq_true rfl) (lv0 := [(0, .ref a0)]) rfl ?_
  intro p e s m args below meth c A Qw X hret
  unfold wp_Model_blame at hf
  refine x_aload_n X (q := 0) d_Model_blame_0 rfl 1 rfl ?_
  refine x_iconst X (v := 0) d_Model_blame_1 (by decide) 2 rfl ?_
  refine x_put X hf (ci := 12) (j := 0) (ty := .int) rfl (by decide) rfl lf_Model_127 rfl (by decide +kernel) rfl rfl d_Model_blame_2 5 rfl (fun h1 hf => ?_)
  refine x_aload_n X (q := 0) d_Model_blame_5 rfl 6 rfl ?_
  refine x_callV0z X (t_Model_matches hf.2) hf.1 (ci := 12) rfl rfl lm_Model_298 im_Model_matches sl_Model_matches cd_Model_matches in_Model ds_Model_matches rfl rfl (Nat.le_of_ble_eq_true rfl) (Nat.le_of_ble_eq_true rfl) (Nat.le_of_ble_eq_true rfl) rfl rfl (Nat.le_refl 0) (Nat.le_refl 0) d_Model_blame_6 9 rfl (fun v3 h2 hb4 hf => ?_)
  refine x_if_ne X hf d_Model_blame_9 14 12 (by decide) rfl (fun hf => ?_) (fun hf => ?_)
  · refine x_aload_n X (q := 0) d_Model_blame_14 rfl 15 rfl ?_
    refine x_callV0v X (t_Model_look hf.2) hf.1 (ci := 12) rfl rfl lm_Model_305 im_Model_look sl_Model_look cd_Model_look in_Model ds_Model_look rfl rfl (Nat.le_of_ble_eq_true rfl) (Nat.le_of_ble_eq_true rfl) (Nat.le_of_ble_eq_true rfl) rfl rfl (Nat.le_refl 0) (Nat.le_refl 0) d_Model_blame_15 18 rfl (fun h5 hf => ?_)
    refine x_aload_n X (q := 0) d_Model_blame_18 rfl 19 rfl ?_
    refine x_getI X hf (ci := 12) (j := 41) rfl (by decide) rfl lf_Model_289 d_Model_blame_19 22 rfl (fun v6 hf => ?_)
    refine x_if_eq X hf d_Model_blame_22 35 25 (by decide) rfl (fun hf => ?_) (fun hf => ?_)
    · exact x_sub [] rfl (t_Model_blame_35 X hret hf)
    · refine x_aload_n X (q := 0) d_Model_blame_25 rfl 26 rfl ?_
      refine x_getI X hf (ci := 12) (j := 41) rfl (by decide) rfl lf_Model_289 d_Model_blame_26 29 rfl (fun v7 hf => ?_)
      refine x_sipush X (v := 256) d_Model_blame_29 (by decide) 32 rfl ?_
      refine x_icmp_le X hf d_Model_blame_32 39 35 (by decide) rfl (fun hf => ?_) (fun hf => ?_)
      · refine x_aload_n X (q := 0) d_Model_blame_39 rfl 40 rfl ?_
        refine x_getI X hf (ci := 12) (j := 46) rfl (by decide) rfl lf_Model_295 d_Model_blame_40 43 rfl (fun v8 hf => ?_)
        exact hret _ _ _ _ _ (some (.int v8)) (Nat.le_refl 0) (Nat.le_refl 0) ⟨_, rfl, hf⟩ ⟨⟨_, rfl, rfl⟩, d_Model_blame_43⟩
      · exact x_sub [] rfl (t_Model_blame_35 X hret hf)
  · refine x_iconst X (v := (-1)) d_Model_blame_12 (by decide) 13 rfl ?_
    exact hret _ _ _ _ _ (some (.int (-1))) (Nat.le_refl 0) (Nat.le_refl 0) ⟨_, rfl, hf⟩ ⟨⟨_, rfl, rfl⟩, d_Model_blame_13⟩

set_option maxRecDepth 100000 in
def wp_Model_differs_24 (z : Nat → Nat) (Q : Int32 → xh → Prop)  (a0 : Nat) (x1 : Int32) (s1 : Int32) (s0 : Nat) (hp : xh) : Prop :=
  xcls hp s0 12 ∧ wp_Model_fails z (fun v2 h1 => (v2 = 0 → (∃ v4, fI h1 a0 12 41 = some v4 ∧ ((x1 < v4 → Q 0 h1) ∧ (¬ x1 < v4 → (∃ v5, fI h1 a0 12 41 = some v5 ∧ Q v5 h1))))) ∧ (¬ v2 = 0 → Q 0 h1)) s0 s1 2 hp
set_option maxRecDepth 100000 in
set_option maxHeartbeats 4000000 in
theorem t_Model_differs_24 {p : Program} {l : Launch} {e : Env} {s : State} {m : MethodId} {args : Array Value} {below : List Frame} {meth : Method} {c : Code} {G : xG} {z : Nat → Nat} {A : Nat → Prop} {Qw : State → Prop} {Q : Int32 → xh → Prop} {a0 : Nat} {x1 : Int32} {s1 : Int32} {s0 : Nat} {hp : xh} (X : xX p l e rm_Model_differs s m args below meth c G z A y_Model_differs b_Model_differs 2) (hret : xRet p l e rm_Model_differs s m args below meth c G A 2 Qw b_Model_differs (some .int) (xqi Q))  (hf : wp_Model_differs_24 z Q  a0 x1 s1 s0 hp) : xE p l e rm_Model_differs s m args below meth c G A 2 Qw 0 0 hp 24 [(0, .ref a0), (1, .int x1)] [.int s1, .ref s0] := by
  unfold wp_Model_differs_24 at hf
  refine x_iconst X (v := 2) d_Model_differs_24 (by decide) 25 rfl ?_
  refine x_callV0z X (t_Model_fails hf.2) hf.1 (ci := 12) rfl rfl lm_Model_301 im_Model_fails sl_Model_fails cd_Model_fails in_Model ds_Model_fails rfl rfl (Nat.le_of_ble_eq_true rfl) (Nat.le_of_ble_eq_true rfl) (Nat.le_of_ble_eq_true rfl) rfl rfl (Nat.le_refl 0) (Nat.le_refl 0) d_Model_differs_25 28 rfl (fun v2 h1 hb3 hf => ?_)
  refine x_if_eq X hf d_Model_differs_28 33 31 (by decide) rfl (fun hf => ?_) (fun hf => ?_)
  · refine x_aload_n X (q := 0) d_Model_differs_33 rfl 34 rfl ?_
    refine x_getI X hf (ci := 12) (j := 41) rfl (by decide) rfl lf_Model_289 d_Model_differs_34 37 rfl (fun v4 hf => ?_)
    refine x_iload_n X (q := 1) d_Model_differs_37 rfl 38 rfl ?_
    refine x_icmp_gt X hf d_Model_differs_38 48 41 (by decide) rfl (fun hf => ?_) (fun hf => ?_)
    · refine x_iconst X (v := 0) d_Model_differs_48 (by decide) 49 rfl ?_
      exact hret _ _ _ _ _ (some (.int 0)) (Nat.le_refl 0) (Nat.le_refl 0) ⟨_, rfl, hf⟩ ⟨⟨_, rfl, rfl⟩, d_Model_differs_49⟩
    · refine x_aload_n X (q := 0) d_Model_differs_41 rfl 42 rfl ?_
      refine x_getI X hf (ci := 12) (j := 41) rfl (by decide) rfl lf_Model_289 d_Model_differs_42 45 rfl (fun v5 hf => ?_)
      refine x_goto X d_Model_differs_45 49 (by decide) ?_
      exact hret _ _ _ _ _ (some (.int v5)) (Nat.le_refl 0) (Nat.le_refl 0) ⟨_, rfl, hf⟩ ⟨⟨_, rfl, rfl⟩, d_Model_differs_49⟩
  · refine x_iconst X (v := 0) d_Model_differs_31 (by decide) 32 rfl ?_
    exact hret _ _ _ _ _ (some (.int 0)) (Nat.le_refl 0) (Nat.le_refl 0) ⟨_, rfl, hf⟩ ⟨⟨_, rfl, rfl⟩, d_Model_differs_32⟩
set_option maxRecDepth 100000 in
def wp_Model_differs_19 (z : Nat → Nat) (Q : Int32 → xh → Prop)  (a0 : Nat) (x1 : Int32) (s0 : Nat) (hp : xh) : Prop :=
  wp_Model_differs_24 z Q a0 x1 1 s0 hp
set_option maxRecDepth 100000 in
set_option maxHeartbeats 4000000 in
theorem t_Model_differs_19 {p : Program} {l : Launch} {e : Env} {s : State} {m : MethodId} {args : Array Value} {below : List Frame} {meth : Method} {c : Code} {G : xG} {z : Nat → Nat} {A : Nat → Prop} {Qw : State → Prop} {Q : Int32 → xh → Prop} {a0 : Nat} {x1 : Int32} {s0 : Nat} {hp : xh} (X : xX p l e rm_Model_differs s m args below meth c G z A y_Model_differs b_Model_differs 2) (hret : xRet p l e rm_Model_differs s m args below meth c G A 2 Qw b_Model_differs (some .int) (xqi Q))  (hf : wp_Model_differs_19 z Q  a0 x1 s0 hp) : xE p l e rm_Model_differs s m args below meth c G A 2 Qw 0 0 hp 19 [(0, .ref a0), (1, .int x1)] [.ref s0] := by
  unfold wp_Model_differs_19 at hf
  refine x_iconst X (v := 1) d_Model_differs_19 (by decide) 20 rfl ?_
  refine x_goto X d_Model_differs_20 24 (by decide) ?_
  exact x_sub [0, 1] rfl (t_Model_differs_24 X hret hf)
set_option maxRecDepth 100000 in
def wp_Model_differs (z : Nat → Nat) (Q : Int32 → xh → Prop) (a0 : Nat) (x1 : Int32) (hp : xh) : Prop :=
  xcls hp a0 12 ∧ wp_Model_none z (fun v2 h1 => (¬ v2 = 0 → Q 0 h1) ∧ (v2 = 0 → ((x1 < 1 → wp_Model_differs_19 z Q a0 x1 a0 h1) ∧ (¬ x1 < 1 → ((x1 ≤ 16 → wp_Model_differs_24 z Q a0 x1 0 a0 h1) ∧ (¬ x1 ≤ 16 → wp_Model_differs_19 z Q a0 x1 a0 h1)))))) a0 hp
set_option maxRecDepth 100000 in
set_option maxHeartbeats 4000000 in
theorem t_Model_differs {l : Launch} {G : xG} {z : Nat → Nat} {Q : Int32 → xh → Prop} {a0 : Nat} {x1 : Int32} {hp : xh} (hf : wp_Model_differs z Q a0 x1 hp) : xM l G z y_Model_differs b_Model_differs 2 (some .int) rm_Model_differs [.ref a0, .int x1] hp (xqi Q) := by
  refine xM_of (by decide) (Nat.le_of_ble_eq_true rfl) (lv0 := [(0, .ref a0), (1, .int x1)]) rfl ?_
  intro p e s m args below meth c A Qw X hret
  unfold wp_Model_differs at hf
  refine x_aload_n X (q := 0) d_Model_differs_0 rfl 1 rfl ?_
  refine x_callV0z X (t_Model_none hf.2) hf.1 (ci := 12) rfl rfl lm_Model_308 im_Model_none sl_Model_none cd_Model_none in_Model ds_Model_none rfl rfl (Nat.le_of_ble_eq_true rfl) (Nat.le_of_ble_eq_true rfl) (Nat.le_of_ble_eq_true rfl) rfl rfl (Nat.le_refl 0) (Nat.le_refl 0) d_Model_differs_1 4 rfl (fun v2 h1 hb3 hf => ?_)
  refine x_if_ne X hf d_Model_differs_4 31 7 (by decide) rfl (fun hf => ?_) (fun hf => ?_)
  · refine x_iconst X (v := 0) d_Model_differs_31 (by decide) 32 rfl ?_
    exact hret _ _ _ _ _ (some (.int 0)) (Nat.le_refl 0) (Nat.le_refl 0) ⟨_, rfl, hf⟩ ⟨⟨_, rfl, rfl⟩, d_Model_differs_32⟩
  · refine x_aload_n X (q := 0) d_Model_differs_7 rfl 8 rfl ?_
    refine x_iload_n X (q := 1) d_Model_differs_8 rfl 9 rfl ?_
    refine x_iconst X (v := 1) d_Model_differs_9 (by decide) 10 rfl ?_
    refine x_icmp_lt X hf d_Model_differs_10 19 13 (by decide) rfl (fun hf => ?_) (fun hf => ?_)
    · exact x_sub [0, 1] rfl (t_Model_differs_19 X hret hf)
    · refine x_iload_n X (q := 1) d_Model_differs_13 rfl 14 rfl ?_
      refine x_bipush X (v := 16) d_Model_differs_14 (by decide) 16 rfl ?_
      refine x_icmp_le X hf d_Model_differs_16 23 19 (by decide) rfl (fun hf => ?_) (fun hf => ?_)
      · refine x_iconst X (v := 0) d_Model_differs_23 (by decide) 24 rfl ?_
        exact x_sub [0, 1] rfl (t_Model_differs_24 X hret hf)
      · exact x_sub [0, 1] rfl (t_Model_differs_19 X hret hf)

set_option maxRecDepth 100000 in
def wp_Model_inductive_266 (z : Nat → Nat) (Q : Int32 → xh → Prop)  (x2 : Int32) (hp : xh) : Prop :=
  (¬ x2 = 0 → Q 0 hp) ∧ (x2 = 0 → Q 1 hp)
set_option maxRecDepth 100000 in
set_option maxHeartbeats 4000000 in
theorem t_Model_inductive_266 {p : Program} {l : Launch} {e : Env} {s : State} {m : MethodId} {args : Array Value} {below : List Frame} {meth : Method} {c : Code} {G : xG} {z : Nat → Nat} {A : Nat → Prop} {Qw : State → Prop} {Q : Int32 → xh → Prop} {x2 : Int32} {hp : xh} (X : xX p l e rm_Model_inductive s m args below meth c G z A y_Model_inductive b_Model_inductive 6) (hret : xRet p l e rm_Model_inductive s m args below meth c G A 6 Qw b_Model_inductive (some .boolean) (xqz Q))  (hf : wp_Model_inductive_266 z Q  x2 hp) : xE p l e rm_Model_inductive s m args below meth c G A 6 Qw 0 0 hp 266 [(2, .int x2)] [] := by
  unfold wp_Model_inductive_266 at hf
  refine x_iload_n X (q := 0) d_Model_inductive_266 rfl 267 rfl ?_
  refine x_if_ne X hf d_Model_inductive_267 274 270 (by decide) rfl (fun hf => ?_) (fun hf => ?_)
  · refine x_iconst X (v := 0) d_Model_inductive_274 (by decide) 275 rfl ?_
    exact hret _ _ _ _ _ (some (.int 0)) (Nat.le_refl 0) (Nat.le_refl 0) ⟨_, rfl, (Or.inl rfl), hf⟩ ⟨⟨_, rfl, xbl_nar (Or.inl rfl)⟩, d_Model_inductive_275⟩
  · refine x_iconst X (v := 1) d_Model_inductive_270 (by decide) 271 rfl ?_
    refine x_goto X d_Model_inductive_271 275 (by decide) ?_
    exact hret _ _ _ _ _ (some (.int 1)) (Nat.le_refl 0) (Nat.le_refl 0) ⟨_, rfl, (Or.inr rfl), hf⟩ ⟨⟨_, rfl, xbl_nar (Or.inr rfl)⟩, d_Model_inductive_275⟩
set_option maxRecDepth 100000 in
def wp_Model_inductive_231_b (z : Nat → Nat) (Q : Int32 → xh → Prop) (k93 : Nat × Int32 × Int32 × Int32 × xh → Prop) (k231 : Nat × Int32 × Int32 × Int32 × Int32 × xh → Prop) (a0 : Nat) (x1 : Int32) (x2 : Int32) (x3 : Int32) (x4 : Int32) (hp : xh) : Prop :=
  ∃ v1, fI hp a0 12 40 = some v1 ∧ ((v1 ≤ x4 → (k93 (a0, x1, x2, (x3 + 1), hp))) ∧ (¬ v1 ≤ x4 → (∃ o2, fR hp a0 12 43 = some o2 ∧ (∃ o3, fR hp a0 12 44 = some o3 ∧ (∃ v4, aI hp o3 2 x4 = some v4 ∧ (∃ h5, sI hp o2 2 x4 (vp_nar .boolean v4) = some h5 ∧ (k231 (a0, x1, x2, x3, (x4 + 1), h5))))))))
set_option maxRecDepth 100000 in
def wp_Model_inductive_231 (z : Nat → Nat) (Q : Int32 → xh → Prop) (k93 : Nat × Int32 × Int32 × Int32 × xh → Prop) (a0 : Nat) (x1 : Int32) (x2 : Int32) (x3 : Int32) (x4 : Int32) (hp : xh) : Prop := ∃ f : Nat, xloop (fun k231 a => wp_Model_inductive_231_b z Q k93 k231 a.1 a.2.1 a.2.2.1 a.2.2.2.1 a.2.2.2.2.1 a.2.2.2.2.2) f (a0, x1, x2, x3, x4, hp)
set_option maxRecDepth 100000 in
set_option maxHeartbeats 4000000 in
theorem t_Model_inductive_231 {p : Program} {l : Launch} {e : Env} {s : State} {m : MethodId} {args : Array Value} {below : List Frame} {meth : Method} {c : Code} {G : xG} {z : Nat → Nat} {A : Nat → Prop} {Qw : State → Prop} {Q : Int32 → xh → Prop} {k93 : Nat × Int32 × Int32 × Int32 × xh → Prop} {a0 : Nat} {x1 : Int32} {x2 : Int32} {x3 : Int32} {x4 : Int32} {hp : xh} (X : xX p l e rm_Model_inductive s m args below meth c G z A y_Model_inductive b_Model_inductive 6) (hret : xRet p l e rm_Model_inductive s m args below meth c G A 6 Qw b_Model_inductive (some .boolean) (xqz Q)) (hk93 : ∀ (a0 : Nat) (x1 : Int32) (x2 : Int32) (x3 : Int32) (hp : xh), k93 (a0, x1, x2, x3, hp) → xE p l e rm_Model_inductive s m args below meth c G A 6 Qw 0 0 hp 93 [(0, .ref a0), (1, .int x1), (2, .int x2), (3, .int x3)] []) (hf : wp_Model_inductive_231 z Q k93 a0 x1 x2 x3 x4 hp) : xE p l e rm_Model_inductive s m args below meth c G A 6 Qw 0 0 hp 231 [(0, .ref a0), (1, .int x1), (2, .int x2), (3, .int x3), (4, .int x4)] [] := by
  obtain ⟨f, hf⟩ := hf
  refine xloop_ind (F := fun k231 a => wp_Model_inductive_231_b z Q k93 k231 a.1 a.2.1 a.2.2.1 a.2.2.2.1 a.2.2.2.2.1 a.2.2.2.2.2) (E := fun a => xE p l e rm_Model_inductive s m args below meth c G A 6 Qw 0 0 a.2.2.2.2.2 231 [(0, .ref (a.1)), (1, .int (a.2.1)), (2, .int (a.2.2.1)), (3, .int (a.2.2.2.1)), (4, .int (a.2.2.2.2.1))] []) ?_ f (a0, x1, x2, x3, x4, hp) hf
  intro k231 hk a hf
  obtain ⟨a0, x1, x2, x3, x4, hp⟩ := a
  have hk231 : ∀ (a0 : Nat) (x1 : Int32) (x2 : Int32) (x3 : Int32) (x4 : Int32) (hp : xh), k231 (a0, x1, x2, x3, x4, hp) → xE p l e rm_Model_inductive s m args below meth c G A 6 Qw 0 0 hp 231 [(0, .ref a0), (1, .int x1), (2, .int x2), (3, .int x3), (4, .int x4)] [] := fun a0 x1 x2 x3 x4 hp h => hk (a0, x1, x2, x3, x4, hp) h
  have hf : wp_Model_inductive_231_b z Q k93 k231 a0 x1 x2 x3 x4 hp := hf
  unfold wp_Model_inductive_231_b at hf
  refine x_iload X (q := 4) d_Model_inductive_231 rfl 233 rfl ?_
  refine x_aload_n X (q := 0) d_Model_inductive_233 rfl 234 rfl ?_
  refine x_getI X hf (ci := 12) (j := 40) rfl (by decide) rfl lf_Model_277 d_Model_inductive_234 237 rfl (fun v1 hf => ?_)
  refine x_icmp_ge X hf d_Model_inductive_237 260 240 (by decide) rfl (fun hf => ?_) (fun hf => ?_)
  · refine x_iinc X (q := 3) (v := (x3 + 1)) (lv' := [(3, .int (x3 + 1)), (0, .ref a0), (1, .int x1), (2, .int x2), (4, .int x4)]) d_Model_inductive_260 rfl (by rfl) (by decide) rfl 263 rfl ?_
    refine x_goto X d_Model_inductive_263 93 (by decide) ?_
    exact x_sub [1, 2, 3, 0] rfl (hk93 _ _ _ _ _ hf)
  · refine x_aload_n X (q := 0) d_Model_inductive_240 rfl 241 rfl ?_
    refine x_getR X hf (ci := 12) (j := 43) rfl (by decide) rfl lf_Model_106 d_Model_inductive_241 244 rfl (fun o2 hf => ?_)
    refine x_iload X (q := 4) d_Model_inductive_244 rfl 246 rfl ?_
    refine x_aload_n X (q := 0) d_Model_inductive_246 rfl 247 rfl ?_
    refine x_getR X hf (ci := 12) (j := 44) rfl (by decide) rfl lf_Model_109 d_Model_inductive_247 250 rfl (fun o3 hf => ?_)
    refine x_iload X (q := 4) d_Model_inductive_250 rfl 252 rfl ?_
    refine x_zald X hf d_Model_inductive_252 253 rfl (fun v4 hf => ?_)
    refine x_zast X hf d_Model_inductive_253 254 rfl (fun h5 hf => ?_)
    refine x_iinc X (q := 4) (v := (x4 + 1)) (lv' := [(4, .int (x4 + 1)), (0, .ref a0), (1, .int x1), (2, .int x2), (3, .int x3)]) d_Model_inductive_254 rfl (by rfl) (by decide) rfl 257 rfl ?_
    refine x_goto X d_Model_inductive_257 231 (by decide) ?_
    exact x_sub [1, 2, 3, 4, 0] rfl (hk231 _ _ _ _ _ _ hf)
set_option maxRecDepth 100000 in
def wp_Model_inductive_221 (z : Nat → Nat) (Q : Int32 → xh → Prop) (k93 : Nat × Int32 × Int32 × Int32 × xh → Prop) (k107 : Nat × Int32 × Int32 × Int32 × Int32 × xh → Prop) (a0 : Nat) (x1 : Int32) (x3 : Int32) (x4 : Int32) (s0 : Int32) (hp : xh) : Prop :=
  k107 (a0, x1, s0, x3, (x4 + 1), hp)
set_option maxRecDepth 100000 in
set_option maxHeartbeats 4000000 in
theorem t_Model_inductive_221 {p : Program} {l : Launch} {e : Env} {s : State} {m : MethodId} {args : Array Value} {below : List Frame} {meth : Method} {c : Code} {G : xG} {z : Nat → Nat} {A : Nat → Prop} {Qw : State → Prop} {Q : Int32 → xh → Prop} {k93 : Nat × Int32 × Int32 × Int32 × xh → Prop} {k107 : Nat × Int32 × Int32 × Int32 × Int32 × xh → Prop} {a0 : Nat} {x1 : Int32} {x3 : Int32} {x4 : Int32} {s0 : Int32} {hp : xh} (X : xX p l e rm_Model_inductive s m args below meth c G z A y_Model_inductive b_Model_inductive 6) (hret : xRet p l e rm_Model_inductive s m args below meth c G A 6 Qw b_Model_inductive (some .boolean) (xqz Q)) (hk93 : ∀ (a0 : Nat) (x1 : Int32) (x2 : Int32) (x3 : Int32) (hp : xh), k93 (a0, x1, x2, x3, hp) → xE p l e rm_Model_inductive s m args below meth c G A 6 Qw 0 0 hp 93 [(0, .ref a0), (1, .int x1), (2, .int x2), (3, .int x3)] []) (hk107 : ∀ (a0 : Nat) (x1 : Int32) (x2 : Int32) (x3 : Int32) (x4 : Int32) (hp : xh), k107 (a0, x1, x2, x3, x4, hp) → xE p l e rm_Model_inductive s m args below meth c G A 6 Qw 0 0 hp 107 [(0, .ref a0), (1, .int x1), (2, .int x2), (3, .int x3), (4, .int x4)] []) (hf : wp_Model_inductive_221 z Q k93 k107 a0 x1 x3 x4 s0 hp) : xE p l e rm_Model_inductive s m args below meth c G A 6 Qw 0 0 hp 221 [(0, .ref a0), (1, .int x1), (3, .int x3), (4, .int x4)] [.int s0] := by
  unfold wp_Model_inductive_221 at hf
  refine x_istore_n X (lv' := [(2, .int s0), (0, .ref a0), (1, .int x1), (3, .int x3), (4, .int x4)]) d_Model_inductive_221 rfl (by decide) rfl 222 rfl ?_
  refine x_iinc X (q := 4) (v := (x4 + 1)) (lv' := [(4, .int (x4 + 1)), (2, .int s0), (0, .ref a0), (1, .int x1), (3, .int x3)]) d_Model_inductive_222 rfl (by rfl) (by decide) rfl 225 rfl ?_
  refine x_goto X d_Model_inductive_225 107 (by decide) ?_
  exact x_sub [2, 3, 1, 4, 0] rfl (hk107 _ _ _ _ _ _ hf)
set_option maxRecDepth 100000 in
def wp_Model_inductive_216 (z : Nat → Nat) (Q : Int32 → xh → Prop) (k93 : Nat × Int32 × Int32 × Int32 × xh → Prop) (k107 : Nat × Int32 × Int32 × Int32 × Int32 × xh → Prop) (a0 : Nat) (x1 : Int32) (x3 : Int32) (x4 : Int32) (hp : xh) : Prop :=
  wp_Model_inductive_221 z Q k93 k107 a0 x1 x3 x4 1 hp
set_option maxRecDepth 100000 in
set_option maxHeartbeats 4000000 in
theorem t_Model_inductive_216 {p : Program} {l : Launch} {e : Env} {s : State} {m : MethodId} {args : Array Value} {below : List Frame} {meth : Method} {c : Code} {G : xG} {z : Nat → Nat} {A : Nat → Prop} {Qw : State → Prop} {Q : Int32 → xh → Prop} {k93 : Nat × Int32 × Int32 × Int32 × xh → Prop} {k107 : Nat × Int32 × Int32 × Int32 × Int32 × xh → Prop} {a0 : Nat} {x1 : Int32} {x3 : Int32} {x4 : Int32} {hp : xh} (X : xX p l e rm_Model_inductive s m args below meth c G z A y_Model_inductive b_Model_inductive 6) (hret : xRet p l e rm_Model_inductive s m args below meth c G A 6 Qw b_Model_inductive (some .boolean) (xqz Q)) (hk93 : ∀ (a0 : Nat) (x1 : Int32) (x2 : Int32) (x3 : Int32) (hp : xh), k93 (a0, x1, x2, x3, hp) → xE p l e rm_Model_inductive s m args below meth c G A 6 Qw 0 0 hp 93 [(0, .ref a0), (1, .int x1), (2, .int x2), (3, .int x3)] []) (hk107 : ∀ (a0 : Nat) (x1 : Int32) (x2 : Int32) (x3 : Int32) (x4 : Int32) (hp : xh), k107 (a0, x1, x2, x3, x4, hp) → xE p l e rm_Model_inductive s m args below meth c G A 6 Qw 0 0 hp 107 [(0, .ref a0), (1, .int x1), (2, .int x2), (3, .int x3), (4, .int x4)] []) (hf : wp_Model_inductive_216 z Q k93 k107 a0 x1 x3 x4 hp) : xE p l e rm_Model_inductive s m args below meth c G A 6 Qw 0 0 hp 216 [(0, .ref a0), (1, .int x1), (3, .int x3), (4, .int x4)] [] := by
  unfold wp_Model_inductive_216 at hf
  refine x_iconst X (v := 1) d_Model_inductive_216 (by decide) 217 rfl ?_
  refine x_goto X d_Model_inductive_217 221 (by decide) ?_
  exact x_sub [0, 1, 2, 3] rfl (t_Model_inductive_221 X hret hk93 hk107 hf)
set_option maxRecDepth 100000 in
def wp_Model_inductive_202 (z : Nat → Nat) (Q : Int32 → xh → Prop) (k93 : Nat × Int32 × Int32 × Int32 × xh → Prop) (k107 : Nat × Int32 × Int32 × Int32 × Int32 × xh → Prop) (a0 : Nat) (x1 : Int32) (x2 : Int32) (x3 : Int32) (x4 : Int32) (hp : xh) : Prop :=
  (¬ x2 = 0 → wp_Model_inductive_216 z Q k93 k107 a0 x1 x3 x4 hp) ∧ (x2 = 0 → (∃ o1, fR hp a0 12 44 = some o1 ∧ (∃ v2, aI hp o1 2 x4 = some v2 ∧ ((v2 = 0 → wp_Model_inductive_221 z Q k93 k107 a0 x1 x3 x4 0 hp) ∧ (¬ v2 = 0 → wp_Model_inductive_216 z Q k93 k107 a0 x1 x3 x4 hp)))))
set_option maxRecDepth 100000 in
set_option maxHeartbeats 4000000 in
theorem t_Model_inductive_202 {p : Program} {l : Launch} {e : Env} {s : State} {m : MethodId} {args : Array Value} {below : List Frame} {meth : Method} {c : Code} {G : xG} {z : Nat → Nat} {A : Nat → Prop} {Qw : State → Prop} {Q : Int32 → xh → Prop} {k93 : Nat × Int32 × Int32 × Int32 × xh → Prop} {k107 : Nat × Int32 × Int32 × Int32 × Int32 × xh → Prop} {a0 : Nat} {x1 : Int32} {x2 : Int32} {x3 : Int32} {x4 : Int32} {hp : xh} (X : xX p l e rm_Model_inductive s m args below meth c G z A y_Model_inductive b_Model_inductive 6) (hret : xRet p l e rm_Model_inductive s m args below meth c G A 6 Qw b_Model_inductive (some .boolean) (xqz Q)) (hk93 : ∀ (a0 : Nat) (x1 : Int32) (x2 : Int32) (x3 : Int32) (hp : xh), k93 (a0, x1, x2, x3, hp) → xE p l e rm_Model_inductive s m args below meth c G A 6 Qw 0 0 hp 93 [(0, .ref a0), (1, .int x1), (2, .int x2), (3, .int x3)] []) (hk107 : ∀ (a0 : Nat) (x1 : Int32) (x2 : Int32) (x3 : Int32) (x4 : Int32) (hp : xh), k107 (a0, x1, x2, x3, x4, hp) → xE p l e rm_Model_inductive s m args below meth c G A 6 Qw 0 0 hp 107 [(0, .ref a0), (1, .int x1), (2, .int x2), (3, .int x3), (4, .int x4)] []) (hf : wp_Model_inductive_202 z Q k93 k107 a0 x1 x2 x3 x4 hp) : xE p l e rm_Model_inductive s m args below meth c G A 6 Qw 0 0 hp 202 [(0, .ref a0), (1, .int x1), (2, .int x2), (3, .int x3), (4, .int x4)] [] := by
  unfold wp_Model_inductive_202 at hf
  refine x_iload_n X (q := 2) d_Model_inductive_202 rfl 203 rfl ?_
  refine x_if_ne X hf d_Model_inductive_203 216 206 (by decide) rfl (fun hf => ?_) (fun hf => ?_)
  · exact x_sub [0, 1, 3, 4] rfl (t_Model_inductive_216 X hret hk93 hk107 hf)
  · refine x_aload_n X (q := 0) d_Model_inductive_206 rfl 207 rfl ?_
    refine x_getR X hf (ci := 12) (j := 44) rfl (by decide) rfl lf_Model_109 d_Model_inductive_207 210 rfl (fun o1 hf => ?_)
    refine x_iload X (q := 4) d_Model_inductive_210 rfl 212 rfl ?_
    refine x_zald X hf d_Model_inductive_212 213 rfl (fun v2 hf => ?_)
    refine x_if_eq X hf d_Model_inductive_213 220 216 (by decide) rfl (fun hf => ?_) (fun hf => ?_)
    · refine x_iconst X (v := 0) d_Model_inductive_220 (by decide) 221 rfl ?_
      exact x_sub [0, 1, 3, 4] rfl (t_Model_inductive_221 X hret hk93 hk107 hf)
    · exact x_sub [0, 1, 3, 4] rfl (t_Model_inductive_216 X hret hk93 hk107 hf)
set_option maxRecDepth 100000 in
def wp_Model_inductive_195 (z : Nat → Nat) (Q : Int32 → xh → Prop) (k93 : Nat × Int32 × Int32 × Int32 × xh → Prop) (k107 : Nat × Int32 × Int32 × Int32 × Int32 × xh → Prop) (k127 : Nat × Int32 × Int32 × Int32 × Int32 × Int32 × xh → Prop) (a0 : Nat) (x1 : Int32) (x2 : Int32) (x3 : Int32) (x4 : Int32) (x5 : Int32) (s2 : Int32) (s1 : Int32) (s0 : Nat) (hp : xh) : Prop :=
  ∃ h1, sI hp s0 2 s1 (vp_nar .boolean s2) = some h1 ∧ (k127 (a0, x1, x2, x3, x4, (x5 + 1), h1))
set_option maxRecDepth 100000 in
set_option maxHeartbeats 4000000 in
theorem t_Model_inductive_195 {p : Program} {l : Launch} {e : Env} {s : State} {m : MethodId} {args : Array Value} {below : List Frame} {meth : Method} {c : Code} {G : xG} {z : Nat → Nat} {A : Nat → Prop} {Qw : State → Prop} {Q : Int32 → xh → Prop} {k93 : Nat × Int32 × Int32 × Int32 × xh → Prop} {k107 : Nat × Int32 × Int32 × Int32 × Int32 × xh → Prop} {k127 : Nat × Int32 × Int32 × Int32 × Int32 × Int32 × xh → Prop} {a0 : Nat} {x1 : Int32} {x2 : Int32} {x3 : Int32} {x4 : Int32} {x5 : Int32} {s2 : Int32} {s1 : Int32} {s0 : Nat} {hp : xh} (X : xX p l e rm_Model_inductive s m args below meth c G z A y_Model_inductive b_Model_inductive 6) (hret : xRet p l e rm_Model_inductive s m args below meth c G A 6 Qw b_Model_inductive (some .boolean) (xqz Q)) (hk93 : ∀ (a0 : Nat) (x1 : Int32) (x2 : Int32) (x3 : Int32) (hp : xh), k93 (a0, x1, x2, x3, hp) → xE p l e rm_Model_inductive s m args below meth c G A 6 Qw 0 0 hp 93 [(0, .ref a0), (1, .int x1), (2, .int x2), (3, .int x3)] []) (hk107 : ∀ (a0 : Nat) (x1 : Int32) (x2 : Int32) (x3 : Int32) (x4 : Int32) (hp : xh), k107 (a0, x1, x2, x3, x4, hp) → xE p l e rm_Model_inductive s m args below meth c G A 6 Qw 0 0 hp 107 [(0, .ref a0), (1, .int x1), (2, .int x2), (3, .int x3), (4, .int x4)] []) (hk127 : ∀ (a0 : Nat) (x1 : Int32) (x2 : Int32) (x3 : Int32) (x4 : Int32) (x5 : Int32) (hp : xh), k127 (a0, x1, x2, x3, x4, x5, hp) → xE p l e rm_Model_inductive s m args below meth c G A 6 Qw 0 0 hp 127 [(0, .ref a0), (1, .int x1), (2, .int x2), (3, .int x3), (4, .int x4), (5, .int x5)] []) (hf : wp_Model_inductive_195 z Q k93 k107 k127 a0 x1 x2 x3 x4 x5 s2 s1 s0 hp) : xE p l e rm_Model_inductive s m args below meth c G A 6 Qw 0 0 hp 195 [(0, .ref a0), (1, .int x1), (2, .int x2), (3, .int x3), (4, .int x4), (5, .int x5)] [.int s2, .int s1, .ref s0] := by
  unfold wp_Model_inductive_195 at hf
  refine x_zast X hf d_Model_inductive_195 196 rfl (fun h1 hf => ?_)
  refine x_iinc X (q := 5) (v := (x5 + 1)) (lv' := [(5, .int (x5 + 1)), (0, .ref a0), (1, .int x1), (2, .int x2), (3, .int x3), (4, .int x4)]) d_Model_inductive_196 rfl (by rfl) (by decide) rfl 199 rfl ?_
  refine x_goto X d_Model_inductive_199 127 (by decide) ?_
  exact x_sub [1, 2, 3, 4, 5, 0] rfl (hk127 _ _ _ _ _ _ _ hf)
set_option maxRecDepth 100000 in
def wp_Model_inductive_194 (z : Nat → Nat) (Q : Int32 → xh → Prop) (k93 : Nat × Int32 × Int32 × Int32 × xh → Prop) (k107 : Nat × Int32 × Int32 × Int32 × Int32 × xh → Prop) (k127 : Nat × Int32 × Int32 × Int32 × Int32 × Int32 × xh → Prop) (a0 : Nat) (x1 : Int32) (x2 : Int32) (x3 : Int32) (x4 : Int32) (x5 : Int32) (s1 : Int32) (s0 : Nat) (hp : xh) : Prop :=
  wp_Model_inductive_195 z Q k93 k107 k127 a0 x1 x2 x3 x4 x5 0 s1 s0 hp
set_option maxRecDepth 100000 in
set_option maxHeartbeats 4000000 in
theorem t_Model_inductive_194 {p : Program} {l : Launch} {e : Env} {s : State} {m : MethodId} {args : Array Value} {below : List Frame} {meth : Method} {c : Code} {G : xG} {z : Nat → Nat} {A : Nat → Prop} {Qw : State → Prop} {Q : Int32 → xh → Prop} {k93 : Nat × Int32 × Int32 × Int32 × xh → Prop} {k107 : Nat × Int32 × Int32 × Int32 × Int32 × xh → Prop} {k127 : Nat × Int32 × Int32 × Int32 × Int32 × Int32 × xh → Prop} {a0 : Nat} {x1 : Int32} {x2 : Int32} {x3 : Int32} {x4 : Int32} {x5 : Int32} {s1 : Int32} {s0 : Nat} {hp : xh} (X : xX p l e rm_Model_inductive s m args below meth c G z A y_Model_inductive b_Model_inductive 6) (hret : xRet p l e rm_Model_inductive s m args below meth c G A 6 Qw b_Model_inductive (some .boolean) (xqz Q)) (hk93 : ∀ (a0 : Nat) (x1 : Int32) (x2 : Int32) (x3 : Int32) (hp : xh), k93 (a0, x1, x2, x3, hp) → xE p l e rm_Model_inductive s m args below meth c G A 6 Qw 0 0 hp 93 [(0, .ref a0), (1, .int x1), (2, .int x2), (3, .int x3)] []) (hk107 : ∀ (a0 : Nat) (x1 : Int32) (x2 : Int32) (x3 : Int32) (x4 : Int32) (hp : xh), k107 (a0, x1, x2, x3, x4, hp) → xE p l e rm_Model_inductive s m args below meth c G A 6 Qw 0 0 hp 107 [(0, .ref a0), (1, .int x1), (2, .int x2), (3, .int x3), (4, .int x4)] []) (hk127 : ∀ (a0 : Nat) (x1 : Int32) (x2 : Int32) (x3 : Int32) (x4 : Int32) (x5 : Int32) (hp : xh), k127 (a0, x1, x2, x3, x4, x5, hp) → xE p l e rm_Model_inductive s m args below meth c G A 6 Qw 0 0 hp 127 [(0, .ref a0), (1, .int x1), (2, .int x2), (3, .int x3), (4, .int x4), (5, .int x5)] []) (hf : wp_Model_inductive_194 z Q k93 k107 k127 a0 x1 x2 x3 x4 x5 s1 s0 hp) : xE p l e rm_Model_inductive s m args below meth c G A 6 Qw 0 0 hp 194 [(0, .ref a0), (1, .int x1), (2, .int x2), (3, .int x3), (4, .int x4), (5, .int x5)] [.int s1, .ref s0] := by
  unfold wp_Model_inductive_194 at hf
  refine x_iconst X (v := 0) d_Model_inductive_194 (by decide) 195 rfl ?_
  exact x_sub [0, 1, 2, 3, 4, 5] rfl (t_Model_inductive_195 X hret hk93 hk107 hk127 hf)
set_option maxRecDepth 100000 in
def wp_Model_inductive_127_b (z : Nat → Nat) (Q : Int32 → xh → Prop) (k93 : Nat × Int32 × Int32 × Int32 × xh → Prop) (k107 : Nat × Int32 × Int32 × Int32 × Int32 × xh → Prop) (k127 : Nat × Int32 × Int32 × Int32 × Int32 × Int32 × xh → Prop) (a0 : Nat) (x1 : Int32) (x2 : Int32) (x3 : Int32) (x4 : Int32) (x5 : Int32) (hp : xh) : Prop :=
  ∃ v1, fI hp a0 12 39 = some v1 ∧ ((v1 ≤ x5 → wp_Model_inductive_202 z Q k93 k107 a0 x1 x2 x3 x4 hp) ∧ (¬ v1 ≤ x5 → (∃ o2, fR hp a0 12 44 = some o2 ∧ (∃ v3, aI hp o2 2 x4 = some v3 ∧ ((¬ v3 = 0 → wp_Model_inductive_202 z Q k93 k107 a0 x1 x2 x3 x4 hp) ∧ (v3 = 0 → (∃ o4, fR hp a0 12 44 = some o4 ∧ (∃ o5, fR hp a0 12 34 = some o5 ∧ (∃ v6, aL hp o5 3 x4 = some v6 ∧ ((¬ (lg_cmp ((v6 >>> (x5.toInt64 &&& 63)) &&& 1) 0) = 0 → wp_Model_inductive_194 z Q k93 k107 k127 a0 x1 x2 x3 x4 x5 x4 o4 hp) ∧ ((lg_cmp ((v6 >>> (x5.toInt64 &&& 63)) &&& 1) 0) = 0 → (∃ o7, fR hp a0 12 43 = some o7 ∧ (∃ o8, fR hp a0 12 35 = some o8 ∧ (∃ v9, aI hp o8 4 ((32 * x4) + x5) = some v9 ∧ (∃ v10, aI hp o7 2 v9 = some v10 ∧ ((v10 = 0 → wp_Model_inductive_194 z Q k93 k107 k127 a0 x1 x2 x3 x4 x5 x4 o4 hp) ∧ (¬ v10 = 0 → wp_Model_inductive_195 z Q k93 k107 k127 a0 x1 x2 x3 x4 x5 1 x4 o4 hp)))))))))))))))))
set_option maxRecDepth 100000 in
def wp_Model_inductive_127 (z : Nat → Nat) (Q : Int32 → xh → Prop) (k93 : Nat × Int32 × Int32 × Int32 × xh → Prop) (k107 : Nat × Int32 × Int32 × Int32 × Int32 × xh → Prop) (a0 : Nat) (x1 : Int32) (x2 : Int32) (x3 : Int32) (x4 : Int32) (x5 : Int32) (hp : xh) : Prop := ∃ f : Nat, xloop (fun k127 a => wp_Model_inductive_127_b z Q k93 k107 k127 a.1 a.2.1 a.2.2.1 a.2.2.2.1 a.2.2.2.2.1 a.2.2.2.2.2.1 a.2.2.2.2.2.2) f (a0, x1, x2, x3, x4, x5, hp)
set_option maxRecDepth 100000 in
set_option maxHeartbeats 4000000 in
theorem t_Model_inductive_127 {p : Program} {l : Launch} {e : Env} {s : State} {m : MethodId} {args : Array Value} {below : List Frame} {meth : Method} {c : Code} {G : xG} {z : Nat → Nat} {A : Nat → Prop} {Qw : State → Prop} {Q : Int32 → xh → Prop} {k93 : Nat × Int32 × Int32 × Int32 × xh → Prop} {k107 : Nat × Int32 × Int32 × Int32 × Int32 × xh → Prop} {a0 : Nat} {x1 : Int32} {x2 : Int32} {x3 : Int32} {x4 : Int32} {x5 : Int32} {hp : xh} (X : xX p l e rm_Model_inductive s m args below meth c G z A y_Model_inductive b_Model_inductive 6) (hret : xRet p l e rm_Model_inductive s m args below meth c G A 6 Qw b_Model_inductive (some .boolean) (xqz Q)) (hk93 : ∀ (a0 : Nat) (x1 : Int32) (x2 : Int32) (x3 : Int32) (hp : xh), k93 (a0, x1, x2, x3, hp) → xE p l e rm_Model_inductive s m args below meth c G A 6 Qw 0 0 hp 93 [(0, .ref a0), (1, .int x1), (2, .int x2), (3, .int x3)] []) (hk107 : ∀ (a0 : Nat) (x1 : Int32) (x2 : Int32) (x3 : Int32) (x4 : Int32) (hp : xh), k107 (a0, x1, x2, x3, x4, hp) → xE p l e rm_Model_inductive s m args below meth c G A 6 Qw 0 0 hp 107 [(0, .ref a0), (1, .int x1), (2, .int x2), (3, .int x3), (4, .int x4)] []) (hf : wp_Model_inductive_127 z Q k93 k107 a0 x1 x2 x3 x4 x5 hp) : xE p l e rm_Model_inductive s m args below meth c G A 6 Qw 0 0 hp 127 [(0, .ref a0), (1, .int x1), (2, .int x2), (3, .int x3), (4, .int x4), (5, .int x5)] [] := by
  obtain ⟨f, hf⟩ := hf
  refine xloop_ind (F := fun k127 a => wp_Model_inductive_127_b z Q k93 k107 k127 a.1 a.2.1 a.2.2.1 a.2.2.2.1 a.2.2.2.2.1 a.2.2.2.2.2.1 a.2.2.2.2.2.2) (E := fun a => xE p l e rm_Model_inductive s m args below meth c G A 6 Qw 0 0 a.2.2.2.2.2.2 127 [(0, .ref (a.1)), (1, .int (a.2.1)), (2, .int (a.2.2.1)), (3, .int (a.2.2.2.1)), (4, .int (a.2.2.2.2.1)), (5, .int (a.2.2.2.2.2.1))] []) ?_ f (a0, x1, x2, x3, x4, x5, hp) hf
  intro k127 hk a hf
  obtain ⟨a0, x1, x2, x3, x4, x5, hp⟩ := a
  have hk127 : ∀ (a0 : Nat) (x1 : Int32) (x2 : Int32) (x3 : Int32) (x4 : Int32) (x5 : Int32) (hp : xh), k127 (a0, x1, x2, x3, x4, x5, hp) → xE p l e rm_Model_inductive s m args below meth c G A 6 Qw 0 0 hp 127 [(0, .ref a0), (1, .int x1), (2, .int x2), (3, .int x3), (4, .int x4), (5, .int x5)] [] := fun a0 x1 x2 x3 x4 x5 hp h => hk (a0, x1, x2, x3, x4, x5, hp) h
  have hf : wp_Model_inductive_127_b z Q k93 k107 k127 a0 x1 x2 x3 x4 x5 hp := hf
  unfold wp_Model_inductive_127_b at hf
  refine x_iload X (q := 5) d_Model_inductive_127 rfl 129 rfl ?_
  refine x_aload_n X (q := 0) d_Model_inductive_129 rfl 130 rfl ?_
  refine x_getI X hf (ci := 12) (j := 39) rfl (by decide) rfl lf_Model_274 d_Model_inductive_130 133 rfl (fun v1 hf => ?_)
  refine x_icmp_ge X hf d_Model_inductive_133 202 136 (by decide) rfl (fun hf => ?_) (fun hf => ?_)
  · exact x_sub [0, 1, 2, 3, 4] rfl (t_Model_inductive_202 X hret hk93 hk107 hf)
  · refine x_aload_n X (q := 0) d_Model_inductive_136 rfl 137 rfl ?_
    refine x_getR X hf (ci := 12) (j := 44) rfl (by decide) rfl lf_Model_109 d_Model_inductive_137 140 rfl (fun o2 hf => ?_)
    refine x_iload X (q := 4) d_Model_inductive_140 rfl 142 rfl ?_
    refine x_zald X hf d_Model_inductive_142 143 rfl (fun v3 hf => ?_)
    refine x_if_ne X hf d_Model_inductive_143 202 146 (by decide) rfl (fun hf => ?_) (fun hf => ?_)
    · exact x_sub [0, 1, 2, 3, 4] rfl (t_Model_inductive_202 X hret hk93 hk107 hf)
    · refine x_aload_n X (q := 0) d_Model_inductive_146 rfl 147 rfl ?_
      refine x_getR X hf (ci := 12) (j := 44) rfl (by decide) rfl lf_Model_109 d_Model_inductive_147 150 rfl (fun o4 hf => ?_)
      refine x_iload X (q := 4) d_Model_inductive_150 rfl 152 rfl ?_
      refine x_aload_n X (q := 0) d_Model_inductive_152 rfl 153 rfl ?_
      refine x_getR X hf (ci := 12) (j := 34) rfl (by decide) rfl lf_Model_89 d_Model_inductive_153 156 rfl (fun o5 hf => ?_)
      refine x_iload X (q := 4) d_Model_inductive_156 rfl 158 rfl ?_
      refine x_lald X hf d_Model_inductive_158 159 rfl (fun v6 hf => ?_)
      refine x_iload X (q := 5) d_Model_inductive_159 rfl 161 rfl ?_
      refine x_lshr X d_Model_inductive_161 162 rfl ?_
      refine x_lconst X (v := 1) d_Model_inductive_162 (by decide) 163 rfl ?_
      refine x_land X d_Model_inductive_163 164 rfl ?_
      refine x_lconst X (v := 0) d_Model_inductive_164 (by decide) 165 rfl ?_
      refine x_lcmp X d_Model_inductive_165 166 rfl ?_
      refine x_if_ne X hf d_Model_inductive_166 194 169 (by decide) rfl (fun hf => ?_) (fun hf => ?_)
      · exact x_sub [0, 1, 2, 3, 4, 5] rfl (t_Model_inductive_194 X hret hk93 hk107 hk127 hf)
      · refine x_aload_n X (q := 0) d_Model_inductive_169 rfl 170 rfl ?_
        refine x_getR X hf (ci := 12) (j := 43) rfl (by decide) rfl lf_Model_106 d_Model_inductive_170 173 rfl (fun o7 hf => ?_)
        refine x_aload_n X (q := 0) d_Model_inductive_173 rfl 174 rfl ?_
        refine x_getR X hf (ci := 12) (j := 35) rfl (by decide) rfl lf_Model_93 d_Model_inductive_174 177 rfl (fun o8 hf => ?_)
        refine x_bipush X (v := 32) d_Model_inductive_177 (by decide) 179 rfl ?_
        refine x_iload X (q := 4) d_Model_inductive_179 rfl 181 rfl ?_
        refine x_imul X d_Model_inductive_181 182 rfl ?_
        refine x_iload X (q := 5) d_Model_inductive_182 rfl 184 rfl ?_
        refine x_iadd X d_Model_inductive_184 185 rfl ?_
        refine x_cald X hf d_Model_inductive_185 186 rfl (fun v9 hf => ?_)
        refine x_zald X hf d_Model_inductive_186 187 rfl (fun v10 hf => ?_)
        refine x_if_eq X hf d_Model_inductive_187 194 190 (by decide) rfl (fun hf => ?_) (fun hf => ?_)
        · exact x_sub [0, 1, 2, 3, 4, 5] rfl (t_Model_inductive_194 X hret hk93 hk107 hk127 hf)
        · refine x_iconst X (v := 1) d_Model_inductive_190 (by decide) 191 rfl ?_
          refine x_goto X d_Model_inductive_191 195 (by decide) ?_
          exact x_sub [0, 1, 2, 3, 4, 5] rfl (t_Model_inductive_195 X hret hk93 hk107 hk127 hf)
set_option maxRecDepth 100000 in
def wp_Model_inductive_107_b (z : Nat → Nat) (Q : Int32 → xh → Prop) (k93 : Nat × Int32 × Int32 × Int32 × xh → Prop) (k107 : Nat × Int32 × Int32 × Int32 × Int32 × xh → Prop) (a0 : Nat) (x1 : Int32) (x2 : Int32) (x3 : Int32) (x4 : Int32) (hp : xh) : Prop :=
  ∃ v1, fI hp a0 12 40 = some v1 ∧ ((v1 ≤ x4 → wp_Model_inductive_231 z Q k93 a0 x1 x2 x3 0 hp) ∧ (¬ v1 ≤ x4 → (∃ o2, fR hp a0 12 44 = some o2 ∧ (∃ h3, sI hp o2 2 x4 (vp_nar .boolean 0) = some h3 ∧ wp_Model_inductive_127 z Q k93 k107 a0 x1 x2 x3 x4 0 h3))))
set_option maxRecDepth 100000 in
def wp_Model_inductive_107 (z : Nat → Nat) (Q : Int32 → xh → Prop) (k93 : Nat × Int32 × Int32 × Int32 × xh → Prop) (a0 : Nat) (x1 : Int32) (x2 : Int32) (x3 : Int32) (x4 : Int32) (hp : xh) : Prop := ∃ f : Nat, xloop (fun k107 a => wp_Model_inductive_107_b z Q k93 k107 a.1 a.2.1 a.2.2.1 a.2.2.2.1 a.2.2.2.2.1 a.2.2.2.2.2) f (a0, x1, x2, x3, x4, hp)
set_option maxRecDepth 100000 in
set_option maxHeartbeats 4000000 in
theorem t_Model_inductive_107 {p : Program} {l : Launch} {e : Env} {s : State} {m : MethodId} {args : Array Value} {below : List Frame} {meth : Method} {c : Code} {G : xG} {z : Nat → Nat} {A : Nat → Prop} {Qw : State → Prop} {Q : Int32 → xh → Prop} {k93 : Nat × Int32 × Int32 × Int32 × xh → Prop} {a0 : Nat} {x1 : Int32} {x2 : Int32} {x3 : Int32} {x4 : Int32} {hp : xh} (X : xX p l e rm_Model_inductive s m args below meth c G z A y_Model_inductive b_Model_inductive 6) (hret : xRet p l e rm_Model_inductive s m args below meth c G A 6 Qw b_Model_inductive (some .boolean) (xqz Q)) (hk93 : ∀ (a0 : Nat) (x1 : Int32) (x2 : Int32) (x3 : Int32) (hp : xh), k93 (a0, x1, x2, x3, hp) → xE p l e rm_Model_inductive s m args below meth c G A 6 Qw 0 0 hp 93 [(0, .ref a0), (1, .int x1), (2, .int x2), (3, .int x3)] []) (hf : wp_Model_inductive_107 z Q k93 a0 x1 x2 x3 x4 hp) : xE p l e rm_Model_inductive s m args below meth c G A 6 Qw 0 0 hp 107 [(0, .ref a0), (1, .int x1), (2, .int x2), (3, .int x3), (4, .int x4)] [] := by
  obtain ⟨f, hf⟩ := hf
  refine xloop_ind (F := fun k107 a => wp_Model_inductive_107_b z Q k93 k107 a.1 a.2.1 a.2.2.1 a.2.2.2.1 a.2.2.2.2.1 a.2.2.2.2.2) (E := fun a => xE p l e rm_Model_inductive s m args below meth c G A 6 Qw 0 0 a.2.2.2.2.2 107 [(0, .ref (a.1)), (1, .int (a.2.1)), (2, .int (a.2.2.1)), (3, .int (a.2.2.2.1)), (4, .int (a.2.2.2.2.1))] []) ?_ f (a0, x1, x2, x3, x4, hp) hf
  intro k107 hk a hf
  obtain ⟨a0, x1, x2, x3, x4, hp⟩ := a
  have hk107 : ∀ (a0 : Nat) (x1 : Int32) (x2 : Int32) (x3 : Int32) (x4 : Int32) (hp : xh), k107 (a0, x1, x2, x3, x4, hp) → xE p l e rm_Model_inductive s m args below meth c G A 6 Qw 0 0 hp 107 [(0, .ref a0), (1, .int x1), (2, .int x2), (3, .int x3), (4, .int x4)] [] := fun a0 x1 x2 x3 x4 hp h => hk (a0, x1, x2, x3, x4, hp) h
  have hf : wp_Model_inductive_107_b z Q k93 k107 a0 x1 x2 x3 x4 hp := hf
  unfold wp_Model_inductive_107_b at hf
  refine x_iload X (q := 4) d_Model_inductive_107 rfl 109 rfl ?_
  refine x_aload_n X (q := 0) d_Model_inductive_109 rfl 110 rfl ?_
  refine x_getI X hf (ci := 12) (j := 40) rfl (by decide) rfl lf_Model_277 d_Model_inductive_110 113 rfl (fun v1 hf => ?_)
  refine x_icmp_ge X hf d_Model_inductive_113 228 116 (by decide) rfl (fun hf => ?_) (fun hf => ?_)
  · refine x_iconst X (v := 0) d_Model_inductive_228 (by decide) 229 rfl ?_
    refine x_istore X (lv' := [(4, .int 0), (0, .ref a0), (1, .int x1), (2, .int x2), (3, .int x3)]) d_Model_inductive_229 (by decide) rfl 231 rfl ?_
    exact x_sub [1, 2, 3, 4, 0] rfl (t_Model_inductive_231 X hret hk93 hf)
  · refine x_aload_n X (q := 0) d_Model_inductive_116 rfl 117 rfl ?_
    refine x_getR X hf (ci := 12) (j := 44) rfl (by decide) rfl lf_Model_109 d_Model_inductive_117 120 rfl (fun o2 hf => ?_)
    refine x_iload X (q := 4) d_Model_inductive_120 rfl 122 rfl ?_
    refine x_iconst X (v := 0) d_Model_inductive_122 (by decide) 123 rfl ?_
    refine x_zast X hf d_Model_inductive_123 124 rfl (fun h3 hf => ?_)
    refine x_iconst X (v := 0) d_Model_inductive_124 (by decide) 125 rfl ?_
    refine x_istore X (lv' := [(5, .int 0), (0, .ref a0), (1, .int x1), (2, .int x2), (3, .int x3), (4, .int x4)]) d_Model_inductive_125 (by decide) rfl 127 rfl ?_
    exact x_sub [1, 2, 3, 4, 5, 0] rfl (t_Model_inductive_127 X hret hk93 hk107 hf)
set_option maxRecDepth 100000 in
def wp_Model_inductive_93_b (z : Nat → Nat) (Q : Int32 → xh → Prop)  (k93 : Nat × Int32 × Int32 × Int32 × xh → Prop) (a0 : Nat) (x1 : Int32) (x2 : Int32) (x3 : Int32) (hp : xh) : Prop :=
  (x1 ≤ x3 → wp_Model_inductive_266 z Q x2 hp) ∧ (¬ x1 ≤ x3 → ((x2 = 0 → wp_Model_inductive_266 z Q x2 hp) ∧ (¬ x2 = 0 → wp_Model_inductive_107 z Q k93 a0 x1 0 x3 0 hp)))
set_option maxRecDepth 100000 in
def wp_Model_inductive_93 (z : Nat → Nat) (Q : Int32 → xh → Prop)  (a0 : Nat) (x1 : Int32) (x2 : Int32) (x3 : Int32) (hp : xh) : Prop := ∃ f : Nat, xloop (fun k93 a => wp_Model_inductive_93_b z Q  k93 a.1 a.2.1 a.2.2.1 a.2.2.2.1 a.2.2.2.2) f (a0, x1, x2, x3, hp)
set_option maxRecDepth 100000 in
set_option maxHeartbeats 4000000 in
theorem t_Model_inductive_93 {p : Program} {l : Launch} {e : Env} {s : State} {m : MethodId} {args : Array Value} {below : List Frame} {meth : Method} {c : Code} {G : xG} {z : Nat → Nat} {A : Nat → Prop} {Qw : State → Prop} {Q : Int32 → xh → Prop} {a0 : Nat} {x1 : Int32} {x2 : Int32} {x3 : Int32} {hp : xh} (X : xX p l e rm_Model_inductive s m args below meth c G z A y_Model_inductive b_Model_inductive 6) (hret : xRet p l e rm_Model_inductive s m args below meth c G A 6 Qw b_Model_inductive (some .boolean) (xqz Q))  (hf : wp_Model_inductive_93 z Q  a0 x1 x2 x3 hp) : xE p l e rm_Model_inductive s m args below meth c G A 6 Qw 0 0 hp 93 [(0, .ref a0), (1, .int x1), (2, .int x2), (3, .int x3)] [] := by
  obtain ⟨f, hf⟩ := hf
  refine xloop_ind (F := fun k93 a => wp_Model_inductive_93_b z Q  k93 a.1 a.2.1 a.2.2.1 a.2.2.2.1 a.2.2.2.2) (E := fun a => xE p l e rm_Model_inductive s m args below meth c G A 6 Qw 0 0 a.2.2.2.2 93 [(0, .ref (a.1)), (1, .int (a.2.1)), (2, .int (a.2.2.1)), (3, .int (a.2.2.2.1))] []) ?_ f (a0, x1, x2, x3, hp) hf
  intro k93 hk a hf
  obtain ⟨a0, x1, x2, x3, hp⟩ := a
  have hk93 : ∀ (a0 : Nat) (x1 : Int32) (x2 : Int32) (x3 : Int32) (hp : xh), k93 (a0, x1, x2, x3, hp) → xE p l e rm_Model_inductive s m args below meth c G A 6 Qw 0 0 hp 93 [(0, .ref a0), (1, .int x1), (2, .int x2), (3, .int x3)] [] := fun a0 x1 x2 x3 hp h => hk (a0, x1, x2, x3, hp) h
  have hf : wp_Model_inductive_93_b z Q  k93 a0 x1 x2 x3 hp := hf
  unfold wp_Model_inductive_93_b at hf
  refine x_iload_n X (q := 3) d_Model_inductive_93 rfl 94 rfl ?_
  refine x_iload_n X (q := 1) d_Model_inductive_94 rfl 95 rfl ?_
  refine x_icmp_ge X hf d_Model_inductive_95 266 98 (by decide) rfl (fun hf => ?_) (fun hf => ?_)
  · exact x_sub [2] rfl (t_Model_inductive_266 X hret hf)
  · refine x_iload_n X (q := 2) d_Model_inductive_98 rfl 99 rfl ?_
    refine x_if_eq X hf d_Model_inductive_99 266 102 (by decide) rfl (fun hf => ?_) (fun hf => ?_)
    · exact x_sub [2] rfl (t_Model_inductive_266 X hret hf)
    · refine x_iconst X (v := 0) d_Model_inductive_102 (by decide) 103 rfl ?_
      refine x_istore_n X (lv' := [(2, .int 0), (0, .ref a0), (1, .int x1), (3, .int x3)]) d_Model_inductive_103 rfl (by decide) rfl 104 rfl ?_
      refine x_iconst X (v := 0) d_Model_inductive_104 (by decide) 105 rfl ?_
      refine x_istore X (lv' := [(4, .int 0), (2, .int 0), (0, .ref a0), (1, .int x1), (3, .int x3)]) d_Model_inductive_105 (by decide) rfl 107 rfl ?_
      exact x_sub [2, 3, 1, 4, 0] rfl (t_Model_inductive_107 X hret hk93 hf)
set_option maxRecDepth 100000 in
def wp_Model_inductive_84 (z : Nat → Nat) (Q : Int32 → xh → Prop) (k36 : Nat × Int32 × Int32 × Int32 × xh → Prop) (a0 : Nat) (x1 : Int32) (x3 : Int32) (s0 : Int32) (hp : xh) : Prop :=
  k36 (a0, x1, s0, (x3 + 1), hp)
set_option maxRecDepth 100000 in
set_option maxHeartbeats 4000000 in
theorem t_Model_inductive_84 {p : Program} {l : Launch} {e : Env} {s : State} {m : MethodId} {args : Array Value} {below : List Frame} {meth : Method} {c : Code} {G : xG} {z : Nat → Nat} {A : Nat → Prop} {Qw : State → Prop} {Q : Int32 → xh → Prop} {k36 : Nat × Int32 × Int32 × Int32 × xh → Prop} {a0 : Nat} {x1 : Int32} {x3 : Int32} {s0 : Int32} {hp : xh} (X : xX p l e rm_Model_inductive s m args below meth c G z A y_Model_inductive b_Model_inductive 6) (hret : xRet p l e rm_Model_inductive s m args below meth c G A 6 Qw b_Model_inductive (some .boolean) (xqz Q)) (hk36 : ∀ (a0 : Nat) (x1 : Int32) (x2 : Int32) (x3 : Int32) (hp : xh), k36 (a0, x1, x2, x3, hp) → xE p l e rm_Model_inductive s m args below meth c G A 6 Qw 0 0 hp 36 [(0, .ref a0), (1, .int x1), (2, .int x2), (3, .int x3)] []) (hf : wp_Model_inductive_84 z Q k36 a0 x1 x3 s0 hp) : xE p l e rm_Model_inductive s m args below meth c G A 6 Qw 0 0 hp 84 [(0, .ref a0), (1, .int x1), (3, .int x3)] [.int s0] := by
  unfold wp_Model_inductive_84 at hf
  refine x_istore_n X (lv' := [(2, .int s0), (0, .ref a0), (1, .int x1), (3, .int x3)]) d_Model_inductive_84 rfl (by decide) rfl 85 rfl ?_
  refine x_iinc X (q := 3) (v := (x3 + 1)) (lv' := [(3, .int (x3 + 1)), (2, .int s0), (0, .ref a0), (1, .int x1)]) d_Model_inductive_85 rfl (by rfl) (by decide) rfl 88 rfl ?_
  refine x_goto X d_Model_inductive_88 36 (by decide) ?_
  exact x_sub [2, 3, 1, 0] rfl (hk36 _ _ _ _ _ hf)
set_option maxRecDepth 100000 in
def wp_Model_inductive_79 (z : Nat → Nat) (Q : Int32 → xh → Prop) (k36 : Nat × Int32 × Int32 × Int32 × xh → Prop) (a0 : Nat) (x1 : Int32) (x3 : Int32) (hp : xh) : Prop :=
  wp_Model_inductive_84 z Q k36 a0 x1 x3 1 hp
set_option maxRecDepth 100000 in
set_option maxHeartbeats 4000000 in
theorem t_Model_inductive_79 {p : Program} {l : Launch} {e : Env} {s : State} {m : MethodId} {args : Array Value} {below : List Frame} {meth : Method} {c : Code} {G : xG} {z : Nat → Nat} {A : Nat → Prop} {Qw : State → Prop} {Q : Int32 → xh → Prop} {k36 : Nat × Int32 × Int32 × Int32 × xh → Prop} {a0 : Nat} {x1 : Int32} {x3 : Int32} {hp : xh} (X : xX p l e rm_Model_inductive s m args below meth c G z A y_Model_inductive b_Model_inductive 6) (hret : xRet p l e rm_Model_inductive s m args below meth c G A 6 Qw b_Model_inductive (some .boolean) (xqz Q)) (hk36 : ∀ (a0 : Nat) (x1 : Int32) (x2 : Int32) (x3 : Int32) (hp : xh), k36 (a0, x1, x2, x3, hp) → xE p l e rm_Model_inductive s m args below meth c G A 6 Qw 0 0 hp 36 [(0, .ref a0), (1, .int x1), (2, .int x2), (3, .int x3)] []) (hf : wp_Model_inductive_79 z Q k36 a0 x1 x3 hp) : xE p l e rm_Model_inductive s m args below meth c G A 6 Qw 0 0 hp 79 [(0, .ref a0), (1, .int x1), (3, .int x3)] [] := by
  unfold wp_Model_inductive_79 at hf
  refine x_iconst X (v := 1) d_Model_inductive_79 (by decide) 80 rfl ?_
  refine x_goto X d_Model_inductive_80 84 (by decide) ?_
  exact x_sub [0, 1, 2] rfl (t_Model_inductive_84 X hret hk36 hf)
set_option maxRecDepth 100000 in
def wp_Model_inductive_65 (z : Nat → Nat) (Q : Int32 → xh → Prop) (k36 : Nat × Int32 × Int32 × Int32 × xh → Prop) (a0 : Nat) (x1 : Int32) (x2 : Int32) (x3 : Int32) (s2 : Int32) (s1 : Int32) (s0 : Nat) (hp : xh) : Prop :=
  ∃ h1, sI hp s0 2 s1 (vp_nar .boolean s2) = some h1 ∧ ((¬ x2 = 0 → wp_Model_inductive_79 z Q k36 a0 x1 x3 h1) ∧ (x2 = 0 → (∃ o2, fR h1 a0 12 43 = some o2 ∧ (∃ v3, aI h1 o2 2 x3 = some v3 ∧ ((v3 = 0 → wp_Model_inductive_84 z Q k36 a0 x1 x3 0 h1) ∧ (¬ v3 = 0 → wp_Model_inductive_79 z Q k36 a0 x1 x3 h1))))))
set_option maxRecDepth 100000 in
set_option maxHeartbeats 4000000 in
theorem t_Model_inductive_65 {p : Program} {l : Launch} {e : Env} {s : State} {m : MethodId} {args : Array Value} {below : List Frame} {meth : Method} {c : Code} {G : xG} {z : Nat → Nat} {A : Nat → Prop} {Qw : State → Prop} {Q : Int32 → xh → Prop} {k36 : Nat × Int32 × Int32 × Int32 × xh → Prop} {a0 : Nat} {x1 : Int32} {x2 : Int32} {x3 : Int32} {s2 : Int32} {s1 : Int32} {s0 : Nat} {hp : xh} (X : xX p l e rm_Model_inductive s m args below meth c G z A y_Model_inductive b_Model_inductive 6) (hret : xRet p l e rm_Model_inductive s m args below meth c G A 6 Qw b_Model_inductive (some .boolean) (xqz Q)) (hk36 : ∀ (a0 : Nat) (x1 : Int32) (x2 : Int32) (x3 : Int32) (hp : xh), k36 (a0, x1, x2, x3, hp) → xE p l e rm_Model_inductive s m args below meth c G A 6 Qw 0 0 hp 36 [(0, .ref a0), (1, .int x1), (2, .int x2), (3, .int x3)] []) (hf : wp_Model_inductive_65 z Q k36 a0 x1 x2 x3 s2 s1 s0 hp) : xE p l e rm_Model_inductive s m args below meth c G A 6 Qw 0 0 hp 65 [(0, .ref a0), (1, .int x1), (2, .int x2), (3, .int x3)] [.int s2, .int s1, .ref s0] := by
  unfold wp_Model_inductive_65 at hf
  refine x_zast X hf d_Model_inductive_65 66 rfl (fun h1 hf => ?_)
  refine x_iload_n X (q := 2) d_Model_inductive_66 rfl 67 rfl ?_
  refine x_if_ne X hf d_Model_inductive_67 79 70 (by decide) rfl (fun hf => ?_) (fun hf => ?_)
  · exact x_sub [0, 1, 3] rfl (t_Model_inductive_79 X hret hk36 hf)
  · refine x_aload_n X (q := 0) d_Model_inductive_70 rfl 71 rfl ?_
    refine x_getR X hf (ci := 12) (j := 43) rfl (by decide) rfl lf_Model_106 d_Model_inductive_71 74 rfl (fun o2 hf => ?_)
    refine x_iload_n X (q := 3) d_Model_inductive_74 rfl 75 rfl ?_
    refine x_zald X hf d_Model_inductive_75 76 rfl (fun v3 hf => ?_)
    refine x_if_eq X hf d_Model_inductive_76 83 79 (by decide) rfl (fun hf => ?_) (fun hf => ?_)
    · refine x_iconst X (v := 0) d_Model_inductive_83 (by decide) 84 rfl ?_
      exact x_sub [0, 1, 3] rfl (t_Model_inductive_84 X hret hk36 hf)
    · exact x_sub [0, 1, 3] rfl (t_Model_inductive_79 X hret hk36 hf)
set_option maxRecDepth 100000 in
def wp_Model_inductive_36_b (z : Nat → Nat) (Q : Int32 → xh → Prop)  (k36 : Nat × Int32 × Int32 × Int32 × xh → Prop) (a0 : Nat) (x1 : Int32) (x2 : Int32) (x3 : Int32) (hp : xh) : Prop :=
  ∃ v1, fI hp a0 12 40 = some v1 ∧ ((v1 ≤ x3 → wp_Model_inductive_93 z Q a0 x1 x2 0 hp) ∧ (¬ v1 ≤ x3 → (∃ o2, fR hp a0 12 43 = some o2 ∧ (∃ o3, fR hp a0 12 34 = some o3 ∧ (∃ v4, aL hp o3 3 x3 = some v4 ∧ (((lg_cmp v4 0) = 0 → wp_Model_inductive_65 z Q k36 a0 x1 x2 x3 0 x3 o2 hp) ∧ (¬ (lg_cmp v4 0) = 0 → wp_Model_inductive_65 z Q k36 a0 x1 x2 x3 1 x3 o2 hp)))))))
set_option maxRecDepth 100000 in
def wp_Model_inductive_36 (z : Nat → Nat) (Q : Int32 → xh → Prop)  (a0 : Nat) (x1 : Int32) (x2 : Int32) (x3 : Int32) (hp : xh) : Prop := ∃ f : Nat, xloop (fun k36 a => wp_Model_inductive_36_b z Q  k36 a.1 a.2.1 a.2.2.1 a.2.2.2.1 a.2.2.2.2) f (a0, x1, x2, x3, hp)
set_option maxRecDepth 100000 in
set_option maxHeartbeats 4000000 in
theorem t_Model_inductive_36 {p : Program} {l : Launch} {e : Env} {s : State} {m : MethodId} {args : Array Value} {below : List Frame} {meth : Method} {c : Code} {G : xG} {z : Nat → Nat} {A : Nat → Prop} {Qw : State → Prop} {Q : Int32 → xh → Prop} {a0 : Nat} {x1 : Int32} {x2 : Int32} {x3 : Int32} {hp : xh} (X : xX p l e rm_Model_inductive s m args below meth c G z A y_Model_inductive b_Model_inductive 6) (hret : xRet p l e rm_Model_inductive s m args below meth c G A 6 Qw b_Model_inductive (some .boolean) (xqz Q))  (hf : wp_Model_inductive_36 z Q  a0 x1 x2 x3 hp) : xE p l e rm_Model_inductive s m args below meth c G A 6 Qw 0 0 hp 36 [(0, .ref a0), (1, .int x1), (2, .int x2), (3, .int x3)] [] := by
  obtain ⟨f, hf⟩ := hf
  refine xloop_ind (F := fun k36 a => wp_Model_inductive_36_b z Q  k36 a.1 a.2.1 a.2.2.1 a.2.2.2.1 a.2.2.2.2) (E := fun a => xE p l e rm_Model_inductive s m args below meth c G A 6 Qw 0 0 a.2.2.2.2 36 [(0, .ref (a.1)), (1, .int (a.2.1)), (2, .int (a.2.2.1)), (3, .int (a.2.2.2.1))] []) ?_ f (a0, x1, x2, x3, hp) hf
  intro k36 hk a hf
  obtain ⟨a0, x1, x2, x3, hp⟩ := a
  have hk36 : ∀ (a0 : Nat) (x1 : Int32) (x2 : Int32) (x3 : Int32) (hp : xh), k36 (a0, x1, x2, x3, hp) → xE p l e rm_Model_inductive s m args below meth c G A 6 Qw 0 0 hp 36 [(0, .ref a0), (1, .int x1), (2, .int x2), (3, .int x3)] [] := fun a0 x1 x2 x3 hp h => hk (a0, x1, x2, x3, hp) h
  have hf : wp_Model_inductive_36_b z Q  k36 a0 x1 x2 x3 hp := hf
  unfold wp_Model_inductive_36_b at hf
  refine x_iload_n X (q := 3) d_Model_inductive_36 rfl 37 rfl ?_
  refine x_aload_n X (q := 0) d_Model_inductive_37 rfl 38 rfl ?_
  refine x_getI X hf (ci := 12) (j := 40) rfl (by decide) rfl lf_Model_277 d_Model_inductive_38 41 rfl (fun v1 hf => ?_)
  refine x_icmp_ge X hf d_Model_inductive_41 91 44 (by decide) rfl (fun hf => ?_) (fun hf => ?_)
  · refine x_iconst X (v := 0) d_Model_inductive_91 (by decide) 92 rfl ?_
    refine x_istore_n X (lv' := [(3, .int 0), (0, .ref a0), (1, .int x1), (2, .int x2)]) d_Model_inductive_92 rfl (by decide) rfl 93 rfl ?_
    exact x_sub [1, 2, 3, 0] rfl (t_Model_inductive_93 X hret hf)
  · refine x_aload_n X (q := 0) d_Model_inductive_44 rfl 45 rfl ?_
    refine x_getR X hf (ci := 12) (j := 43) rfl (by decide) rfl lf_Model_106 d_Model_inductive_45 48 rfl (fun o2 hf => ?_)
    refine x_iload_n X (q := 3) d_Model_inductive_48 rfl 49 rfl ?_
    refine x_aload_n X (q := 0) d_Model_inductive_49 rfl 50 rfl ?_
    refine x_getR X hf (ci := 12) (j := 34) rfl (by decide) rfl lf_Model_89 d_Model_inductive_50 53 rfl (fun o3 hf => ?_)
    refine x_iload_n X (q := 3) d_Model_inductive_53 rfl 54 rfl ?_
    refine x_lald X hf d_Model_inductive_54 55 rfl (fun v4 hf => ?_)
    refine x_lconst X (v := 0) d_Model_inductive_55 (by decide) 56 rfl ?_
    refine x_lcmp X d_Model_inductive_56 57 rfl ?_
    refine x_if_eq X hf d_Model_inductive_57 64 60 (by decide) rfl (fun hf => ?_) (fun hf => ?_)
    · refine x_iconst X (v := 0) d_Model_inductive_64 (by decide) 65 rfl ?_
      exact x_sub [0, 1, 2, 3] rfl (t_Model_inductive_65 X hret hk36 hf)
    · refine x_iconst X (v := 1) d_Model_inductive_60 (by decide) 61 rfl ?_
      refine x_goto X d_Model_inductive_61 65 (by decide) ?_
      exact x_sub [0, 1, 2, 3] rfl (t_Model_inductive_65 X hret hk36 hf)
set_option maxRecDepth 100000 in
def wp_Model_inductive_23 (z : Nat → Nat) (Q : Int32 → xh → Prop)  (a0 : Nat) (x1 : Int32) (s1 : Int32) (s0 : Nat) (hp : xh) : Prop :=
  xcls hp s0 12 ∧ wp_Model_fails z (fun v2 h1 => (v2 = 0 → wp_Model_inductive_36 z Q a0 x1 0 0 h1) ∧ (¬ v2 = 0 → Q 0 h1)) s0 s1 2 hp
set_option maxRecDepth 100000 in
set_option maxHeartbeats 4000000 in
theorem t_Model_inductive_23 {p : Program} {l : Launch} {e : Env} {s : State} {m : MethodId} {args : Array Value} {below : List Frame} {meth : Method} {c : Code} {G : xG} {z : Nat → Nat} {A : Nat → Prop} {Qw : State → Prop} {Q : Int32 → xh → Prop} {a0 : Nat} {x1 : Int32} {s1 : Int32} {s0 : Nat} {hp : xh} (X : xX p l e rm_Model_inductive s m args below meth c G z A y_Model_inductive b_Model_inductive 6) (hret : xRet p l e rm_Model_inductive s m args below meth c G A 6 Qw b_Model_inductive (some .boolean) (xqz Q))  (hf : wp_Model_inductive_23 z Q  a0 x1 s1 s0 hp) : xE p l e rm_Model_inductive s m args below meth c G A 6 Qw 0 0 hp 23 [(0, .ref a0), (1, .int x1)] [.int s1, .ref s0] := by
  unfold wp_Model_inductive_23 at hf
  refine x_iconst X (v := 2) d_Model_inductive_23 (by decide) 24 rfl ?_
  refine x_callV0z X (t_Model_fails hf.2) hf.1 (ci := 12) rfl rfl lm_Model_301 im_Model_fails sl_Model_fails cd_Model_fails in_Model ds_Model_fails rfl rfl (Nat.le_of_ble_eq_true rfl) (Nat.le_of_ble_eq_true rfl) (Nat.le_of_ble_eq_true rfl) rfl rfl (Nat.le_refl 0) (Nat.le_refl 0) d_Model_inductive_24 27 rfl (fun v2 h1 hb3 hf => ?_)
  refine x_if_eq X hf d_Model_inductive_27 32 30 (by decide) rfl (fun hf => ?_) (fun hf => ?_)
  · refine x_iconst X (v := 0) d_Model_inductive_32 (by decide) 33 rfl ?_
    refine x_istore_n X (lv' := [(2, .int 0), (0, .ref a0), (1, .int x1)]) d_Model_inductive_33 rfl (by decide) rfl 34 rfl ?_
    refine x_iconst X (v := 0) d_Model_inductive_34 (by decide) 35 rfl ?_
    refine x_istore_n X (lv' := [(3, .int 0), (2, .int 0), (0, .ref a0), (1, .int x1)]) d_Model_inductive_35 rfl (by decide) rfl 36 rfl ?_
    exact x_sub [2, 3, 1, 0] rfl (t_Model_inductive_36 X hret hf)
  · refine x_iconst X (v := 0) d_Model_inductive_30 (by decide) 31 rfl ?_
    exact hret _ _ _ _ _ (some (.int 0)) (Nat.le_refl 0) (Nat.le_refl 0) ⟨_, rfl, (Or.inl rfl), hf⟩ ⟨⟨_, rfl, xbl_nar (Or.inl rfl)⟩, d_Model_inductive_31⟩
set_option maxRecDepth 100000 in
def wp_Model_inductive_18 (z : Nat → Nat) (Q : Int32 → xh → Prop)  (a0 : Nat) (x1 : Int32) (s0 : Nat) (hp : xh) : Prop :=
  wp_Model_inductive_23 z Q a0 x1 1 s0 hp
set_option maxRecDepth 100000 in
set_option maxHeartbeats 4000000 in
theorem t_Model_inductive_18 {p : Program} {l : Launch} {e : Env} {s : State} {m : MethodId} {args : Array Value} {below : List Frame} {meth : Method} {c : Code} {G : xG} {z : Nat → Nat} {A : Nat → Prop} {Qw : State → Prop} {Q : Int32 → xh → Prop} {a0 : Nat} {x1 : Int32} {s0 : Nat} {hp : xh} (X : xX p l e rm_Model_inductive s m args below meth c G z A y_Model_inductive b_Model_inductive 6) (hret : xRet p l e rm_Model_inductive s m args below meth c G A 6 Qw b_Model_inductive (some .boolean) (xqz Q))  (hf : wp_Model_inductive_18 z Q  a0 x1 s0 hp) : xE p l e rm_Model_inductive s m args below meth c G A 6 Qw 0 0 hp 18 [(0, .ref a0), (1, .int x1)] [.ref s0] := by
  unfold wp_Model_inductive_18 at hf
  refine x_iconst X (v := 1) d_Model_inductive_18 (by decide) 19 rfl ?_
  refine x_goto X d_Model_inductive_19 23 (by decide) ?_
  exact x_sub [0, 1] rfl (t_Model_inductive_23 X hret hf)
set_option maxRecDepth 100000 in
def wp_Model_inductive (z : Nat → Nat) (Q : Int32 → xh → Prop) (a0 : Nat) (x1 : Int32) (hp : xh) : Prop :=
  xcls hp a0 12 ∧ wp_Model_none z (fun v2 h1 => (¬ v2 = 0 → Q 0 h1) ∧ (v2 = 0 → ((x1 < 0 → wp_Model_inductive_18 z Q a0 x1 a0 h1) ∧ (¬ x1 < 0 → ((x1 ≤ 8 → wp_Model_inductive_23 z Q a0 x1 0 a0 h1) ∧ (¬ x1 ≤ 8 → wp_Model_inductive_18 z Q a0 x1 a0 h1)))))) a0 hp
set_option maxRecDepth 100000 in
set_option maxHeartbeats 4000000 in
theorem t_Model_inductive {l : Launch} {G : xG} {z : Nat → Nat} {Q : Int32 → xh → Prop} {a0 : Nat} {x1 : Int32} {hp : xh} (hf : wp_Model_inductive z Q a0 x1 hp) : xM l G z y_Model_inductive b_Model_inductive 6 (some .boolean) rm_Model_inductive [.ref a0, .int x1] hp (xqz Q) := by
  refine xM_of (by decide) (Nat.le_of_ble_eq_true rfl) (lv0 := [(0, .ref a0), (1, .int x1)]) rfl ?_
  intro p e s m args below meth c A Qw X hret
  unfold wp_Model_inductive at hf
  refine x_aload_n X (q := 0) d_Model_inductive_0 rfl 1 rfl ?_
  refine x_callV0z X (t_Model_none hf.2) hf.1 (ci := 12) rfl rfl lm_Model_308 im_Model_none sl_Model_none cd_Model_none in_Model ds_Model_none rfl rfl (Nat.le_of_ble_eq_true rfl) (Nat.le_of_ble_eq_true rfl) (Nat.le_of_ble_eq_true rfl) rfl rfl (Nat.le_refl 0) (Nat.le_refl 0) d_Model_inductive_1 4 rfl (fun v2 h1 hb3 hf => ?_)
  refine x_if_ne X hf d_Model_inductive_4 30 7 (by decide) rfl (fun hf => ?_) (fun hf => ?_)
  · refine x_iconst X (v := 0) d_Model_inductive_30 (by decide) 31 rfl ?_
    exact hret _ _ _ _ _ (some (.int 0)) (Nat.le_refl 0) (Nat.le_refl 0) ⟨_, rfl, (Or.inl rfl), hf⟩ ⟨⟨_, rfl, xbl_nar (Or.inl rfl)⟩, d_Model_inductive_31⟩
  · refine x_aload_n X (q := 0) d_Model_inductive_7 rfl 8 rfl ?_
    refine x_iload_n X (q := 1) d_Model_inductive_8 rfl 9 rfl ?_
    refine x_if_lt X hf d_Model_inductive_9 18 12 (by decide) rfl (fun hf => ?_) (fun hf => ?_)
    · exact x_sub [0, 1] rfl (t_Model_inductive_18 X hret hf)
    · refine x_iload_n X (q := 1) d_Model_inductive_12 rfl 13 rfl ?_
      refine x_bipush X (v := 8) d_Model_inductive_13 (by decide) 15 rfl ?_
      refine x_icmp_le X hf d_Model_inductive_15 22 18 (by decide) rfl (fun hf => ?_) (fun hf => ?_)
      · refine x_iconst X (v := 0) d_Model_inductive_22 (by decide) 23 rfl ?_
        exact x_sub [0, 1] rfl (t_Model_inductive_23 X hret hf)
      · exact x_sub [0, 1] rfl (t_Model_inductive_18 X hret hf)

