/-! The class loads a file: its reader's circuit and circuit c are exchanged. -/
def xw (b k : Nat) : Nat := if b ≤ k ∧ k < b + 11 then k - b + 40 else if 40 ≤ k ∧ k < 51 then k - 40 + b else k
theorem xw_inv {b : Nat} (hb : b = 0 ∨ b = 20) (k : Nat) : xw b (xw b k) = k := by
  have h1 : ∀ k, (b ≤ k ∧ k < b + 11) → xw b k = k - b + 40 := fun k h => if_pos h
  have h2 : ∀ k, ¬ (b ≤ k ∧ k < b + 11) → (40 ≤ k ∧ k < 51) → xw b k = k - 40 + b := fun k h h' => by unfold xw; rw [if_neg h, if_pos h']
  have h3 : ∀ k, ¬ (b ≤ k ∧ k < b + 11) → ¬ (40 ≤ k ∧ k < 51) → xw b k = k := fun k h h' => by unfold xw; rw [if_neg h, if_neg h']
  by_cases c1 : b ≤ k ∧ k < b + 11
  · rw [h1 k c1, h2 _ (by omega) (by omega)]; omega
  · by_cases c2 : 40 ≤ k ∧ k < 51
    · rw [h2 k c1 c2, h1 _ (by omega)]; omega
    · rw [h3 k c1 c2, h3 k c1 c2]
theorem xw_hi {b k : Nat} (hb : b = 0 ∨ b = 20) (h : 51 ≤ k) : xw b k = k := by unfold xw; rw [if_neg (by omega), if_neg (by omega)]
theorem xw_other {b k : Nat} (h1 : ¬ (b ≤ k ∧ k < b + 11)) (h2 : ¬ (40 ≤ k ∧ k < 51)) : xw b k = k := by unfold xw; rw [if_neg h1, if_neg h2]
theorem xw_in {b j : Nat} (hb : b = 0 ∨ b = 20) (h : j < 11) : xw b (b + j) = 40 + j := by unfold xw; rw [if_pos (by omega)]; omega
theorem xw_li {w : Bool} {b : Nat} (hb : b = 0 ∨ b = 20) (k : Nat) : li w k = li w (xw b k) := by
  by_cases h : 51 ≤ k
  · rw [xw_hi hb h]
  · rcases hb with rfl | rfl
    · have : ∀ w, ∀ k : Fin 51, li w k.1 = li w (xw 0 k.1) := by decide +kernel
      exact this w ⟨k, by omega⟩
    · have : ∀ w, ∀ k : Fin 51, li w k.1 = li w (xw 20 k.1) := by decide +kernel
      exact this w ⟨k, by omega⟩
def swE (e : xenv) {b : Nat} (hb : b = 0 ∨ b = 20) : xenv := ⟨(fun k => e.1.1 (xw b k), e.1.2), fun i j h => by
  have h1 := e.2 _ _ h
  rw [← xw_inv hb i, ← xw_inv hb j, h1]⟩
theorem swE_hi (e : xenv) {b : Nat} (hb : b = 0 ∨ b = 20) {k : Nat} (h : 51 ≤ k) : ad (swE e hb) k = ad e k := by
  show e.1.1 (xw b k) = e.1.1 k
  rw [xw_hi hb h]
theorem ob_swap {e e' : xenv} {w : Bool} {f : Nat → Int32} {l l' : Nat → Int64} {k : Nat} (h : ∀ j, 51 ≤ j → ad e' j = ad e j) (hn : e'.1.2 = e.1.2) (hk : 51 ≤ k) (hk6 : k ≠ 64) (hk7 : k ≠ 75) : ob e' w f l k = ob e w f l k := by
  unfold ob
  repeat' (refine blt_cg (fun _ => ?_) (fun _ => ?_))
  all_goals first
    | rfl
    | (exfalso; omega)
    | (cases (f 50 == 0) <;> simp (discharger := decide) only [h, hn, cond]; done)
    | (simp (discharger := decide) only [h, hn]; done)
theorem ob_low {e : xenv} {w : Bool} {f : Nat → Int32} {l l' : Nat → Int64} {k : Nat} (hk : k < 51) : ob e w f l k = ob e w f l' k := by
  unfold ob
  repeat' (refine blt_cg (fun _ => ?_) (fun _ => ?_))
  all_goals first
    | rfl
    | (exfalso; omega)
section
variable {e : xenv} {w : Bool} {F : Nat → Nat → Int32} {L : Nat → Nat → Int64} {g : xh} {z : Nat → Nat}
theorem v_swap0 {P : xh → Prop} (h : P (mem (swE e (b := 0) (Or.inl rfl)) w (fun k => F (xw 0 k)) L g)) : wp_Reader_exchange z (fun o8 h7 => xcls h7 o8 0 ∧ ∃ h9, sR h7 (ad e 75) 5 (Int32.ofNat 0) o8 = some h9 ∧ P h9) (ad e 64) (ad e 0) (mem e w F L g) := by
  unfold wp_Reader_exchange
  rw [mem_gm]
  refine b_fR (k := 64) ad_gI (by rfl) (by rfl) (by rfl) (by rfl) ?_
  refine b_pV (k := 64) ad_gI (by rfl) (by rfl) (by rfl) (Nat.le_of_ble_eq_true rfl) ?_
  refine b_cls (k := 40) ad_gI (by rfl) (by rfl) (by rfl) ?_
  refine b_sR (k := 75) (i := 0) ad_gI (by rfl) (by rfl) (by rfl) (by rfl) (by decide) (by decide) ?_
  rw [mem_gm] at h
  refine (congrArg P (gm_eq (xw 0) ad_gI (ad_gI (e := swE e (b := 0) (Or.inl rfl)) (lv := li w)) (xw_inv (Or.inl rfl)) (xw_li (Or.inl rfl)) (fun k _ => rfl) (fun k hk => ?_))).mpr h
  clear h hk
  by_cases hk51 : k < 51
  · rw [ob_low (l' := L (xw 0 k)) hk51]
    by_cases e0 : k = 0
    · subst e0; rfl
    by_cases e1 : k = 1
    · subst e1; rfl
    by_cases e2 : k = 2
    · subst e2; rfl
    by_cases e3 : k = 3
    · subst e3; rfl
    by_cases e4 : k = 4
    · subst e4; rfl
    by_cases e5 : k = 5
    · subst e5; rfl
    by_cases e6 : k = 6
    · subst e6; rfl
    by_cases e7 : k = 7
    · subst e7; rfl
    by_cases e8 : k = 8
    · subst e8; rfl
    by_cases e9 : k = 9
    · subst e9; rfl
    by_cases e10 : k = 10
    · subst e10; rfl
    by_cases e40 : k = 40
    · subst e40; rfl
    by_cases e41 : k = 41
    · subst e41; rfl
    by_cases e42 : k = 42
    · subst e42; rfl
    by_cases e43 : k = 43
    · subst e43; rfl
    by_cases e44 : k = 44
    · subst e44; rfl
    by_cases e45 : k = 45
    · subst e45; rfl
    by_cases e46 : k = 46
    · subst e46; rfl
    by_cases e47 : k = 47
    · subst e47; rfl
    by_cases e48 : k = 48
    · subst e48; rfl
    by_cases e49 : k = 49
    · subst e49; rfl
    by_cases e50 : k = 50
    · subst e50; rfl
    have hsk : xw 0 k = k := xw_other (by omega) (by omega)
    have hs : ∀ (o : Nat → xo) (j : Nat) (x : xo), k ≠ j → stO o j x k = o k := fun o j x hh => if_neg hh
    rw [hsk, hs _ _ _ (by omega), hs _ _ _ (by omega)]
    unfold ob
    repeat' (refine blt_cg (fun _ => ?_) (fun _ => ?_))
    all_goals first
      | rfl
      | (exfalso; omega)
  · by_cases e64 : k = 64
    · subst e64; rfl
    · by_cases e75 : k = 75
      · subst e75
        show (.inl (5, 2, .inr (.inr (.inr (.inr (fun i => bif Nat.beq i 0 then some (ad e (xw 0 0)) else bif Nat.beq i 1 then some (ad e (xw 0 20)) else none))))) : xo) = .inl (5, 2, .inr (.inr (.inr (.inr (va_up (fun i => bif Nat.beq i 0 then some (ad e 0) else bif Nat.beq i 1 then some (ad e 20) else none) 0 (some (ad e 40)))))))
        have hf : (fun i => bif Nat.beq i 0 then some (ad e (xw 0 0)) else bif Nat.beq i 1 then some (ad e (xw 0 20)) else none) = va_up (fun i => bif Nat.beq i 0 then some (ad e 0) else bif Nat.beq i 1 then some (ad e 20) else none) 0 (some (ad e 40)) := by
          funext i
          match i with
          | 0 => rfl
          | 1 => rfl
          | i + 2 => rfl
        rw [hf]
      · rw [xw_hi (Or.inl rfl) (by omega)]
        have hs : ∀ (o : Nat → xo) (j : Nat) (x : xo), k ≠ j → stO o j x k = o k := fun o j x hh => if_neg hh
        rw [hs _ _ _ e75, hs _ _ _ e64]
        exact ob_swap (e := e) (e' := swE e (b := 0) (Or.inl rfl)) (l' := L k) (fun j hj => swE_hi e (Or.inl rfl) hj) rfl (by omega) e64 e75
theorem v_swap1 {P : xh → Prop} (h : P (mem (swE e (b := 20) (Or.inr rfl)) w (fun k => F (xw 20 k)) L g)) : wp_Reader_exchange z (fun o8 h7 => xcls h7 o8 0 ∧ ∃ h9, sR h7 (ad e 75) 5 (Int32.ofNat 1) o8 = some h9 ∧ P h9) (ad e 64) (ad e 20) (mem e w F L g) := by
  unfold wp_Reader_exchange
  rw [mem_gm]
  refine b_fR (k := 64) ad_gI (by rfl) (by rfl) (by rfl) (by rfl) ?_
  refine b_pV (k := 64) ad_gI (by rfl) (by rfl) (by rfl) (Nat.le_of_ble_eq_true rfl) ?_
  refine b_cls (k := 40) ad_gI (by rfl) (by rfl) (by rfl) ?_
  refine b_sR (k := 75) (i := 1) ad_gI (by rfl) (by rfl) (by rfl) (by rfl) (by decide) (by decide) ?_
  rw [mem_gm] at h
  refine (congrArg P (gm_eq (xw 20) ad_gI (ad_gI (e := swE e (b := 20) (Or.inr rfl)) (lv := li w)) (xw_inv (Or.inr rfl)) (xw_li (Or.inr rfl)) (fun k _ => rfl) (fun k hk => ?_))).mpr h
  clear h hk
  by_cases hk51 : k < 51
  · rw [ob_low (l' := L (xw 20 k)) hk51]
    by_cases e20 : k = 20
    · subst e20; rfl
    by_cases e21 : k = 21
    · subst e21; rfl
    by_cases e22 : k = 22
    · subst e22; rfl
    by_cases e23 : k = 23
    · subst e23; rfl
    by_cases e24 : k = 24
    · subst e24; rfl
    by_cases e25 : k = 25
    · subst e25; rfl
    by_cases e26 : k = 26
    · subst e26; rfl
    by_cases e27 : k = 27
    · subst e27; rfl
    by_cases e28 : k = 28
    · subst e28; rfl
    by_cases e29 : k = 29
    · subst e29; rfl
    by_cases e30 : k = 30
    · subst e30; rfl
    by_cases e40 : k = 40
    · subst e40; rfl
    by_cases e41 : k = 41
    · subst e41; rfl
    by_cases e42 : k = 42
    · subst e42; rfl
    by_cases e43 : k = 43
    · subst e43; rfl
    by_cases e44 : k = 44
    · subst e44; rfl
    by_cases e45 : k = 45
    · subst e45; rfl
    by_cases e46 : k = 46
    · subst e46; rfl
    by_cases e47 : k = 47
    · subst e47; rfl
    by_cases e48 : k = 48
    · subst e48; rfl
    by_cases e49 : k = 49
    · subst e49; rfl
    by_cases e50 : k = 50
    · subst e50; rfl
    have hsk : xw 20 k = k := xw_other (by omega) (by omega)
    have hs : ∀ (o : Nat → xo) (j : Nat) (x : xo), k ≠ j → stO o j x k = o k := fun o j x hh => if_neg hh
    rw [hsk, hs _ _ _ (by omega), hs _ _ _ (by omega)]
    unfold ob
    repeat' (refine blt_cg (fun _ => ?_) (fun _ => ?_))
    all_goals first
      | rfl
      | (exfalso; omega)
  · by_cases e64 : k = 64
    · subst e64; rfl
    · by_cases e75 : k = 75
      · subst e75
        show (.inl (5, 2, .inr (.inr (.inr (.inr (fun i => bif Nat.beq i 0 then some (ad e (xw 20 0)) else bif Nat.beq i 1 then some (ad e (xw 20 20)) else none))))) : xo) = .inl (5, 2, .inr (.inr (.inr (.inr (va_up (fun i => bif Nat.beq i 0 then some (ad e 0) else bif Nat.beq i 1 then some (ad e 20) else none) 1 (some (ad e 40)))))))
        have hf : (fun i => bif Nat.beq i 0 then some (ad e (xw 20 0)) else bif Nat.beq i 1 then some (ad e (xw 20 20)) else none) = va_up (fun i => bif Nat.beq i 0 then some (ad e 0) else bif Nat.beq i 1 then some (ad e 20) else none) 1 (some (ad e 40)) := by
          funext i
          match i with
          | 0 => rfl
          | 1 => rfl
          | i + 2 => rfl
        rw [hf]
      · rw [xw_hi (Or.inr rfl) (by omega)]
        have hs : ∀ (o : Nat → xo) (j : Nat) (x : xo), k ≠ j → stO o j x k = o k := fun o j x hh => if_neg hh
        rw [hs _ _ _ e75, hs _ _ _ e64]
        exact ob_swap (e := e) (e' := swE e (b := 20) (Or.inr rfl)) (l' := L k) (fun j hj => swE_hi e (Or.inr rfl) hj) rfl (by omega) e64 e75
theorem v_swap {P : xh → Prop} {c : Nat} (hcl : c < 2) (h : ∀ e' F', e'.1.2 = e.1.2 → (∀ j, 51 ≤ j → ad e' j = ad e j) → (∀ k, 51 ≤ k → F' k = F k) → (∀ j, j < 11 → F' (20 * c + j) = F (40 + j)) → (∀ c' j, c' < 2 → c' ≠ c → j < 11 → F' (20 * c' + j) = F (20 * c' + j)) → P (mem e' w F' L g)) : wp_Reader_exchange z (fun o8 h7 => xcls h7 o8 0 ∧ ∃ h9, sR h7 (ad e 75) 5 (Int32.ofNat c) o8 = some h9 ∧ P h9) (ad e 64) (ad e (20 * c)) (mem e w F L g) := by
  rcases c_cases hcl with rfl | rfl
  · refine v_swap0 (h _ _ rfl (fun j hj => swE_hi e (Or.inl rfl) hj) (fun k hk => by rw [xw_hi (Or.inl rfl) hk]) (fun j hj => ?_) (fun c' j a1 a2 a3 => ?_))
    · rw [show 20 * 0 + j = 0 + j from rfl, xw_in (Or.inl rfl) hj]
    · rw [xw_other (by omega) (by omega)]
  · refine v_swap1 (h _ _ rfl (fun j hj => swE_hi e (Or.inr rfl) hj) (fun k hk => by rw [xw_hi (Or.inr rfl) hk]) (fun j hj => ?_) (fun c' j a1 a2 a3 => ?_))
    · rw [show 20 * 1 + j = 20 + j from rfl, xw_in (Or.inr rfl) hj]
    · rw [xw_other (by omega) (by omega)]
end
