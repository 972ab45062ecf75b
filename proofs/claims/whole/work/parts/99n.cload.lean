/-! The class's load. -/
theorem KC.mv {b b' : Nat} {F F' : Nat → Nat → Int32} {C : Nat → Nat → Nat} (h : ∀ j, j < 11 → F' (b' + j) = F (b + j)) (hK : KC b F C) : KC b' F' C := by
  have h0 : F' b' = F b := h 0 (by decide)
  unfold KC
  rw [h0, h 1 (by decide), h 2 (by decide), h 3 (by decide), h 4 (by decide), h 5 (by decide), h 6 (by decide), h 7 (by decide), h 8 (by decide), h 9 (by decide), h 10 (by decide)]
  exact hK
/-- what a load of the class leaves as it was -/
def cfr (F F' : Nat → Nat → Int32) : Prop := (∀ k, 72 < k → k ≠ 77 → k ≠ 160 → F' k = F k) ∧ F' 62 = F 62 ∧ F' 160 10 = F 160 10
section
variable {e : xenv} {w : Bool} {F : Nat → Nat → Int32} {L : Nat → Nat → Int64} {g : xh} {z : Nat → Nat} {D : Nat → Option (Nat → Nat → Nat)} {b : Nat → Nat} {n f mc ms : Nat}
theorem v_Judge_load {Q : Int32 → xh → Prop} {QX : Nat → xh → Prop} {x : Int32} (hT : TP F b n) (hf : n ≤ f) (hZ : Zs e z F) (hR : RC F D) (hmc : 1 ≤ mc) (hms : 6 ≤ ms)
    (h0 : (∀ c, c < 2 → x ≠ Int32.ofNat c) → ∀ F', cfr F F' → F' 160 = F 160 → F' 77 = F 77 → RC F' D → F' 61 2 = 0 → F' 64 11 = 0 → F' 64 12 = -1 → QX 1 (mem e w F' L g))
    (h1 : ∀ c k q, c < 2 → x = Int32.ofNat c → rfA b f S00 0 = .error (k, q) → ∀ F', cfr F F' → F' 160 = F 160 → F' 77 = F 77 → RC F' D → F' 61 2 = 0 → F' 64 11 = Int32.ofNat k → F' 64 12 = Int32.ofNat q → QX 1 (mem e w F' L g))
    (h2 : ∀ c T p' v', c < 2 → x = Int32.ofNat c → rfA b f S00 0 = .ok (orS T, p', v') → FG T → NM T → DF T → (sg2 T (T 0 4)).2 = T 0 4 → ∀ e' F', e'.1.2 = e.1.2 → (∀ j, 51 ≤ j → ad e' j = ad e j) → cfr F F' → (w = true → F' 160 7 = 0 ∧ F' 160 8 = 0 ∧ F' 160 9 = 0) → (∀ j, j < 2 → F' 77 j = 0) → RC F' (updD D c (ciC T)) → F' 61 2 = 0 → F' 64 11 = 0 → F' 64 12 = -1 → Q (Int32.ofNat (T 0 4)) (mem e' w F' L g)) :
    wp_Judge_load z mc ms Q QX (ad e 60) x (mem e w F L g) := by
  unfold wp_Judge_load
  repeat (first | ((with_reducible show ∃ _, _ ∧ _); first | refine s_fI (by rfl) (by rfl) (by rfl) ?_ | refine s_fR (by rfl) (by rfl) (by rfl) ?_ | refine s_pV (by rfl) (by rfl) (Nat.le_of_ble_eq_true rfl) (by rfl) ?_) | ((with_reducible show xcls _ _ _ ∧ _); refine s_cls (by rfl) (by rfl) ?_))
  unfold wp_Reader_forgetFault
  repeat (first | ((with_reducible show ∃ _, _ ∧ _); first | refine s_fI (by rfl) (by rfl) (by rfl) ?_ | refine s_fR (by rfl) (by rfl) (by rfl) ?_ | refine s_pV (by rfl) (by rfl) (Nat.le_of_ble_eq_true rfl) (by rfl) ?_) | ((with_reducible show xcls _ _ _ ∧ _); refine s_cls (by rfl) (by rfl) ?_))
  generalize hF1 : up (up F 64 11 0) 64 12 (-1) = F1
  have k1 : ∀ k, k ≠ 64 → F1 k = F k := fun k hk => by rw [← hF1, up_k hk, up_k hk]
  have z1 : F1 64 11 = 0 ∧ F1 64 12 = -1 := by rw [← hF1, up_i, up_i]; exact ⟨rfl, by rw [up_i]; rfl⟩
  have hT1 : TP F1 b n := by unfold TP; rw [k1 61 (by decide), k1 63 (by decide)]; exact hT
  have hR1 : RC F1 D := RC.kept (fun k hk => k1 k (by omega)) hR
  have refuse : ∀ F2, QX 1 (mem e w (up F2 61 2 0) L g) → wp_Judge_load_28 z mc ms Q QX (ad e 60) x (mem e w F2 L g) 0 0 := by
    intro F2 hq
    unfold wp_Judge_load_28 wp_Judge_load_29
    repeat (first | ((with_reducible show ∃ _, _ ∧ _); first | refine s_fI (by rfl) (by rfl) (by rfl) ?_ | refine s_fR (by rfl) (by rfl) (by rfl) ?_ | refine s_pV (by rfl) (by rfl) (Nat.le_of_ble_eq_true rfl) (by rfl) ?_) | ((with_reducible show xcls _ _ _ ∧ _); refine s_cls (by rfl) (by rfl) ?_))
    exact ⟨fun hh => absurd rfl hh, fun _ => ⟨by omega, by omega, hq⟩⟩
  refine v_isCircuit (fun hno => ⟨fun _ => ?_, fun hh => absurd rfl hh⟩) (fun c hcl hx => ⟨fun hh => absurd hh (by decide), fun _ => ?_⟩)
  · refine refuse F1 (h0 hno _ ⟨fun k a1 a2 a3 => by rw [up_k (by omega), k1 k (by omega)], by rw [up_k (by decide), k1 62 (by decide)], by rw [up_k (by decide), k1 160 (by decide)]⟩ (by rw [up_k (by decide), k1 160 (by decide)]) (by rw [up_k (by decide), k1 77 (by decide)]) (RC.kept (fun k hk => up_k (by omega)) hR1) (by rw [up_i, if_pos rfl]) (by rw [up_k (by decide)]; exact z1.1) (by rw [up_k (by decide)]; exact z1.2))
  repeat (first | ((with_reducible show ∃ _, _ ∧ _); first | refine s_fI (by rfl) (by rfl) (by rfl) ?_ | refine s_fR (by rfl) (by rfl) (by rfl) ?_ | refine s_pV (by rfl) (by rfl) (Nat.le_of_ble_eq_true rfl) (by rfl) ?_) | ((with_reducible show xcls _ _ _ ∧ _); refine s_cls (by rfl) (by rfl) ?_))
  refine c_file (f := f) hT1 z1 hZ.1 (by rw [k1 81 (by decide)]; exact hZ.2.2.1) hf ?_
  have hb := hT.le
  match hr : rfA b f S00 0 with
  | .error (k, q) =>
    intro F2 f2 q1 q2
    have kk : ∀ k, k < 40 ∨ (50 < k ∧ k < 64) ∨ 72 < k → F2 k = F k := fun k hk => by rw [f2 k hk, k1 k (by omega)]
    refine ⟨fun _ => refuse F2 (h1 c k q hcl hx hr _ ⟨fun k a1 a2 a3 => by rw [up_k (by omega), kk k (by omega)], by rw [up_k (by decide), kk 62 (by omega)], by rw [up_k (by decide), kk 160 (by omega)]⟩ (by rw [up_k (by decide), kk 160 (by omega)]) (by rw [up_k (by decide), kk 77 (by omega)]) (RC.kept (fun k hk => by rw [up_k (by omega), kk k (by omega)]) hR) (by rw [up_i, if_pos rfl]) (by rw [up_k (by decide)]; exact q1) (by rw [up_k (by decide)]; exact q2)), fun hh => absurd rfl hh⟩
  | .ok (S', p', v') =>
    intro F2 hC hp1
    refine ⟨fun hh => absurd hh (by decide), fun _ => ?_⟩
    obtain ⟨T, hST, hFG, hNM, hDF, hso⟩ := rfA_ok hb S00_H.1 S00_H.2 hr
    subst hST
    have hKC := kc_of hC hFG hNM hso
    have kk : ∀ k, k < 40 ∨ (50 < k ∧ k < 64) ∨ 72 < k → F2 k = F k := fun k hk => by rw [hC.1 k hk, k1 k (by omega)]
    unfold wp_Judge_load_29
    repeat (first | ((with_reducible show ∃ _, _ ∧ _); first | refine s_fI (by rfl) (by rfl) (by rfl) ?_ | refine s_fR (by rfl) (by rfl) (by rfl) ?_ | refine s_pV (by rfl) (by rfl) (Nat.le_of_ble_eq_true rfl) (by rfl) ?_) | ((with_reducible show xcls _ _ _ ∧ _); refine s_cls (by rfl) (by rfl) ?_))
    refine ⟨fun _ => ?_, fun hh => absurd hh (by decide)⟩
    repeat (first | ((with_reducible show ∃ _, _ ∧ _); first | refine s_fI (by rfl) (by rfl) (by rfl) ?_ | refine s_fR (by rfl) (by rfl) (by rfl) ?_ | refine s_pV (by rfl) (by rfl) (Nat.le_of_ble_eq_true rfl) (by rfl) ?_) | ((with_reducible show xcls _ _ _ ∧ _); refine s_cls (by rfl) (by rfl) ?_))
    rw [hx]
    refine cs_aR hcl ?_
    repeat (first | ((with_reducible show ∃ _, _ ∧ _); first | refine s_fI (by rfl) (by rfl) (by rfl) ?_ | refine s_fR (by rfl) (by rfl) (by rfl) ?_ | refine s_pV (by rfl) (by rfl) (Nat.le_of_ble_eq_true rfl) (by rfl) ?_) | ((with_reducible show xcls _ _ _ ∧ _); refine s_cls (by rfl) (by rfl) ?_))
    refine v_swap hcl (fun e' F3 hn3 ha3 k3 i3 o3 => ?_)
    rw [← ha3 60 (by decide)]
    repeat (first | ((with_reducible show ∃ _, _ ∧ _); first | refine s_fI (by rfl) (by rfl) (by rfl) ?_ | refine s_fR (by rfl) (by rfl) (by rfl) ?_ | refine s_pV (by rfl) (by rfl) (Nat.le_of_ble_eq_true rfl) (by rfl) ?_) | ((with_reducible show xcls _ _ _ ∧ _); refine s_cls (by rfl) (by rfl) ?_))
    unfold wp_Player_rest
    repeat (first | ((with_reducible show ∃ _, _ ∧ _); first | refine s_fI (by rfl) (by rfl) (by rfl) ?_ | refine s_fR (by rfl) (by rfl) (by rfl) ?_ | refine s_pV (by rfl) (by rfl) (Nat.le_of_ble_eq_true rfl) (by rfl) ?_) | ((with_reducible show xcls _ _ _ ∧ _); refine s_cls (by rfl) (by rfl) ?_))
    refine v_fill1 (k := 77) (n := 2) (by rfl) (fun _ => rfl) (by decide) (fun F4 k4 z4 => ?_)
    have g4 : ∀ k, 51 ≤ k → k ≠ 77 → F4 k = up F2 61 2 0 k := fun k a1 a2 => by rw [k4 k a2, k3 k a1]
    have i4 : ∀ j, j < 11 → F4 (20 * c + j) = F2 (40 + j) := fun j hj => by rw [k4 _ (by omega), i3 j hj, up_k (by omega)]
    have last : ∀ F5, (∀ k, k ≠ 160 → F5 k = F4 k) → F5 160 10 = F 160 10 → (w = true → F5 160 7 = 0 ∧ F5 160 8 = 0 ∧ F5 160 9 = 0) → wp_Judge_load_92 z mc ms Q QX (ad e' 60) (Int32.ofNat c) (mem e' w F5 L g) 0 0 := by
      intro F5 k5 q5 w5
      have hK5 : KC (20 * c) F5 (ciC T) := KC.mv (fun j hj => by rw [k5 _ (by omega), i4 j hj]) hKC
      unfold wp_Judge_load_92
      repeat (first | ((with_reducible show ∃ _, _ ∧ _); first | refine s_fI (by rfl) (by rfl) (by rfl) ?_ | refine s_fR (by rfl) (by rfl) (by rfl) ?_ | refine s_pV (by rfl) (by rfl) (Nat.le_of_ble_eq_true rfl) (by rfl) ?_) | ((with_reducible show xcls _ _ _ ∧ _); refine s_cls (by rfl) (by rfl) ?_))
      refine cs_aR hcl ?_
      refine c_fI (b_of hcl) (by decide) ?_
      rw [hK5.1 4 (by decide)]
      refine h2 c T p' v' hcl hx hr hFG hNM hDF hso e' F5 hn3 ha3 ⟨fun k a1 a2 a3 => by rw [k5 k a3, g4 k (by omega) a2, up_k (by omega), kk k (by omega)], by rw [k5 62 (by decide), g4 62 (by decide) (by decide), up_k (by decide), kk 62 (by omega)], q5⟩ w5 (fun j hj => by rw [k5 77 (by decide)]; exact z4 j hj) ?_ (by rw [k5 61 (by decide), g4 61 (by decide) (by decide), up_i, if_pos rfl]) (by rw [k5 64 (by decide), g4 64 (by decide) (by decide), up_k (by decide)]; exact hC.2.2.2.1.1) (by rw [k5 64 (by decide), g4 64 (by decide) (by decide), up_k (by decide)]; exact hC.2.2.2.1.2)
      intro c' hc'
      unfold updD
      by_cases e0 : c' = c
      · subst e0
        rw [if_pos rfl]
        refine ⟨fun hh => (by cases hh), fun C hC' => ?_⟩
        cases hC'
        refine ⟨?_, hK5⟩
        have := i4 0 (by decide)
        rw [k5 _ (by omega), show 20 * c' = 20 * c' + 0 from rfl, this]
        exact hp1
      · rw [if_neg e0]
        have same : ∀ j, j < 11 → F5 (20 * c' + j) = F (20 * c' + j) := fun j hj => by
          rw [k5 _ (by omega), k4 _ (by omega), o3 c' j hc' e0 hj, up_k (by omega), kk _ (by omega)]
        rw [show F5 (20 * c') = F (20 * c') from same 0 (by decide)]
        exact ⟨(hR c' hc').1, fun C hC' => ⟨((hR c' hc').2 C hC').1, KC.mv same ((hR c' hc').2 C hC').2⟩⟩
    have q160 : F4 160 = F 160 := by rw [g4 160 (by decide) (by decide), up_k (by decide), kk 160 (by omega)]
    cases w
    · refine ⟨none, ?_, fun _ => last F4 (fun k _ => rfl) (by rw [q160]) (fun hh => (by cases hh)), fun r hh => (by cases hh)⟩
      simp only [fN, fV, mem_at (show li false 60 = true by rfl)]
      rfl
    · refine ⟨some (ad e' 160), ?_, fun hh => (by cases hh), fun r _ => ?_⟩
      · simp only [fN, fV, mem_at (show li true 60 = true by rfl)]
        rfl
      · repeat (first | ((with_reducible show ∃ _, _ ∧ _); first | refine s_fI (by rfl) (by rfl) (by rfl) ?_ | refine s_fR (by rfl) (by rfl) (by rfl) ?_ | refine s_pV (by rfl) (by rfl) (Nat.le_of_ble_eq_true rfl) (by rfl) ?_) | ((with_reducible show xcls _ _ _ ∧ _); refine s_cls (by rfl) (by rfl) ?_))
        unfold wp_Works_forget
        repeat (first | ((with_reducible show ∃ _, _ ∧ _); first | refine s_fI (by rfl) (by rfl) (by rfl) ?_ | refine s_fR (by rfl) (by rfl) (by rfl) ?_ | refine s_pV (by rfl) (by rfl) (Nat.le_of_ble_eq_true rfl) (by rfl) ?_) | ((with_reducible show xcls _ _ _ ∧ _); refine s_cls (by rfl) (by rfl) ?_))
        refine last _ (fun k hk => by rw [up_k hk, up_k hk, up_k hk]) ?_ (fun _ => ⟨?_, ?_, ?_⟩)
        · rw [up_i, if_neg (by decide), up_i, if_neg (by decide), up_i, if_neg (by decide), q160]
        · rw [up_i, if_neg (by decide), up_i, if_neg (by decide), up_i, if_pos rfl]
        · rw [up_i, if_neg (by decide), up_i, if_pos rfl]
        · rw [up_i, if_pos rfl]
end
