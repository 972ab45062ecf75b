/-! The works are made, when they are first asked for. -/
theorem li_big {w : Bool} {k : Nat} (h : 194 ≤ k) : li w k = false := by
  cases hb : li w k
  · rfl
  · unfold li at hb
    simp only [Bool.or_eq_true, Bool.and_eq_true, Nat.blt_eq] at hb
    omega
theorem li_old {k : Nat} (h : k < 160) : li true k = li false k := by
  have : ∀ k : Fin 160, li true k.1 = li false k.1 := by decide +kernel
  exact this ⟨k, h⟩
section
variable {e : xenv} {F : Nat → Nat → Int32} {L : Nat → Nat → Int64} {g : xh} {z : Nat → Nat} {mc ms : Nat}
theorem v_ready1 {Q : Nat → xh → Prop} (h : Q (ad e 160) (mem e true F L g)) : wp_Judge_readyWorks z mc ms Q (ad e 60) (mem e true F L g) := by
  unfold wp_Judge_readyWorks wp_Judge_readyWorks_22
  refine ⟨some (ad e 160), ?_, fun hh => (by cases hh), fun r2 _ => ?_⟩
  · simp only [fN, fV, mem_at (show li true 60 = true by rfl)]
    rfl
  · repeat (first | ((with_reducible show ∃ _, _ ∧ _); first | refine s_fI (by rfl) (by rfl) (by rfl) ?_ | refine s_fR (by rfl) (by rfl) (by rfl) ?_ | refine s_pV (by rfl) (by rfl) (Nat.le_of_ble_eq_true rfl) (by rfl) ?_) | ((with_reducible show xcls _ _ _ ∧ _); refine s_cls (by rfl) (by rfl) ?_))
    exact h
theorem v_ready0 {Q : Nat → xh → Prop} (hmc : 29 ≤ mc) (hms : 58894 ≤ ms) (h : ∀ e' F', e'.1.2 = e.1.2 → (∀ j, li false j = true → ad e' j = ad e j) → (∀ k, k < 160 → F' k = F k) → (∀ k, 160 ≤ k → F' k = fun _ => 0) → Q (ad e' 160) (mem e' true F' L g)) : wp_Judge_readyWorks z mc ms Q (ad e 60) (mem e false F L g) := by
  unfold wp_Judge_readyWorks wp_Judge_readyWorks_22
  rw [mem_gm]
  have hI : gI (li false) (ad e) := ad_gI
  refine b_fN (k := 60) hI (by rfl) (by rfl) (by rfl) (by rfl) ⟨fun _ => ⟨by omega, by omega, ?_⟩, fun r2 hh => (by cases hh)⟩
  refine b_new (k := 160) hI (by rfl) (fun q160 hI => ?_)
  refine b_fR (k := 60) hI (by rfl) (by rfl) (by rfl) (by rfl) ?_
  refine ⟨28, 58883, by omega, by omega, ?_⟩
  unfold wp_Works_init
  refine ⟨by omega, by omega, ?_⟩
  refine b_new (k := 165) hI (by rfl) (fun q165 hI => ?_)
  refine ⟨4, 30850, by omega, by omega, ?_⟩
  unfold wp_Table_init
  refine ⟨by omega, by omega, ?_⟩
  refine b_new (k := 166) hI (by rfl) (fun q166 hI => ?_)
  refine b_pV (k := 165) hI (by rfl) (by rfl) (by rfl) (Nat.le_of_ble_eq_true rfl) ?_
  refine ⟨by omega, by omega, ?_⟩
  refine b_new (k := 167) hI (by rfl) (fun q167 hI => ?_)
  refine b_pV (k := 165) hI (by rfl) (by rfl) (by rfl) (Nat.le_of_ble_eq_true rfl) ?_
  refine ⟨by omega, by omega, ?_⟩
  refine b_new (k := 168) hI (by rfl) (fun q168 hI => ?_)
  refine b_pV (k := 165) hI (by rfl) (by rfl) (by rfl) (Nat.le_of_ble_eq_true rfl) ?_
  refine ⟨by omega, by omega, ?_⟩
  refine b_new (k := 169) hI (by rfl) (fun q169 hI => ?_)
  refine b_pV (k := 165) hI (by rfl) (by rfl) (by rfl) (Nat.le_of_ble_eq_true rfl) ?_
  refine b_pV (k := 160) hI (by rfl) (by rfl) (by rfl) (Nat.le_of_ble_eq_true rfl) ?_
  refine ⟨by omega, by omega, ?_⟩
  refine b_new (k := 170) hI (by rfl) (fun q170 hI => ?_)
  refine b_fR (k := 160) hI (by rfl) (by rfl) (by rfl) (by rfl) ?_
  refine ⟨4, 16384, by omega, by omega, ?_⟩
  unfold wp_Walk_init
  refine ⟨by omega, by omega, ?_⟩
  refine b_new (k := 171) hI (by rfl) (fun q171 hI => ?_)
  refine b_pV (k := 170) hI (by rfl) (by rfl) (by rfl) (Nat.le_of_ble_eq_true rfl) ?_
  refine ⟨by omega, by omega, ?_⟩
  refine b_new (k := 172) hI (by rfl) (fun q172 hI => ?_)
  refine b_pV (k := 170) hI (by rfl) (by rfl) (by rfl) (Nat.le_of_ble_eq_true rfl) ?_
  refine ⟨by omega, by omega, ?_⟩
  refine b_new (k := 173) hI (by rfl) (fun q173 hI => ?_)
  refine b_pV (k := 170) hI (by rfl) (by rfl) (by rfl) (Nat.le_of_ble_eq_true rfl) ?_
  refine ⟨by omega, by omega, ?_⟩
  refine b_new (k := 174) hI (by rfl) (fun q174 hI => ?_)
  refine b_pV (k := 170) hI (by rfl) (by rfl) (by rfl) (Nat.le_of_ble_eq_true rfl) ?_
  refine b_pV (k := 170) hI (by rfl) (by rfl) (by rfl) (Nat.le_of_ble_eq_true rfl) ?_
  refine b_pV (k := 160) hI (by rfl) (by rfl) (by rfl) (Nat.le_of_ble_eq_true rfl) ?_
  refine ⟨by omega, by omega, ?_⟩
  refine b_new (k := 175) hI (by rfl) (fun q175 hI => ?_)
  refine b_fR (k := 160) hI (by rfl) (by rfl) (by rfl) (by rfl) ?_
  refine ⟨2, 8192, by omega, by omega, ?_⟩
  unfold wp_Layers_init
  refine ⟨by omega, by omega, ?_⟩
  refine b_new (k := 176) hI (by rfl) (fun q176 hI => ?_)
  refine b_pV (k := 175) hI (by rfl) (by rfl) (by rfl) (Nat.le_of_ble_eq_true rfl) ?_
  refine ⟨by omega, by omega, ?_⟩
  refine b_new (k := 177) hI (by rfl) (fun q177 hI => ?_)
  refine b_pV (k := 175) hI (by rfl) (by rfl) (by rfl) (Nat.le_of_ble_eq_true rfl) ?_
  refine b_pV (k := 175) hI (by rfl) (by rfl) (by rfl) (Nat.le_of_ble_eq_true rfl) ?_
  refine b_pV (k := 160) hI (by rfl) (by rfl) (by rfl) (Nat.le_of_ble_eq_true rfl) ?_
  refine ⟨by omega, by omega, ?_⟩
  refine b_new (k := 180) hI (by rfl) (fun q180 hI => ?_)
  refine ⟨6, 2412, by omega, by omega, ?_⟩
  unfold wp_Likeness_init
  refine ⟨by omega, by omega, ?_⟩
  refine b_new (k := 181) hI (by rfl) (fun q181 hI => ?_)
  refine b_pV (k := 180) hI (by rfl) (by rfl) (by rfl) (Nat.le_of_ble_eq_true rfl) ?_
  refine ⟨by omega, by omega, ?_⟩
  refine b_new (k := 182) hI (by rfl) (fun q182 hI => ?_)
  refine b_pV (k := 180) hI (by rfl) (by rfl) (by rfl) (Nat.le_of_ble_eq_true rfl) ?_
  refine ⟨by omega, by omega, ?_⟩
  refine b_new (k := 183) hI (by rfl) (fun q183 hI => ?_)
  refine b_pV (k := 180) hI (by rfl) (by rfl) (by rfl) (Nat.le_of_ble_eq_true rfl) ?_
  refine ⟨by omega, by omega, ?_⟩
  refine b_new (k := 184) hI (by rfl) (fun q184 hI => ?_)
  refine b_pV (k := 180) hI (by rfl) (by rfl) (by rfl) (Nat.le_of_ble_eq_true rfl) ?_
  refine ⟨by omega, by omega, ?_⟩
  refine b_new (k := 185) hI (by rfl) (fun q185 hI => ?_)
  refine b_pV (k := 180) hI (by rfl) (by rfl) (by rfl) (Nat.le_of_ble_eq_true rfl) ?_
  refine ⟨by omega, by omega, ?_⟩
  refine b_new (k := 186) hI (by rfl) (fun q186 hI => ?_)
  refine b_pV (k := 180) hI (by rfl) (by rfl) (by rfl) (Nat.le_of_ble_eq_true rfl) ?_
  refine b_pV (k := 160) hI (by rfl) (by rfl) (by rfl) (Nat.le_of_ble_eq_true rfl) ?_
  refine ⟨by omega, by omega, ?_⟩
  refine b_new (k := 190) hI (by rfl) (fun q190 hI => ?_)
  refine ⟨3, 801, by omega, by omega, ?_⟩
  unfold wp_Overlay_init
  refine ⟨by omega, by omega, ?_⟩
  refine b_new (k := 191) hI (by rfl) (fun q191 hI => ?_)
  refine b_pV (k := 190) hI (by rfl) (by rfl) (by rfl) (Nat.le_of_ble_eq_true rfl) ?_
  refine ⟨by omega, by omega, ?_⟩
  refine b_new (k := 192) hI (by rfl) (fun q192 hI => ?_)
  refine b_pV (k := 190) hI (by rfl) (by rfl) (by rfl) (Nat.le_of_ble_eq_true rfl) ?_
  refine ⟨by omega, by omega, ?_⟩
  refine b_new (k := 193) hI (by rfl) (fun q193 hI => ?_)
  refine b_pV (k := 190) hI (by rfl) (by rfl) (by rfl) (Nat.le_of_ble_eq_true rfl) ?_
  refine b_pV (k := 160) hI (by rfl) (by rfl) (by rfl) (Nat.le_of_ble_eq_true rfl) ?_
  refine b_pV (k := 160) hI (by rfl) (by rfl) (by rfl) (Nat.le_of_ble_eq_true rfl) ?_
  refine ⟨by omega, by omega, ?_⟩
  refine b_new (k := 161) hI (by rfl) (fun q161 hI => ?_)
  refine ⟨3, 208, by omega, by omega, ?_⟩
  unfold wp_Player_init
  refine ⟨by omega, by omega, ?_⟩
  refine b_new (k := 162) hI (by rfl) (fun q162 hI => ?_)
  refine b_pV (k := 161) hI (by rfl) (by rfl) (by rfl) (Nat.le_of_ble_eq_true rfl) ?_
  refine ⟨by omega, by omega, ?_⟩
  refine b_new (k := 163) hI (by rfl) (fun q163 hI => ?_)
  refine b_pV (k := 161) hI (by rfl) (by rfl) (by rfl) (Nat.le_of_ble_eq_true rfl) ?_
  refine ⟨by omega, by omega, ?_⟩
  refine b_new (k := 164) hI (by rfl) (fun q164 hI => ?_)
  refine b_pV (k := 161) hI (by rfl) (by rfl) (by rfl) (Nat.le_of_ble_eq_true rfl) ?_
  refine b_pV (k := 161) hI (by rfl) (by rfl) (by rfl) (Nat.le_of_ble_eq_true rfl) ?_
  refine b_pV (k := 160) hI (by rfl) (by rfl) (by rfl) (Nat.le_of_ble_eq_true rfl) ?_
  refine b_pV (k := 60) hI (by rfl) (by rfl) (by rfl) (Nat.le_of_ble_eq_true rfl) ?_
  refine b_fR (k := 60) hI (by rfl) (by rfl) (by rfl) (by rfl) ?_
  generalize hnm : upN _ 164 q164 = nm at hI ⊢
  have hlv : ∀ k, li true k = stL (stL (stL (stL (stL (stL (stL (stL (stL (stL (stL (stL (stL (stL (stL (stL (stL (stL (stL (stL (stL (stL (stL (stL (stL (stL (stL (stL (stL (li false) 160) 165) 166) 167) 168) 169) 170) 171) 172) 173) 174) 175) 176) 177) 180) 181) 182) 183) 184) 185) 186) 190) 191) 192) 193) 161) 162) 163) 164 k := by
    intro k
    by_cases hk : k < 194
    · have : ∀ k : Fin 194, li true k.1 = stL (stL (stL (stL (stL (stL (stL (stL (stL (stL (stL (stL (stL (stL (stL (stL (stL (stL (stL (stL (stL (stL (stL (stL (stL (stL (stL (stL (stL (li false) 160) 165) 166) 167) 168) 169) 170) 171) 172) 173) 174) 175) 176) 177) 180) 181) 182) 183) 184) 185) 186) 190) 191) 192) 193) 161) 162) 163) 164 k.1 := by decide +kernel
      exact this ⟨k, hk⟩
    · rw [li_big (by omega)]
      unfold stL
      rw [if_neg (by omega), if_neg (by omega), if_neg (by omega), if_neg (by omega), if_neg (by omega), if_neg (by omega), if_neg (by omega), if_neg (by omega), if_neg (by omega), if_neg (by omega), if_neg (by omega), if_neg (by omega), if_neg (by omega), if_neg (by omega), if_neg (by omega), if_neg (by omega), if_neg (by omega), if_neg (by omega), if_neg (by omega), if_neg (by omega), if_neg (by omega), if_neg (by omega), if_neg (by omega), if_neg (by omega), if_neg (by omega), if_neg (by omega), if_neg (by omega), if_neg (by omega), if_neg (by omega), li_big (by omega)]
  obtain ⟨e', he1, he2⟩ := env_of (lv := li true) (nm := nm) (n := e.1.2) (fun k hk => li_lt hk) (fun i j hi hj => hI i j (by rw [← hlv]; exact hi) (by rw [← hlv]; exact hj))
  have hold : ∀ j, li false j = true → ad e' j = ad e j := by
    intro j hj
    have hj160 : j < 160 := by
      apply Classical.byContradiction
      intro hn
      have h2 : ∀ j : Fin 34, li false (160 + j.1) = false := by decide +kernel
      by_cases h3 : j < 194
      · have := h2 ⟨j - 160, by omega⟩
        dsimp only at this
        rw [show 160 + (j - 160) = j by omega, hj] at this
        cases this
      · rw [li_big (by omega)] at hj; cases hj
    rw [he2 j (by rw [li_old hj160]; exact hj), ← hnm]
    unfold upN
    rw [if_neg (by omega), if_neg (by omega), if_neg (by omega), if_neg (by omega), if_neg (by omega), if_neg (by omega), if_neg (by omega), if_neg (by omega), if_neg (by omega), if_neg (by omega), if_neg (by omega), if_neg (by omega), if_neg (by omega), if_neg (by omega), if_neg (by omega), if_neg (by omega), if_neg (by omega), if_neg (by omega), if_neg (by omega), if_neg (by omega), if_neg (by omega), if_neg (by omega), if_neg (by omega), if_neg (by omega), if_neg (by omega), if_neg (by omega), if_neg (by omega), if_neg (by omega), if_neg (by omega)]
  have h160 : ad e' 160 = q160 := by rw [he2 160 rfl, ← hnm]; rfl
  have h165 : ad e' 165 = q165 := by rw [he2 165 rfl, ← hnm]; rfl
  have h166 : ad e' 166 = q166 := by rw [he2 166 rfl, ← hnm]; rfl
  have h167 : ad e' 167 = q167 := by rw [he2 167 rfl, ← hnm]; rfl
  have h168 : ad e' 168 = q168 := by rw [he2 168 rfl, ← hnm]; rfl
  have h169 : ad e' 169 = q169 := by rw [he2 169 rfl, ← hnm]; rfl
  have h170 : ad e' 170 = q170 := by rw [he2 170 rfl, ← hnm]; rfl
  have h171 : ad e' 171 = q171 := by rw [he2 171 rfl, ← hnm]; rfl
  have h172 : ad e' 172 = q172 := by rw [he2 172 rfl, ← hnm]; rfl
  have h173 : ad e' 173 = q173 := by rw [he2 173 rfl, ← hnm]; rfl
  have h174 : ad e' 174 = q174 := by rw [he2 174 rfl, ← hnm]; rfl
  have h175 : ad e' 175 = q175 := by rw [he2 175 rfl, ← hnm]; rfl
  have h176 : ad e' 176 = q176 := by rw [he2 176 rfl, ← hnm]; rfl
  have h177 : ad e' 177 = q177 := by rw [he2 177 rfl, ← hnm]; rfl
  have h180 : ad e' 180 = q180 := by rw [he2 180 rfl, ← hnm]; rfl
  have h181 : ad e' 181 = q181 := by rw [he2 181 rfl, ← hnm]; rfl
  have h182 : ad e' 182 = q182 := by rw [he2 182 rfl, ← hnm]; rfl
  have h183 : ad e' 183 = q183 := by rw [he2 183 rfl, ← hnm]; rfl
  have h184 : ad e' 184 = q184 := by rw [he2 184 rfl, ← hnm]; rfl
  have h185 : ad e' 185 = q185 := by rw [he2 185 rfl, ← hnm]; rfl
  have h186 : ad e' 186 = q186 := by rw [he2 186 rfl, ← hnm]; rfl
  have h190 : ad e' 190 = q190 := by rw [he2 190 rfl, ← hnm]; rfl
  have h191 : ad e' 191 = q191 := by rw [he2 191 rfl, ← hnm]; rfl
  have h192 : ad e' 192 = q192 := by rw [he2 192 rfl, ← hnm]; rfl
  have h193 : ad e' 193 = q193 := by rw [he2 193 rfl, ← hnm]; rfl
  have h161 : ad e' 161 = q161 := by rw [he2 161 rfl, ← hnm]; rfl
  have h162 : ad e' 162 = q162 := by rw [he2 162 rfl, ← hnm]; rfl
  have h163 : ad e' 163 = q163 := by rw [he2 163 rfl, ← hnm]; rfl
  have h164 : ad e' 164 = q164 := by rw [he2 164 rfl, ← hnm]; rfl
  have key := h e' (fun k => if k < 160 then F k else fun _ => 0) he1 hold (fun k hk => if_pos hk) (fun k hk => if_neg (by omega))
  rw [mem_gm, h160] at key
  refine (congrArg (Q q160) (gm_eq (fun k => k) hI (ad_gI (e := e') (lv := li true)) (fun _ => rfl) hlv (fun k hk => he2 k hk) (fun k hk => ?_))).mpr key
  have hk200 := li_lt hk
  clear h key hI hnm he2 hlv
  subst h160
  subst h165
  subst h166
  subst h167
  subst h168
  subst h169
  subst h170
  subst h171
  subst h172
  subst h173
  subst h174
  subst h175
  subst h176
  subst h177
  subst h180
  subst h181
  subst h182
  subst h183
  subst h184
  subst h185
  subst h186
  subst h190
  subst h191
  subst h192
  subst h193
  subst h161
  subst h162
  subst h163
  subst h164
  by_cases hk160 : k < 160
  · by_cases hk60 : k = 60
    · subst hk60
      show (.inr (11, [.ref (ad e' 61), .ref (ad e' 64), .ref (ad e' 75), .ref (ad e' 76), .ref (ad e' 160)]) : xo) = _
      rw [hold 61 rfl, hold 64 rfl, hold 75 rfl, hold 76 rfl]
      rfl
    · rw [ob_congr (e := e) (w := false) (fun j hj hl => hold j hl) he1 hk160 hk60, if_pos hk160]
      have hs : ∀ (o : Nat → xo) (j : Nat) (x : xo), k ≠ j → stO o j x k = o k := fun o j x hh => if_neg hh
      repeat (refine Eq.trans ?_ (hs _ _ _ (by omega)).symm)
      rfl
  by_cases e160 : k = 160
  · subst e160; rw [← hold 75 rfl]; rfl
  by_cases e165 : k = 165
  · subst e165; rfl
  by_cases e166 : k = 166
  · subst e166; rfl
  by_cases e167 : k = 167
  · subst e167; rfl
  by_cases e168 : k = 168
  · subst e168; rfl
  by_cases e169 : k = 169
  · subst e169; rfl
  by_cases e170 : k = 170
  · subst e170; rfl
  by_cases e171 : k = 171
  · subst e171; rfl
  by_cases e172 : k = 172
  · subst e172; rfl
  by_cases e173 : k = 173
  · subst e173; rfl
  by_cases e174 : k = 174
  · subst e174; rfl
  by_cases e175 : k = 175
  · subst e175; rfl
  by_cases e176 : k = 176
  · subst e176; rfl
  by_cases e177 : k = 177
  · subst e177; rfl
  by_cases e180 : k = 180
  · subst e180; rfl
  by_cases e181 : k = 181
  · subst e181; rfl
  by_cases e182 : k = 182
  · subst e182; rfl
  by_cases e183 : k = 183
  · subst e183; rfl
  by_cases e184 : k = 184
  · subst e184; rfl
  by_cases e185 : k = 185
  · subst e185; rfl
  by_cases e186 : k = 186
  · subst e186; rfl
  by_cases e190 : k = 190
  · subst e190; rfl
  by_cases e191 : k = 191
  · subst e191; rfl
  by_cases e192 : k = 192
  · subst e192; rfl
  by_cases e193 : k = 193
  · subst e193; rfl
  by_cases e161 : k = 161
  · subst e161; rw [← hold 75 rfl]; rfl
  by_cases e162 : k = 162
  · subst e162; rfl
  by_cases e163 : k = 163
  · subst e163; rfl
  by_cases e164 : k = 164
  · subst e164; rfl
  exfalso
  have h2 : ∀ j : Fin 40, li true (160 + j.1) = true → 160 + j.1 = 160 ∨ 160 + j.1 = 165 ∨ 160 + j.1 = 166 ∨ 160 + j.1 = 167 ∨ 160 + j.1 = 168 ∨ 160 + j.1 = 169 ∨ 160 + j.1 = 170 ∨ 160 + j.1 = 171 ∨ 160 + j.1 = 172 ∨ 160 + j.1 = 173 ∨ 160 + j.1 = 174 ∨ 160 + j.1 = 175 ∨ 160 + j.1 = 176 ∨ 160 + j.1 = 177 ∨ 160 + j.1 = 180 ∨ 160 + j.1 = 181 ∨ 160 + j.1 = 182 ∨ 160 + j.1 = 183 ∨ 160 + j.1 = 184 ∨ 160 + j.1 = 185 ∨ 160 + j.1 = 186 ∨ 160 + j.1 = 190 ∨ 160 + j.1 = 191 ∨ 160 + j.1 = 192 ∨ 160 + j.1 = 193 ∨ 160 + j.1 = 161 ∨ 160 + j.1 = 162 ∨ 160 + j.1 = 163 ∨ 160 + j.1 = 164 := by decide +kernel
  have h3 := h2 ⟨k - 160, by omega⟩
  dsimp only at h3
  rw [show 160 + (k - 160) = k by omega] at h3
  have h4 := h3 hk
  omega
end
