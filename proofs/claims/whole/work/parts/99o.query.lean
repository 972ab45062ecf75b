/-! The class's questions. -/
/-- an environment after: what the law holds is where it was -/
def eQ (e e' : xenv) : Prop := e'.1.2 = e.1.2 ∧ ad e' 60 = ad e 60 ∧ ad e' 80 = ad e 80 ∧ ad e' 81 = ad e 81 ∧ ad e' 82 = ad e 82 ∧ ad e' 83 = ad e 83 ∧ ad e' 100 = ad e 100
theorem eQ.refl (e : xenv) : eQ e e := ⟨rfl, rfl, rfl, rfl, rfl, rfl, rfl⟩
theorem LK.kept {F F' : Nat → Nat → Int32} {K : Nat → Nat → Nat → Nat} {q : Nat → Nat} {j : Nat} (h : ∀ k, 180 ≤ k → k ≤ 186 → F' k = F k) (hL : LK F K q j) : LK F' K q j := by
  unfold LK
  rw [h 180 (by decide) (by decide), h 181 (by decide) (by decide), h 182 (by decide) (by decide), h 186 (by decide) (by decide)]
  exact hL
/-- the works have been explored -/
def XP (F : Nat → Nat → Int32) (K : Nat → Nat → Nat → Nat) : Prop := F 160 7 = 1 ∧ TB F K ∧ WK F K ∧ ∃ kn, LY F K kn
/-- what else the works keep -/
def SK (F : Nat → Nat → Int32) (D : Nat → Option (Nat → Nat → Nat)) : Prop := F 160 10 = 0 ∧ (F 160 8 = 0 ∨ (F 160 8 = 1 ∧ mt D ∧ LK F (kd D) (pq (kd D)) (pz (kd D)))) ∧ (F 160 9 = 0 ∨ (F 160 9 = 1 ∧ mt D ∧ F 190 3 = Int32.ofNat (gN (kd D))))
/-- the class's search -/
def SC (w : Bool) (F : Nat → Nat → Int32) (D : Nat → Option (Nat → Nat → Nat)) : Prop := w = false ∨ (SK F D ∧ (F 160 7 = 0 ∨ (mt D ∧ XP F (kd D))))
section
variable {e : xenv} {w : Bool} {F : Nat → Nat → Int32} {L : Nat → Nat → Int64} {g : xh} {z : Nat → Nat} {D : Nat → Option (Nat → Nat → Nat)} {mc ms : Nat}
theorem v_jmatch {Q : Int32 → xh → Prop} (hR : RC F D) (hW : WD D) (h0 : ¬ mt D → Q 0 (mem e w F L g)) (h1 : mt D → Q 1 (mem e w F L g)) : wp_Judge_matching z Q (ad e 60) (mem e w F L g) := by
  unfold wp_Judge_matching
  repeat (first | ((with_reducible show ∃ _, _ ∧ _); first | refine s_fI (by rfl) (by rfl) (by rfl) ?_ | refine s_fR (by rfl) (by rfl) (by rfl) ?_ | refine s_pV (by rfl) (by rfl) (Nat.le_of_ble_eq_true rfl) (by rfl) ?_) | ((with_reducible show xcls _ _ _ ∧ _); refine s_cls (by rfl) (by rfl) ?_))
  refine cs_aR (c := 0) (by decide) ?_
  refine c_fI (b_of (by decide)) (by decide) ?_
  cases d0 : D 0 with
  | none =>
    rw [(hR 0 (by decide)).1 d0]
    exact ⟨fun _ => h0 (fun hm => hm.1 d0), fun hh => absurd rfl hh⟩
  | some C0 =>
    rw [((hR 0 (by decide)).2 _ d0).1]
    refine ⟨fun hh => absurd hh (by decide), fun _ => ?_⟩
    repeat (first | ((with_reducible show ∃ _, _ ∧ _); first | refine s_fI (by rfl) (by rfl) (by rfl) ?_ | refine s_fR (by rfl) (by rfl) (by rfl) ?_ | refine s_pV (by rfl) (by rfl) (Nat.le_of_ble_eq_true rfl) (by rfl) ?_) | ((with_reducible show xcls _ _ _ ∧ _); refine s_cls (by rfl) (by rfl) ?_))
    refine cs_aR (c := 1) (by decide) ?_
    refine c_fI (b_of (by decide)) (by decide) ?_
    cases d1 : D 1 with
    | none =>
      rw [(hR 1 (by decide)).1 d1]
      exact ⟨fun _ => h0 (fun hm => hm.2.1 d1), fun hh => absurd rfl hh⟩
    | some C1 =>
      rw [((hR 1 (by decide)).2 _ d1).1]
      refine ⟨fun hh => absurd hh (by decide), fun _ => ?_⟩
      have k0 := ((hR 0 (by decide)).2 _ d0).2.1
      have k1 := ((hR 1 (by decide)).2 _ d1).2.1
      have s0 := (hW 0 _ d0).small
      have s1 := (hW 1 _ d1).small
      repeat (first | ((with_reducible show ∃ _, _ ∧ _); first | refine s_fI (by rfl) (by rfl) (by rfl) ?_ | refine s_fR (by rfl) (by rfl) (by rfl) ?_ | refine s_pV (by rfl) (by rfl) (Nat.le_of_ble_eq_true rfl) (by rfl) ?_) | ((with_reducible show xcls _ _ _ ∧ _); refine s_cls (by rfl) (by rfl) ?_))
      refine cs_aR (c := 0) (by decide) ?_
      refine c_fI (b_of (by decide)) (by decide) ?_
      repeat (first | ((with_reducible show ∃ _, _ ∧ _); first | refine s_fI (by rfl) (by rfl) (by rfl) ?_ | refine s_fR (by rfl) (by rfl) (by rfl) ?_ | refine s_pV (by rfl) (by rfl) (Nat.le_of_ble_eq_true rfl) (by rfl) ?_) | ((with_reducible show xcls _ _ _ ∧ _); refine s_cls (by rfl) (by rfl) ?_))
      refine cs_aR (c := 1) (by decide) ?_
      refine c_fI (b_of (by decide)) (by decide) ?_
      rw [show F (20 * 0) 2 = Int32.ofNat (C0 0 1) from k0 1 (by decide), show F (20 * 1) 2 = Int32.ofNat (C1 0 1) from k1 1 (by decide), n_eq s0.1 s1.1]
      refine ⟨fun hne => h0 (fun hm => hne ?_), fun heq => ?_⟩
      · have := hm.2.2.1; rw [kd_eq d0, kd_eq d1] at this; exact this
      repeat (first | ((with_reducible show ∃ _, _ ∧ _); first | refine s_fI (by rfl) (by rfl) (by rfl) ?_ | refine s_fR (by rfl) (by rfl) (by rfl) ?_ | refine s_pV (by rfl) (by rfl) (Nat.le_of_ble_eq_true rfl) (by rfl) ?_) | ((with_reducible show xcls _ _ _ ∧ _); refine s_cls (by rfl) (by rfl) ?_))
      refine cs_aR (c := 0) (by decide) ?_
      refine c_fI (b_of (by decide)) (by decide) ?_
      repeat (first | ((with_reducible show ∃ _, _ ∧ _); first | refine s_fI (by rfl) (by rfl) (by rfl) ?_ | refine s_fR (by rfl) (by rfl) (by rfl) ?_ | refine s_pV (by rfl) (by rfl) (Nat.le_of_ble_eq_true rfl) (by rfl) ?_) | ((with_reducible show xcls _ _ _ ∧ _); refine s_cls (by rfl) (by rfl) ?_))
      refine cs_aR (c := 1) (by decide) ?_
      refine c_fI (b_of (by decide)) (by decide) ?_
      rw [show F (20 * 0) 4 = Int32.ofNat (C0 0 3) from k0 3 (by decide), show F (20 * 1) 4 = Int32.ofNat (C1 0 3) from k1 3 (by decide), n_eq s0.2 s1.2]
      refine ⟨fun hne => h0 (fun hm => hne ?_), fun heq2 => h1 ⟨by rw [d0]; exact Option.some_ne_none _, by rw [d1]; exact Option.some_ne_none _, by rw [kd_eq d0, kd_eq d1]; exact heq, by rw [kd_eq d0, kd_eq d1]; exact heq2⟩⟩
      have := hm.2.2.2; rw [kd_eq d0, kd_eq d1] at this; exact this
theorem v_mustMatch {Q : xh → Prop} {QX : Nat → xh → Prop} (hR : RC F D) (hW : WD D) (b0 : ¬ mt D → 1 ≤ mc ∧ 6 ≤ ms) (h0 : ¬ mt D → QX 0 (mem e w F L g)) (h1 : mt D → Q (mem e w F L g)) : wp_Judge_mustMatch z mc ms Q QX (ad e 60) (mem e w F L g) := by
  unfold wp_Judge_mustMatch
  repeat (first | ((with_reducible show ∃ _, _ ∧ _); first | refine s_fI (by rfl) (by rfl) (by rfl) ?_ | refine s_fR (by rfl) (by rfl) (by rfl) ?_ | refine s_pV (by rfl) (by rfl) (Nat.le_of_ble_eq_true rfl) (by rfl) ?_) | ((with_reducible show xcls _ _ _ ∧ _); refine s_cls (by rfl) (by rfl) ?_))
  exact v_jmatch hR hW (fun hm => ⟨fun hh => absurd rfl hh, fun _ => ⟨by have := b0 hm; omega, by have := b0 hm; omega, h0 hm⟩⟩) (fun hm => ⟨fun _ => h1 hm, fun hh => absurd hh (by decide)⟩)
/-- the works are ready -/
theorem v_ready {Q : Nat → xh → Prop} (hZ : Zs e z F) (hR : RC F D) (hS : SC w F D) (hb : w = false → 29 ≤ mc ∧ 58894 ≤ ms)
    (h : ∀ e' F', eQ e e' → (∀ k, k < 160 → F' k = F k) → Zs e' z F' → RC F' D → SK F' D → (F' 160 7 = 0 ∨ (mt D ∧ XP F' (kd D))) → Q (ad e' 160) (mem e' true F' L g)) : wp_Judge_readyWorks z mc ms Q (ad e 60) (mem e w F L g) := by
  cases w
  · obtain ⟨b1, b2⟩ := hb rfl
    refine v_ready0 b1 b2 (fun e' F' hn ha hl hh => ?_)
    have hq : eQ e e' := ⟨hn, ha 60 rfl, ha 80 rfl, ha 81 rfl, ha 82 rfl, ha 83 rfl, ha 100 rfl⟩
    refine h e' F' hq hl ?_ (RC.kept (fun k hk => hl k (by omega)) hR) ⟨by rw [hh 160 (by decide)], Or.inl (by rw [hh 160 (by decide)]), Or.inl (by rw [hh 160 (by decide)])⟩ (Or.inl (by rw [hh 160 (by decide)]))
    unfold Zs
    rw [ha 81 rfl, ha 82 rfl, hl 81 (by decide), hl 82 (by decide)]
    exact hZ
  · rcases hS with hh | hh
    · cases hh
    · exact v_ready1 (h e F (eQ.refl e) (fun _ _ => rfl) hZ hR hh.1 hh.2)
theorem v_explored {Q : Nat → xh → Prop} (hm : mt D) (hZ : Zs e z F) (hR : RC F D) (hW : WD D) (hS : SC w F D) (hb : w = false → 29 ≤ mc ∧ 58894 ≤ ms)
    (h : ∀ e' F', eQ e e' → (∀ k, k < 160 → F' k = F k) → RC F' D → SK F' D → XP F' (kd D) → Q (ad e' 160) (mem e' true F' L g)) : wp_Judge_exploredWorks z mc ms Q (ad e 60) (mem e w F L g) := by
  unfold wp_Judge_exploredWorks
  refine ⟨mc, ms, by omega, by omega, ?_⟩
  repeat (first | ((with_reducible show ∃ _, _ ∧ _); first | refine s_fI (by rfl) (by rfl) (by rfl) ?_ | refine s_fR (by rfl) (by rfl) (by rfl) ?_ | refine s_pV (by rfl) (by rfl) (Nat.le_of_ble_eq_true rfl) (by rfl) ?_) | ((with_reducible show xcls _ _ _ ∧ _); refine s_cls (by rfl) (by rfl) ?_))
  refine v_ready hZ hR hS hb (fun e' F1 q1 k1 z1 r1 s1 x1 => ?_)
  repeat (first | ((with_reducible show ∃ _, _ ∧ _); first | refine s_fI (by rfl) (by rfl) (by rfl) ?_ | refine s_fR (by rfl) (by rfl) (by rfl) ?_ | refine s_pV (by rfl) (by rfl) (Nat.le_of_ble_eq_true rfl) (by rfl) ?_) | ((with_reducible show xcls _ _ _ ∧ _); refine s_cls (by rfl) (by rfl) ?_))
  by_cases x7 : F1 160 7 = 0
  · refine v_explore0 (hm.MK hW) hm.D r1 hW z1 x7 (fun F2 k2 j2 q2 t2 w2 l2 => ?_)
    refine h e' F2 q1 (fun k hk => by rw [k2 k (by omega), k1 k hk]) (RC.kept (fun k hk => k2 k (by omega)) r1) ⟨by rw [j2 10 (by decide)]; exact s1.1, ?_, ?_⟩ ⟨q2, t2, w2, 0, LY.of0 l2⟩
    · rw [j2 8 (by decide)]
      rcases s1.2.1 with hh | hh
      · exact Or.inl hh
      · exact Or.inr ⟨hh.1, hh.2.1, LK.kept (fun k a1 a2 => k2 k (by omega)) hh.2.2⟩
    · rw [j2 9 (by decide), k2 190 (by omega)]
      exact s1.2.2
  · rcases x1 with hh | hh
    · exact absurd hh x7
    · unfold wp_Works_explore
      repeat (first | ((with_reducible show ∃ _, _ ∧ _); first | refine s_fI (by rfl) (by rfl) (by rfl) ?_ | refine s_fR (by rfl) (by rfl) (by rfl) ?_ | refine s_pV (by rfl) (by rfl) (Nat.le_of_ble_eq_true rfl) (by rfl) ?_) | ((with_reducible show xcls _ _ _ ∧ _); refine s_cls (by rfl) (by rfl) ?_))
      exact ⟨fun _ => h e' F1 q1 k1 r1 s1 hh.2, fun h0 => absurd h0 x7⟩
theorem SC.of (hm : mt D) (hs : SK F D) (hx : XP F (kd D)) : SC true F D := Or.inr ⟨hs, Or.inr ⟨hm, hx⟩⟩
theorem XP.CF (hm : mt D) (hW : WD D) (hx : XP F (kd D)) : CF F (kd D) := CF_of (hm.MK hW) hx.2.2.1
/-- how a question ends -/
def eC (e : xenv) (F : Nat → Nat → Int32) (D : Nat → Option (Nat → Nat → Nat)) (e' : xenv) (F' : Nat → Nat → Int32) : Prop := eQ e e' ∧ (∀ k, k < 160 → F' k = F k) ∧ SC true F' D
theorem v_Judge_judge {Q : Int32 → xh → Prop} {QX : Nat → xh → Prop} (hZ : Zs e z F) (hR : RC F D) (hW : WD D) (hS : SC w F D) (b0 : ¬ mt D → 1 ≤ mc ∧ 6 ≤ ms) (b1 : mt D → w = false → 29 ≤ mc ∧ 58894 ≤ ms)
    (h0 : ¬ mt D → QX 0 (mem e w F L g)) (h1 : mt D → ∀ e' F', eC e F D e' F' → Q (Int32.ofNat (len (kd D))) (mem e' true F' L g)) : wp_Judge_judge z mc ms Q QX (ad e 60) (mem e w F L g) := by
  unfold wp_Judge_judge
  by_cases hm : mt D
  · refine ⟨0, 0, by omega, by omega, ?_⟩
    repeat (first | ((with_reducible show ∃ _, _ ∧ _); first | refine s_fI (by rfl) (by rfl) (by rfl) ?_ | refine s_fR (by rfl) (by rfl) (by rfl) ?_ | refine s_pV (by rfl) (by rfl) (Nat.le_of_ble_eq_true rfl) (by rfl) ?_) | ((with_reducible show xcls _ _ _ ∧ _); refine s_cls (by rfl) (by rfl) ?_))
    refine v_mustMatch hR hW (fun hh => absurd hm hh) h0 (fun _ => ⟨mc, ms, by omega, by omega, ?_⟩)
    repeat (first | ((with_reducible show ∃ _, _ ∧ _); first | refine s_fI (by rfl) (by rfl) (by rfl) ?_ | refine s_fR (by rfl) (by rfl) (by rfl) ?_ | refine s_pV (by rfl) (by rfl) (Nat.le_of_ble_eq_true rfl) (by rfl) ?_) | ((with_reducible show xcls _ _ _ ∧ _); refine s_cls (by rfl) (by rfl) ?_))
    refine v_explored hm hZ hR hW hS (b1 hm) (fun e' F' q k r s x => ?_)
    repeat (first | ((with_reducible show ∃ _, _ ∧ _); first | refine s_fI (by rfl) (by rfl) (by rfl) ?_ | refine s_fR (by rfl) (by rfl) (by rfl) ?_ | refine s_pV (by rfl) (by rfl) (Nat.le_of_ble_eq_true rfl) (by rfl) ?_) | ((with_reducible show xcls _ _ _ ∧ _); refine s_cls (by rfl) (by rfl) ?_))
    rw [(x.CF hm hW).2.2.2.2.1]
    exact h1 hm e' F' ⟨q, k, SC.of hm s x⟩
  · refine ⟨mc, ms, by omega, by omega, ?_⟩
    repeat (first | ((with_reducible show ∃ _, _ ∧ _); first | refine s_fI (by rfl) (by rfl) (by rfl) ?_ | refine s_fR (by rfl) (by rfl) (by rfl) ?_ | refine s_pV (by rfl) (by rfl) (Nat.le_of_ble_eq_true rfl) (by rfl) ?_) | ((with_reducible show xcls _ _ _ ∧ _); refine s_cls (by rfl) (by rfl) ?_))
    exact v_mustMatch hR hW b0 h0 (fun hh => absurd hh hm)
theorem v_Judge_gates {Q : Int32 → xh → Prop} {QX : Nat → xh → Prop} (hZ : Zs e z F) (hR : RC F D) (hW : WD D) (hS : SC w F D) (b0 : ¬ mt D → 1 ≤ mc ∧ 6 ≤ ms) (b1 : mt D → w = false → 29 ≤ mc ∧ 58894 ≤ ms)
    (h0 : ¬ mt D → QX 0 (mem e w F L g)) (h1 : mt D → ∀ e' F', eC e F D e' F' → Q (Int32.ofNat (gN (kd D))) (mem e' true F' L g)) : wp_Judge_gates z mc ms Q QX (ad e 60) (mem e w F L g) := by
  unfold wp_Judge_gates
  by_cases hm : mt D
  · refine ⟨0, 0, by omega, by omega, ?_⟩
    repeat (first | ((with_reducible show ∃ _, _ ∧ _); first | refine s_fI (by rfl) (by rfl) (by rfl) ?_ | refine s_fR (by rfl) (by rfl) (by rfl) ?_ | refine s_pV (by rfl) (by rfl) (Nat.le_of_ble_eq_true rfl) (by rfl) ?_) | ((with_reducible show xcls _ _ _ ∧ _); refine s_cls (by rfl) (by rfl) ?_))
    refine v_mustMatch hR hW (fun hh => absurd hm hh) h0 (fun _ => ⟨mc, ms, by omega, by omega, ?_⟩)
    repeat (first | ((with_reducible show ∃ _, _ ∧ _); first | refine s_fI (by rfl) (by rfl) (by rfl) ?_ | refine s_fR (by rfl) (by rfl) (by rfl) ?_ | refine s_pV (by rfl) (by rfl) (Nat.le_of_ble_eq_true rfl) (by rfl) ?_) | ((with_reducible show xcls _ _ _ ∧ _); refine s_cls (by rfl) (by rfl) ?_))
    refine v_ready hZ hR hS (b1 hm) (fun e' F1 q1 k1 z1 r1 s1 x1 => ?_)
    repeat (first | ((with_reducible show ∃ _, _ ∧ _); first | refine s_fI (by rfl) (by rfl) (by rfl) ?_ | refine s_fR (by rfl) (by rfl) (by rfl) ?_ | refine s_pV (by rfl) (by rfl) (Nat.le_of_ble_eq_true rfl) (by rfl) ?_) | ((with_reducible show xcls _ _ _ ∧ _); refine s_cls (by rfl) (by rfl) ?_))
    refine v_countGates (hm.MK hW) (hm.KC r1) (by rcases s1.2.2 with hh | hh; exact Or.inl hh; exact Or.inr ⟨hh.1, hh.2.2⟩) (fun F2 k2 j2 q9 q3 => ?_)
    refine h1 hm e' F2 ⟨q1, fun k hk => by rw [k2 k (by omega), k1 k hk], Or.inr ⟨⟨by rw [j2 10 (by decide)]; exact s1.1, ?_, Or.inr ⟨q9, hm, q3⟩⟩, ?_⟩⟩
    · rw [j2 8 (by decide)]
      rcases s1.2.1 with hh | hh
      · exact Or.inl hh
      · exact Or.inr ⟨hh.1, hh.2.1, LK.kept (fun k a1 a2 => k2 k (by omega)) hh.2.2⟩
    · rw [j2 7 (by decide)]
      rcases x1 with hh | ⟨_, y7, yt, yw, kn, yl⟩
      · exact Or.inl hh
      · exact Or.inr ⟨hm, by rw [j2 7 (by decide)]; exact y7, TB.kept (fun k a1 a2 => k2 k (by omega)) yt, WK.kept (fun k a1 a2 => k2 k (by omega)) yw, kn, LY.kept (fun k a1 a2 => k2 k (by omega)) yl⟩
  · refine ⟨mc, ms, by omega, by omega, ?_⟩
    repeat (first | ((with_reducible show ∃ _, _ ∧ _); first | refine s_fI (by rfl) (by rfl) (by rfl) ?_ | refine s_fR (by rfl) (by rfl) (by rfl) ?_ | refine s_pV (by rfl) (by rfl) (Nat.le_of_ble_eq_true rfl) (by rfl) ?_) | ((with_reducible show xcls _ _ _ ∧ _); refine s_cls (by rfl) (by rfl) ?_))
    exact v_mustMatch hR hW b0 h0 (fun hh => absurd hh hm)
theorem v_Judge_witness {Q : Int32 → xh → Prop} {x : Int32} (hZ : Zs e z F) (hR : RC F D) (hW : WD D) (hS : SC w F D) (b1 : ∀ k, x = Int32.ofNat k → k < 256 → mt D → w = false → 29 ≤ mc ∧ 58894 ≤ ms)
    (h0 : (∀ k, x = Int32.ofNat k → k < 256 → ¬ mt D) → Q (-1) (mem e w F L g))
    (h2 : ∀ k, mt D → x = Int32.ofNat k → k < 256 → ¬ k < len (kd D) → ∀ e' F', eC e F D e' F' → Q (-1) (mem e' true F' L g))
    (h1 : ∀ k, mt D → x = Int32.ofNat k → k < 256 → k < len (kd D) → ∀ e' F', eC e F D e' F' → Q (Int32.ofNat (wit (kd D) k)) (mem e' true F' L g)) : wp_Judge_witness z mc ms Q (ad e 60) x (mem e w F L g) := by
  unfold wp_Judge_witness
  refine ⟨fun hx => h0 (fun k hk _ => absurd (hk ▸ hx) (n_pos k (by omega))), fun hx => ?_⟩
  obtain ⟨k, hk, rfl⟩ := nat_of hx
  refine ⟨fun hc => ?_, fun hc => ?_⟩ <;> rw [n_lit, n_le (by decide) hk] at hc
  · exact h0 (fun k' h1 h2 => absurd (n_inj (by omega) (by omega) h1) (by omega))
  repeat (first | ((with_reducible show ∃ _, _ ∧ _); first | refine s_fI (by rfl) (by rfl) (by rfl) ?_ | refine s_fR (by rfl) (by rfl) (by rfl) ?_ | refine s_pV (by rfl) (by rfl) (Nat.le_of_ble_eq_true rfl) (by rfl) ?_) | ((with_reducible show xcls _ _ _ ∧ _); refine s_cls (by rfl) (by rfl) ?_))
  refine v_jmatch hR hW (fun hm => ⟨fun hh => absurd rfl hh, fun _ => h0 (fun _ _ _ => hm)⟩) (fun hm => ⟨fun _ => ⟨mc, ms, by omega, by omega, ?_⟩, fun hh => absurd hh (by decide)⟩)
  repeat (first | ((with_reducible show ∃ _, _ ∧ _); first | refine s_fI (by rfl) (by rfl) (by rfl) ?_ | refine s_fR (by rfl) (by rfl) (by rfl) ?_ | refine s_pV (by rfl) (by rfl) (Nat.le_of_ble_eq_true rfl) (by rfl) ?_) | ((with_reducible show xcls _ _ _ ∧ _); refine s_cls (by rfl) (by rfl) ?_))
  refine v_explored hm hZ hR hW hS (b1 k rfl (by omega) hm) (fun e' F' q k' r s y => ?_)
  have hC := y.CF hm hW
  have hle := hC.1.2.2.2.1
  repeat (first | ((with_reducible show ∃ _, _ ∧ _); first | refine s_fI (by rfl) (by rfl) (by rfl) ?_ | refine s_fR (by rfl) (by rfl) (by rfl) ?_ | refine s_pV (by rfl) (by rfl) (Nat.le_of_ble_eq_true rfl) (by rfl) ?_) | ((with_reducible show xcls _ _ _ ∧ _); refine s_cls (by rfl) (by rfl) ?_))
  rw [hC.2.2.2.2.1]
  refine ⟨fun hc1 => ?_, fun hc1 => ?_⟩ <;> rw [n_le (by omega) hk] at hc1
  · exact h2 k hm rfl (by omega) (by omega) e' F' ⟨q, k', SC.of hm s y⟩
  · repeat (first | ((with_reducible show ∃ _, _ ∧ _); first | refine s_fI (by rfl) (by rfl) (by rfl) ?_ | refine s_fR (by rfl) (by rfl) (by rfl) ?_ | refine s_pV (by rfl) (by rfl) (Nat.le_of_ble_eq_true rfl) (by rfl) ?_) | ((with_reducible show xcls _ _ _ ∧ _); refine s_cls (by rfl) (by rfl) ?_))
    refine s_aI (i := k) (by rfl) (by rfl) (by rfl) (by rfl) (by omega) (by decide) ?_
    rw [hC.2.2.2.2.2.2 k (by omega)]
    exact h1 k hm rfl (by omega) (by omega) e' F' ⟨q, k', SC.of hm s y⟩
theorem v_Judge_blame {Q : Int32 → xh → Prop} (hZ : Zs e z F) (hR : RC F D) (hW : WD D) (hS : SC w F D) (b1 : mt D → w = false → 29 ≤ mc ∧ 58894 ≤ ms)
    (h0 : ¬ mt D → Q (-1) (mem e w F L g))
    (h1 : mt D → ∀ e' F', eC e F D e' F' → Q (if len (kd D) ≠ 0 ∧ len (kd D) ≤ 256 then Int32.ofNat (blm (kd D)) else -1) (mem e' true F' L g)) : wp_Judge_blame z mc ms Q (ad e 60) (mem e w F L g) := by
  unfold wp_Judge_blame
  repeat (first | ((with_reducible show ∃ _, _ ∧ _); first | refine s_fI (by rfl) (by rfl) (by rfl) ?_ | refine s_fR (by rfl) (by rfl) (by rfl) ?_ | refine s_pV (by rfl) (by rfl) (Nat.le_of_ble_eq_true rfl) (by rfl) ?_) | ((with_reducible show xcls _ _ _ ∧ _); refine s_cls (by rfl) (by rfl) ?_))
  refine v_jmatch hR hW (fun hm => ⟨fun hh => absurd rfl hh, fun _ => h0 hm⟩) (fun hm => ⟨fun _ => ⟨mc, ms, by omega, by omega, ?_⟩, fun hh => absurd hh (by decide)⟩)
  repeat (first | ((with_reducible show ∃ _, _ ∧ _); first | refine s_fI (by rfl) (by rfl) (by rfl) ?_ | refine s_fR (by rfl) (by rfl) (by rfl) ?_ | refine s_pV (by rfl) (by rfl) (Nat.le_of_ble_eq_true rfl) (by rfl) ?_) | ((with_reducible show xcls _ _ _ ∧ _); refine s_cls (by rfl) (by rfl) ?_))
  refine v_explored hm hZ hR hW hS (b1 hm) (fun e' F' q k' r s y => ?_)
  have hC := y.CF hm hW
  have hle := hC.1.2.2.2.1
  repeat (first | ((with_reducible show ∃ _, _ ∧ _); first | refine s_fI (by rfl) (by rfl) (by rfl) ?_ | refine s_fR (by rfl) (by rfl) (by rfl) ?_ | refine s_pV (by rfl) (by rfl) (Nat.le_of_ble_eq_true rfl) (by rfl) ?_) | ((with_reducible show xcls _ _ _ ∧ _); refine s_cls (by rfl) (by rfl) ?_))
  rw [hC.2.2.2.2.1]
  have hq := h1 hm e' F' ⟨q, k', SC.of hm s y⟩
  refine ⟨fun hc1 => ?_, fun hc1 => ?_⟩ <;> rw [n_lit, n_lt (by decide) (by omega)] at hc1
  · rw [if_neg (fun hh => by have := hh.2; omega)] at hq; exact hq
  · repeat (first | ((with_reducible show ∃ _, _ ∧ _); first | refine s_fI (by rfl) (by rfl) (by rfl) ?_ | refine s_fR (by rfl) (by rfl) (by rfl) ?_ | refine s_pV (by rfl) (by rfl) (Nat.le_of_ble_eq_true rfl) (by rfl) ?_) | ((with_reducible show xcls _ _ _ ∧ _); refine s_cls (by rfl) (by rfl) ?_))
    rw [hC.2.2.2.2.2.1]
    by_cases hz0 : len (kd D) = 0
    · rw [if_neg (fun hh => hh.1 hz0)] at hq
      rw [if_pos hz0]; exact hq
    · rw [if_pos ⟨hz0, by omega⟩] at hq
      rw [if_neg hz0]; exact hq
/-- must, when it holds, and when it doesn't -/
theorem v_must1 {Q : xh → Prop} {QX : Nat → xh → Prop} {hp : xh} (h : Q hp) : wp_Judge_must z mc ms Q QX 1 hp := by
  unfold wp_Judge_must
  exact ⟨fun _ => h, fun hh => absurd hh (by decide)⟩
theorem v_must0 {Q : xh → Prop} {QX : Nat → xh → Prop} {hp : xh} (b : 1 ≤ mc ∧ 6 ≤ ms) (h : QX 1 hp) : wp_Judge_must z mc ms Q QX 0 hp := by
  unfold wp_Judge_must
  exact ⟨fun hh => absurd rfl hh, fun _ => ⟨by omega, by omega, h⟩⟩
theorem v_Judge_differs {Q : Int32 → xh → Prop} {QX : Nat → xh → Prop} {x : Int32} (hZ : Zs e z F) (hR : RC F D) (hW : WD D) (hS : SC w F D) (b0 : ¬ (mt D ∧ ¬ x < 1 ∧ ¬ 16 < x) → 1 ≤ mc ∧ 6 ≤ ms) (b1 : mt D → ¬ x < 1 → ¬ 16 < x → w = false → 29 ≤ mc ∧ 58894 ≤ ms)
    (h0 : ¬ mt D → QX 0 (mem e w F L g)) (h2 : mt D → (x < 1 ∨ 16 < x) → QX 1 (mem e w F L g))
    (h1 : mt D → ¬ x < 1 → ¬ 16 < x → ∀ e' F', eC e F D e' F' → Q (if x < Int32.ofNat (len (kd D)) then 0 else Int32.ofNat (len (kd D))) (mem e' true F' L g)) : wp_Judge_differs z mc ms Q QX (ad e 60) x (mem e w F L g) := by
  unfold wp_Judge_differs
  by_cases hm : mt D
  · refine ⟨0, 0, by omega, by omega, ?_⟩
    repeat (first | ((with_reducible show ∃ _, _ ∧ _); first | refine s_fI (by rfl) (by rfl) (by rfl) ?_ | refine s_fR (by rfl) (by rfl) (by rfl) ?_ | refine s_pV (by rfl) (by rfl) (Nat.le_of_ble_eq_true rfl) (by rfl) ?_) | ((with_reducible show xcls _ _ _ ∧ _); refine s_cls (by rfl) (by rfl) ?_))
    refine v_mustMatch hR hW (fun hh => absurd hm hh) h0 (fun _ => ?_)
    have bad : (x < 1 ∨ 16 < x) → wp_Judge_differs_19 z mc ms Q QX (ad e 60) x (mem e w F L g) (0 + 0) (0 + 0) := by
      intro hx
      have hb := b0 (fun hh => hx.elim hh.2.1 hh.2.2)
      unfold wp_Judge_differs_19 wp_Judge_differs_20
      exact ⟨mc, ms, by omega, by omega, v_must0 hb (h2 hm hx)⟩
    refine ⟨fun hx => bad (Or.inl hx), fun hx => ⟨fun hx2 => bad (Or.inr hx2), fun hx2 => ?_⟩⟩
    unfold wp_Judge_differs_20
    refine ⟨0, 0, by omega, by omega, v_must1 ⟨mc, ms, by omega, by omega, ?_⟩⟩
    repeat (first | ((with_reducible show ∃ _, _ ∧ _); first | refine s_fI (by rfl) (by rfl) (by rfl) ?_ | refine s_fR (by rfl) (by rfl) (by rfl) ?_ | refine s_pV (by rfl) (by rfl) (Nat.le_of_ble_eq_true rfl) (by rfl) ?_) | ((with_reducible show xcls _ _ _ ∧ _); refine s_cls (by rfl) (by rfl) ?_))
    refine v_explored hm hZ hR hW hS (b1 hm hx hx2) (fun e' F' q k r s y => ?_)
    repeat (first | ((with_reducible show ∃ _, _ ∧ _); first | refine s_fI (by rfl) (by rfl) (by rfl) ?_ | refine s_fR (by rfl) (by rfl) (by rfl) ?_ | refine s_pV (by rfl) (by rfl) (Nat.le_of_ble_eq_true rfl) (by rfl) ?_) | ((with_reducible show xcls _ _ _ ∧ _); refine s_cls (by rfl) (by rfl) ?_))
    rw [(y.CF hm hW).2.2.2.2.1]
    have hq := h1 hm hx hx2 e' F' ⟨q, k, SC.of hm s y⟩
    refine ⟨fun hc1 => ?_, fun hc1 => ?_⟩
    · rw [if_pos hc1] at hq; exact hq
    · rw [if_neg hc1] at hq; exact hq
  · refine ⟨mc, ms, by omega, by omega, ?_⟩
    repeat (first | ((with_reducible show ∃ _, _ ∧ _); first | refine s_fI (by rfl) (by rfl) (by rfl) ?_ | refine s_fR (by rfl) (by rfl) (by rfl) ?_ | refine s_pV (by rfl) (by rfl) (Nat.le_of_ble_eq_true rfl) (by rfl) ?_) | ((with_reducible show xcls _ _ _ ∧ _); refine s_cls (by rfl) (by rfl) ?_))
    exact v_mustMatch hR hW (fun hh => b0 (fun h3 => hh h3.1)) h0 (fun hh => absurd hh hm)
theorem v_Judge_inductive {Q : Int32 → xh → Prop} {QX : Nat → xh → Prop} {x : Int32} (hZ : Zs e z F) (hR : RC F D) (hW : WD D) (hS : SC w F D) (b0 : ¬ (mt D ∧ ∃ k, x = Int32.ofNat k ∧ k ≤ 8) → 1 ≤ mc ∧ 6 ≤ ms) (b1 : mt D → (∃ k, x = Int32.ofNat k ∧ k ≤ 8) → w = false → 29 ≤ mc ∧ 58894 ≤ ms)
    (h0 : ¬ mt D → QX 0 (mem e w F L g)) (h2 : mt D → ¬ (∃ k, x = Int32.ofNat k ∧ k ≤ 8) → QX 1 (mem e w F L g))
    (h1 : ∀ k, mt D → x = Int32.ofNat k → k ≤ 8 → ∀ e' F' y, eC e F D e' F' → (indK (kd D) k → y = 1) → (¬ indK (kd D) k → y = 0) → Q y (mem e' true F' L g)) : wp_Judge_inductive z mc ms Q QX (ad e 60) x (mem e w F L g) := by
  unfold wp_Judge_inductive
  by_cases hm : mt D
  · refine ⟨0, 0, by omega, by omega, ?_⟩
    repeat (first | ((with_reducible show ∃ _, _ ∧ _); first | refine s_fI (by rfl) (by rfl) (by rfl) ?_ | refine s_fR (by rfl) (by rfl) (by rfl) ?_ | refine s_pV (by rfl) (by rfl) (Nat.le_of_ble_eq_true rfl) (by rfl) ?_) | ((with_reducible show xcls _ _ _ ∧ _); refine s_cls (by rfl) (by rfl) ?_))
    refine v_mustMatch hR hW (fun hh => absurd hm hh) h0 (fun _ => ?_)
    have bad : ¬ (∃ k, x = Int32.ofNat k ∧ k ≤ 8) → wp_Judge_inductive_18 z mc ms Q QX (ad e 60) x (mem e w F L g) (0 + 0) (0 + 0) := by
      intro hx
      have hb := b0 (fun hh => hx hh.2)
      unfold wp_Judge_inductive_18 wp_Judge_inductive_19
      exact ⟨mc, ms, by omega, by omega, v_must0 hb (h2 hm hx)⟩
    refine ⟨fun hx => bad (fun ⟨k, hk, _⟩ => absurd (hk ▸ hx) (n_pos k (by omega))), fun hx => ?_⟩
    obtain ⟨k, hk, rfl⟩ := nat_of hx
    refine ⟨fun hc => ?_, fun hc => ?_⟩ <;> rw [n_lit, n_lt (by decide) hk] at hc
    · exact bad (fun ⟨k', h1, h2⟩ => absurd (n_inj (by omega) (by omega) h1) (by omega))
    unfold wp_Judge_inductive_19
    refine ⟨0, 0, by omega, by omega, v_must1 ⟨mc, ms, by omega, by omega, ?_⟩⟩
    repeat (first | ((with_reducible show ∃ _, _ ∧ _); first | refine s_fI (by rfl) (by rfl) (by rfl) ?_ | refine s_fR (by rfl) (by rfl) (by rfl) ?_ | refine s_pV (by rfl) (by rfl) (Nat.le_of_ble_eq_true rfl) (by rfl) ?_) | ((with_reducible show xcls _ _ _ ∧ _); refine s_cls (by rfl) (by rfl) ?_))
    refine v_explored hm hZ hR hW hS (b1 hm ⟨k, rfl, by omega⟩) (fun e' F1 q1 k1 r1 s1 x1 => ?_)
    obtain ⟨y7, yt, yw, kn, yl⟩ := x1
    repeat (first | ((with_reducible show ∃ _, _ ∧ _); first | refine s_fI (by rfl) (by rfl) (by rfl) ?_ | refine s_fR (by rfl) (by rfl) (by rfl) ?_ | refine s_pV (by rfl) (by rfl) (Nat.le_of_ble_eq_true rfl) (by rfl) ?_) | ((with_reducible show xcls _ _ _ ∧ _); refine s_cls (by rfl) (by rfl) ?_))
    refine v_holds (hm.MK hW) yt yw yl (by omega) (fun F2 kn2 y k2 l2 ya yb => ?_)
    refine h1 k hm rfl (by omega) e' F2 y ⟨q1, fun k hk => by rw [k2 k (by omega), k1 k hk], SC.of hm ⟨by rw [k2 160 (by omega)]; exact s1.1, ?_, ?_⟩ ⟨by rw [k2 160 (by omega)]; exact y7, TB.kept (fun k a1 a2 => k2 k (by omega)) yt, WK.kept (fun k a1 a2 => k2 k (by omega)) yw, kn2, l2⟩⟩ ya yb
    · rw [k2 160 (by omega)]
      rcases s1.2.1 with hh | hh
      · exact Or.inl hh
      · exact Or.inr ⟨hh.1, hh.2.1, LK.kept (fun k a1 a2 => k2 k (by omega)) hh.2.2⟩
    · rw [k2 160 (by omega), k2 190 (by omega)]
      exact s1.2.2
  · refine ⟨mc, ms, by omega, by omega, ?_⟩
    repeat (first | ((with_reducible show ∃ _, _ ∧ _); first | refine s_fI (by rfl) (by rfl) (by rfl) ?_ | refine s_fR (by rfl) (by rfl) (by rfl) ?_ | refine s_pV (by rfl) (by rfl) (Nat.le_of_ble_eq_true rfl) (by rfl) ?_) | ((with_reducible show xcls _ _ _ ∧ _); refine s_cls (by rfl) (by rfl) ?_))
    exact v_mustMatch hR hW (fun hh => b0 (fun h3 => hh h3.1)) h0 (fun hh => absurd hh hm)
theorem v_Judge_pairs {Q : Int32 → xh → Prop} {QX : Nat → xh → Prop} {x : Int32} (hZ : Zs e z F) (hR : RC F D) (hW : WD D) (hS : SC w F D) (b0 : ¬ (mt D ∧ (x = 0 ∨ x = 1)) → 1 ≤ mc ∧ 6 ≤ ms) (b1 : mt D → (x = 0 ∨ x = 1) → w = false → 29 ≤ mc ∧ 58894 ≤ ms)
    (h0 : ¬ mt D → QX 0 (mem e w F L g)) (h2 : mt D → ¬ (x = 0 ∨ x = 1) → QX 1 (mem e w F L g))
    (h1 : mt D → (x = 0 ∨ x = 1) → ∀ e' F', eC e F D e' F' → Q (if x = 0 then Int32.ofNat (pz (kd D)) else Int32.ofNat (pd (kd D) (pq (kd D) (pz (kd D) - 1)) - 1)) (mem e' true F' L g)) : wp_Judge_pairs z mc ms Q QX (ad e 60) x (mem e w F L g) := by
  unfold wp_Judge_pairs
  by_cases hm : mt D
  · refine ⟨0, 0, by omega, by omega, ?_⟩
    repeat (first | ((with_reducible show ∃ _, _ ∧ _); first | refine s_fI (by rfl) (by rfl) (by rfl) ?_ | refine s_fR (by rfl) (by rfl) (by rfl) ?_ | refine s_pV (by rfl) (by rfl) (Nat.le_of_ble_eq_true rfl) (by rfl) ?_) | ((with_reducible show xcls _ _ _ ∧ _); refine s_cls (by rfl) (by rfl) ?_))
    refine v_mustMatch hR hW (fun hh => absurd hm hh) h0 (fun _ => ?_)
    have good : (x = 0 ∨ x = 1) → wp_Judge_pairs_13 z mc ms Q QX (ad e 60) x (mem e w F L g) (0 + 0) (0 + 0) := by
      intro hx
      unfold wp_Judge_pairs_13 wp_Judge_pairs_18
      refine ⟨0, 0, by omega, by omega, v_must1 ⟨mc, ms, by omega, by omega, ?_⟩⟩
      repeat (first | ((with_reducible show ∃ _, _ ∧ _); first | refine s_fI (by rfl) (by rfl) (by rfl) ?_ | refine s_fR (by rfl) (by rfl) (by rfl) ?_ | refine s_pV (by rfl) (by rfl) (Nat.le_of_ble_eq_true rfl) (by rfl) ?_) | ((with_reducible show xcls _ _ _ ∧ _); refine s_cls (by rfl) (by rfl) ?_))
      refine v_explored hm hZ hR hW hS (b1 hm hx) (fun e' F' q k r s y => ?_)
      have hC := y.CF hm hW
      have hq := h1 hm hx e' F' ⟨q, k, SC.of hm s y⟩
      obtain ⟨⟨p1, p2, p3⟩, p4, p5, _⟩ := hC.1
      repeat (first | ((with_reducible show ∃ _, _ ∧ _); first | refine s_fI (by rfl) (by rfl) (by rfl) ?_ | refine s_fR (by rfl) (by rfl) (by rfl) ?_ | refine s_pV (by rfl) (by rfl) (Nat.le_of_ble_eq_true rfl) (by rfl) ?_) | ((with_reducible show xcls _ _ _ ∧ _); refine s_cls (by rfl) (by rfl) ?_))
      refine ⟨fun hc1 => ?_, fun hc1 => ?_⟩
      · rw [if_neg hc1] at hq
        repeat (first | ((with_reducible show ∃ _, _ ∧ _); first | refine s_fI (by rfl) (by rfl) (by rfl) ?_ | refine s_fR (by rfl) (by rfl) (by rfl) ?_ | refine s_pV (by rfl) (by rfl) (Nat.le_of_ble_eq_true rfl) (by rfl) ?_) | ((with_reducible show xcls _ _ _ ∧ _); refine s_cls (by rfl) (by rfl) ?_))
        unfold wp_Walk_greatestDepth
        repeat (first | ((with_reducible show ∃ _, _ ∧ _); first | refine s_fI (by rfl) (by rfl) (by rfl) ?_ | refine s_fR (by rfl) (by rfl) (by rfl) ?_ | refine s_pV (by rfl) (by rfl) (Nat.le_of_ble_eq_true rfl) (by rfl) ?_) | ((with_reducible show xcls _ _ _ ∧ _); refine s_cls (by rfl) (by rfl) ?_))
        rw [hC.2.1]
        refine s_aI (i := pz (kd D) - 1) (by rfl) (by rfl) (by rfl) (by rw [show (1 : Int32) = Int32.ofNat 1 from rfl, n_sub p1]) (by omega) (by decide) ?_
        rw [hC.2.2.1 _ (by omega)]
        obtain ⟨a1, a2⟩ := p4 (pz (kd D) - 1) (by omega)
        have hlt := a1.lt (hm.MK hW)
        refine s_aI (i := pq (kd D) (pz (kd D) - 1)) (by rfl) (by rfl) (by rfl) (by rfl) (by exact hlt) (by decide) ?_
        rw [hC.2.2.2.1 _ hlt, if_neg a2]
        exact hq
      · rw [if_pos hc1] at hq
        repeat (first | ((with_reducible show ∃ _, _ ∧ _); first | refine s_fI (by rfl) (by rfl) (by rfl) ?_ | refine s_fR (by rfl) (by rfl) (by rfl) ?_ | refine s_pV (by rfl) (by rfl) (Nat.le_of_ble_eq_true rfl) (by rfl) ?_) | ((with_reducible show xcls _ _ _ ∧ _); refine s_cls (by rfl) (by rfl) ?_))
        rw [hC.2.1]
        exact hq
    refine ⟨fun hx => good (Or.inl hx), fun hx => ⟨fun hx2 => ?_, fun hx2 => good (Or.inr hx2)⟩⟩
    unfold wp_Judge_pairs_18
    exact ⟨mc, ms, by omega, by omega, v_must0 (b0 (fun hh => hh.2.elim hx hx2)) (h2 hm (fun hh => hh.elim hx hx2))⟩
  · refine ⟨mc, ms, by omega, by omega, ?_⟩
    repeat (first | ((with_reducible show ∃ _, _ ∧ _); first | refine s_fI (by rfl) (by rfl) (by rfl) ?_ | refine s_fR (by rfl) (by rfl) (by rfl) ?_ | refine s_pV (by rfl) (by rfl) (Nat.le_of_ble_eq_true rfl) (by rfl) ?_) | ((with_reducible show xcls _ _ _ ∧ _); refine s_cls (by rfl) (by rfl) ?_))
    exact v_mustMatch hR hW (fun hh => b0 (fun h3 => hh h3.1)) h0 (fun hh => absurd hh hm)
end
