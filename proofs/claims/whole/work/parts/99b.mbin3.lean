/-! The reference reads a binary file, to its end. -/
section
variable {e : xenv} {w : Bool} {L : Nat → Nat → Int64} {g : xh} {z : Nat → Nat} {b : Nat → Nat} {n : Nat} {F0 F F' : Nat → Nat → Int32} {S S' : RW} {p q s nu : Nat} {Q : xh → Prop} {Qi : Int32 → xh → Prop} {r : RS}
theorem mk1_o {k rr : Nat} (h : rr ≠ 112) : mk1 k S rr = S rr := by funext j; unfold mk1; rw [if_neg (fun hh => h hh.1)]
theorem mk1_st {k rr i x : Nat} (h : rr ≠ 12 ∧ rr < 100) : mk1 k (st S rr i x) = st (mk1 k S) rr i x := by
  funext t j
  by_cases e0 : t = 112
  · subst e0
    rw [st_o (S := mk1 k S) (by omega) (by omega)]
    unfold mk1
    rw [st_o (by omega) (by omega)]
  · rw [mk1_o e0]
    by_cases e1 : t = rr
    · subst e1; rw [st_r, st_r, mk1_o e0]
    · by_cases e2 : t = rr + 100
      · subst e2; rw [st_m, st_m, mk1_o e0]
      · rw [st_o e1 e2, st_o e1 e2, mk1_o e0]
theorem m_binary (hT : TM F0 b n) (h : MS n F0 F S p) (hB : BI S 0) (h30 : S 30 0 ≠ 0) (h8 : ∀ v, S 8 v = 0) (h112 : ∀ j, S 112 j = 0 ∧ S 133 j = 0 ∧ S 134 j = 0) (hQ : ∀ F', MX n F0 F' (bi (i0A b S p) (fun S p _ => bi (l0A b S p) (fun S p _ => bi (o0A b S p) (fun S p _ => a0A b S p)))) → Q (mem e w F' L g)) : wp_Model_takeBinary z Q (ad e 100) (mem e w F L g) := by
  obtain ⟨f0, f1, f2, f3, f4, f5⟩ := hB.1.1
  have hM : S 0 0 = S 0 1 + S 0 2 + S 0 4 := by omega
  have hw0 : wk 0 S = S := by
    funext t j
    unfold wk
    by_cases e0 : t = 112
    · rw [if_pos e0, if_neg (Nat.not_lt_zero _), e0, (h112 j).1]
    · rw [if_neg e0]
  refine m_order (S := S) (by rw [hw0]; exact h) hB hM (fun F1 h1 => ?_)
  obtain ⟨⟨kB, _, _⟩, bB, rB⟩ := bdA_T hB h8 hM
  have e0 := rB 0 (by unfold bor; omega)
  have e30 := rB 30 (by unfold bor; omega)
  have e133 : bdA S 133 = S 133 ∧ bdA S 134 = S 134 := ⟨rB 133 (by unfold bor; omega), rB 134 (by unfold bor; omega)⟩
  have ei : i0A b S p = .ok (bdA S, p, 0) := by unfold i0A; rw [if_neg h30]
  rw [ei, bi_ok] at hQ
  have b12 := bd12 (S := S)
  have b112 := bd112 (S := S)
  generalize hX : bdA S = X at *
  -- the nexts
  have el : l0A b X p = lp (nxA b) 0 (S 0 2) X p := by
    unfold l0A
    rw [show X 0 2 = S 0 2 by rw [e0]]
    have key : ∀ m k T p, T 30 = X 30 → lp (fun k S p => if S 30 0 = 0 then laA b k S p else nxA b k S p) k m T p = lp (nxA b) k m T p := by
      intro m
      induction m with
      | zero => intro k T p _; rfl
      | succ m ih =>
        intro k T p hT30
        unfold lp
        rw [if_neg (by rw [hT30, e30]; exact h30)]
        match hr : nxA b k T p with
        | .error e => rfl
        | .ok (T', p', v') =>
          rw [bi_ok, bi_ok]
          exact ih (k + 1) T' p' (by rw [(nxA_0 hr).2]; exact hT30)
    exact key _ _ _ _ rfl
  unfold wp_Model_takeBinary_181
  refine m_lines (r := .ok (wk 0 X, p, 0)) (f := nxA b) (N := S 0 2) (G := fun k T => BI T k ∧ T 0 = S 0) (X := fun h => wp_Model_takeBinary_210 z Q (ad e 100) h) (by omega) (fun k r2 F2 cc hk1 h2 hg hx hc => ?_) (fun k T p T' q v hP hr => ⟨nxA_BI hP.1 hr, by rw [(nxA_0 hr).1]; exact hP.2⟩) h1 (fun S' p' v' hh => by obtain ⟨rfl, _⟩ := ok_inj hh; exact ⟨BI_wk bB, by rw [wk_o (by decide)]; exact e0⟩) (fun F2 h2 => ?_)
  · unfold wp_Model_takeBinary_181_b; dsimp only
    repeat (first | ((with_reducible show ∃ _, _ ∧ _); first | refine s_fI (by rfl) (by rfl) (by rfl) ?_ | refine s_fR (by rfl) (by rfl) (by rfl) ?_ | refine s_pV (by rfl) (by rfl) (Nat.le_of_ble_eq_true rfl) (by rfl) ?_) | ((with_reducible show xcls _ _ _ ∧ _); refine s_cls (by rfl) (by rfl) ?_))
    refine s_aI (i := 12) (by rfl) (by rfl) (by rfl) (by rfl) (by decide) (by decide) ?_
    rcases EM_or h2 with ⟨c, q, rfl, hE⟩ | ⟨S2, p2, v2, rfl, h2⟩
    · refine ⟨fun _ => hx (Or.inl ⟨c, q, rfl⟩), fun _ => ?_⟩
      repeat (first | ((with_reducible show ∃ _, _ ∧ _); first | refine s_fI (by rfl) (by rfl) (by rfl) ?_ | refine s_fR (by rfl) (by rfl) (by rfl) ?_ | refine s_pV (by rfl) (by rfl) (Nat.le_of_ble_eq_true rfl) (by rfl) ?_) | ((with_reducible show xcls _ _ _ ∧ _); refine s_cls (by rfl) (by rfl) ?_))
      exact ⟨fun _ => hx (Or.inl ⟨c, q, rfl⟩), fun hh => absurd hh hE.ne.2⟩
    obtain ⟨hB2, hz2⟩ := hg _ _ _ rfl
    rw [show F2 110 12 = Int32.ofNat (S2 0 2) from h2.size hB2.1 (by decide : 2 < 5), hz2]
    refine ⟨fun hh => hx (Or.inr ?_), fun hh => ?_⟩
    · rw [n_le (by omega) (by omega)] at hh; omega
    rw [n_le (by omega) (by omega)] at hh
    repeat (first | ((with_reducible show ∃ _, _ ∧ _); first | refine s_fI (by rfl) (by rfl) (by rfl) ?_ | refine s_fR (by rfl) (by rfl) (by rfl) ?_ | refine s_pV (by rfl) (by rfl) (Nat.le_of_ble_eq_true rfl) (by rfl) ?_) | ((with_reducible show xcls _ _ _ ∧ _); refine s_cls (by rfl) (by rfl) ?_))
    rw [h2.2.2.2.1.1]
    refine ⟨fun hh => absurd rfl hh, fun _ => ?_⟩
    repeat (first | ((with_reducible show ∃ _, _ ∧ _); first | refine s_fI (by rfl) (by rfl) (by rfl) ?_ | refine s_fR (by rfl) (by rfl) (by rfl) ?_ | refine s_pV (by rfl) (by rfl) (Nat.le_of_ble_eq_true rfl) (by rfl) ?_) | ((with_reducible show xcls _ _ _ ∧ _); refine s_cls (by rfl) (by rfl) ?_))
    rw [n_inc]
    exact m_next hT h2 hB2.1 (by omega) (fun F3 h3 => hc S2 p2 v2 (by omega) rfl F3 h3)
  rw [bi_ok, lp_wk (fun k S p => nxA_wk), ← el] at h2
  have g2 : ∀ S2 p2 v2, l0A b X p = .ok (S2, p2, v2) → BI S2 (S 0 2) ∧ S2 0 = S 0 ∧ S2 30 = S 30 ∧ (S2 12 = X 12 ∧ S2 112 = X 112 ∧ S2 133 = X 133 ∧ S2 134 = X 134) := by
    intro S2 p2 v2 hr
    rw [el] at hr
    have := lp_inv (fun k T => BI T k ∧ T 0 = S 0 ∧ T 30 = S 30 ∧ (T 12 = X 12 ∧ T 112 = X 112 ∧ T 133 = X 133 ∧ T 134 = X 134)) (fun k T p T' q v hP hr => by
      have a1 := nxA_BI hP.1 hr
      have a2 := nxA_0 hr
      refine ⟨a1, by rw [a2.1]; exact hP.2.1, by rw [a2.2]; exact hP.2.2.1, ?_⟩
      obtain ⟨S1, p1, v1, h1, h2⟩ := bi_split hr
      obtain ⟨rfl, _⟩ := psA_ok h2
      obtain ⟨rfl, _⟩ := usA_ok h1
      have ee : ∀ t, t = 12 ∨ t = 112 ∨ t = 133 ∨ t = 134 → st (st (st (st (st T 19 (T 32 0) v1) 20 (T 32 0) p) 32 0 (T 32 0 + 1)) 3 k v1) 23 k p t = T t := fun t ht => by rw [st_o (by omega) (by omega), st_o (by omega) (by omega), st_o (by omega) (by omega), st_o (by omega) (by omega), st_o (by omega) (by omega)]
      rw [ee 12 (by decide), ee 112 (by decide), ee 133 (by decide), ee 134 (by decide)]
      exact hP.2.2.2) (S 0 2) 0 X p ⟨bB, e0, e30, rfl, rfl, rfl, rfl⟩ hr
    rw [Nat.zero_add] at this
    exact this
  generalize hr2 : l0A b X p = r2 at *
  show wp_Model_takeBinary_210 z Q (ad e 100) (mem e w F2 L g)
  unfold wp_Model_takeBinary_210
  repeat (first | ((with_reducible show ∃ _, _ ∧ _); first | refine s_fI (by rfl) (by rfl) (by rfl) ?_ | refine s_fR (by rfl) (by rfl) (by rfl) ?_ | refine s_pV (by rfl) (by rfl) (Nat.le_of_ble_eq_true rfl) (by rfl) ?_) | ((with_reducible show xcls _ _ _ ∧ _); refine s_cls (by rfl) (by rfl) ?_))
  refine m_outputs (l := S 0 2) hT h2 (fun S' p' v' hh => ?_) (fun F3 h3 => ?_)
  · obtain ⟨S1, p1, v1, hh1, hh2⟩ := bi_split hh
    obtain ⟨rfl, _⟩ := ok_inj hh2
    exact BI_wk (g2 _ _ _ hh1).1
  have e3 : bi (mp 0 r2) (fun S p _ => o0A b S p) = mp 0 (bi r2 (fun S p _ => o0A b S p)) := by
    unfold mp
    rw [bi_bi, bi_bi]
    match r2 with
    | .error e => rfl
    | .ok (S1, p1, v1) =>
      rw [bi_ok, bi_ok, bi_ok]
      unfold o0A
      rw [wk_o (by decide)]
      exact lp_wk (fun k S p => ouA_wk) _ _ _ _
  rw [e3] at h3
  rw [← bi_bi] at hQ
  have g3 : ∀ S3 p3 v3, bi r2 (fun S p _ => o0A b S p) = .ok (S3, p3, v3) → BI S3 (S 0 2 + S 0 3) ∧ S3 0 = S 0 ∧ S3 30 = S 30 ∧ (S3 12 = X 12 ∧ S3 112 = X 112 ∧ S3 133 = X 133 ∧ S3 134 = X 134) := by
    intro S3 p3 v3 hr
    obtain ⟨S2, p2, v2, h1, h2⟩ := bi_split hr
    obtain ⟨c1, c2, c3, c4⟩ := g2 _ _ _ h1
    unfold o0A at h2
    have := lp_inv (fun k T => BI T (S 0 2 + k) ∧ T 0 = S 0 ∧ T 30 = S 30 ∧ (T 12 = X 12 ∧ T 112 = X 112 ∧ T 133 = X 133 ∧ T 134 = X 134)) (fun k T p T' q v hP hr => by
      have a1 := ouA_BI hP.1 hr
      obtain ⟨S1, p1, v1, h1, h2⟩ := bi_split hr
      obtain ⟨rfl, _⟩ := psA_ok h2
      obtain ⟨rfl, _⟩ := usA_ok h1
      have ee : ∀ t, t = 0 ∨ t = 30 ∨ t = 12 ∨ t = 112 ∨ t = 133 ∨ t = 134 → st (st (st (st (st T 19 (T 32 0) v1) 20 (T 32 0) p) 32 0 (T 32 0 + 1)) 4 k v1) 24 k p t = T t := fun t ht => by rw [st_o (by omega) (by omega), st_o (by omega) (by omega), st_o (by omega) (by omega), st_o (by omega) (by omega), st_o (by omega) (by omega)]
      refine ⟨a1, ?_⟩
      rw [ee 0 (by decide), ee 30 (by decide), ee 12 (by decide), ee 112 (by decide), ee 133 (by decide), ee 134 (by decide)]
      exact hP.2) (S2 0 3) 0 S2 p2 ⟨c1, c2, c3, c4⟩ h2
    rw [Nat.zero_add, c2] at this
    exact this
  generalize hr3 : bi r2 (fun S p _ => o0A b S p) = r3 at *
  -- the ands
  unfold wp_Model_takeBinary_216
  refine m_lines (r := mp 0 r3) (f := fun k X p => dnA b k (mk1 k X) p) (N := S 0 4) (G := fun k T => BI T (S 0 2 + S 0 3) ∧ T 0 = S 0 ∧ (∀ j, j < S 0 4 → T 12 j = 1 + S 0 1 + S 0 2 + j) ∧ (∀ j, T 133 j ≠ 1 ∧ T 134 j ≠ 1)) (X := Q) (by omega) (fun k r4 F4 cc hk1 h4 hg hx hc => ?_) (fun k T p T' q v hP hr => ?_) h3 (fun S' p' v' hh => ?_) (fun F4 h4 => hQ F4 ?_)
  · unfold wp_Model_takeBinary_216_b; dsimp only
    repeat (first | ((with_reducible show ∃ _, _ ∧ _); first | refine s_fI (by rfl) (by rfl) (by rfl) ?_ | refine s_fR (by rfl) (by rfl) (by rfl) ?_ | refine s_pV (by rfl) (by rfl) (Nat.le_of_ble_eq_true rfl) (by rfl) ?_) | ((with_reducible show xcls _ _ _ ∧ _); refine s_cls (by rfl) (by rfl) ?_))
    refine s_aI (i := 14) (by rfl) (by rfl) (by rfl) (by rfl) (by decide) (by decide) ?_
    rcases EM_or h4 with ⟨c, q, rfl, hE⟩ | ⟨S4, p4, v4, rfl, h4⟩
    · refine ⟨fun _ => hx (Or.inl ⟨c, q, rfl⟩), fun _ => ?_⟩
      repeat (first | ((with_reducible show ∃ _, _ ∧ _); first | refine s_fI (by rfl) (by rfl) (by rfl) ?_ | refine s_fR (by rfl) (by rfl) (by rfl) ?_ | refine s_pV (by rfl) (by rfl) (Nat.le_of_ble_eq_true rfl) (by rfl) ?_) | ((with_reducible show xcls _ _ _ ∧ _); refine s_cls (by rfl) (by rfl) ?_))
      exact ⟨fun _ => hx (Or.inl ⟨c, q, rfl⟩), fun hh => absurd hh hE.ne.2⟩
    obtain ⟨hB4, hz4, ht4, h334⟩ := hg _ _ _ rfl
    rw [show F4 110 14 = Int32.ofNat (S4 0 4) from h4.size hB4.1 (by decide : 4 < 5), hz4]
    refine ⟨fun hh => hx (Or.inr ?_), fun hh => ?_⟩
    · rw [n_le (by omega) (by omega)] at hh; omega
    rw [n_le (by omega) (by omega)] at hh
    have hkA : k < S 0 4 := by omega
    repeat (first | ((with_reducible show ∃ _, _ ∧ _); first | refine s_fI (by rfl) (by rfl) (by rfl) ?_ | refine s_fR (by rfl) (by rfl) (by rfl) ?_ | refine s_pV (by rfl) (by rfl) (Nat.le_of_ble_eq_true rfl) (by rfl) ?_) | ((with_reducible show xcls _ _ _ ∧ _); refine s_cls (by rfl) (by rfl) ?_))
    rw [h4.2.2.2.1.1]
    refine ⟨fun hh => absurd rfl hh, fun _ => ?_⟩
    have fin : ∀ F5, MX n F0 F5 (dnA b k (mk1 k S4) p4) → cc (ad e 100, Int32.ofNat k + 1, mem e w F5 L g) := fun F5 h6 => by rw [n_inc]; exact hc S4 p4 v4 hkA rfl F5 h6
    have hu := ht4 k hkA
    repeat (first | ((with_reducible show ∃ _, _ ∧ _); first | refine s_fI (by rfl) (by rfl) (by rfl) ?_ | refine s_fR (by rfl) (by rfl) (by rfl) ?_ | refine s_pV (by rfl) (by rfl) (Nat.le_of_ble_eq_true rfl) (by rfl) ?_) | ((with_reducible show xcls _ _ _ ∧ _); refine s_cls (by rfl) (by rfl) ?_))
    refine s_aI (i := 11) (by rfl) (by rfl) (by rfl) (by rfl) (by decide) (by decide) ?_
    rw [show F4 110 11 = Int32.ofNat (S 0 1) by rw [show F4 110 11 = Int32.ofNat (S4 0 1) from h4.size hB4.1 (by decide : 1 < 5), hz4]]
    repeat (first | ((with_reducible show ∃ _, _ ∧ _); first | refine s_fI (by rfl) (by rfl) (by rfl) ?_ | refine s_fR (by rfl) (by rfl) (by rfl) ?_ | refine s_pV (by rfl) (by rfl) (Nat.le_of_ble_eq_true rfl) (by rfl) ?_) | ((with_reducible show xcls _ _ _ ∧ _); refine s_cls (by rfl) (by rfl) ?_))
    refine s_aI (i := 12) (by rfl) (by rfl) (by rfl) (by rfl) (by decide) (by decide) ?_
    rw [show F4 110 12 = Int32.ofNat (S 0 2) by rw [show F4 110 12 = Int32.ofNat (S4 0 2) from h4.size hB4.1 (by decide : 2 < 5), hz4], n_add, n_add, n_inc, show (2 : Int32) * Int32.ofNat (S 0 1 + S 0 2 + k + 1) = Int32.ofNat (2 * S4 12 k) by rw [show (2 : Int32) = Int32.ofNat 2 from rfl, n_mul, hu]; congr 1; omega]
    refine s_sI (i := 300 + k) (by rfl) (by rfl) (by rfl) (by rfl) (by exact n_add 300 k) (by omega) (by decide) ?_
    have h5 : MS n F0 (up F4 115 (300 + k) (Int32.ofNat (2 * S4 12 k))) (mk1 k S4) p4 := by
      have h6 := h4.put (r := 12) (i := k) (c := 300 + k) (x := S4 12 k) (y := Int32.ofNat (2 * S4 12 k)) (by decide) rfl (by omega) rfl rfl (by decide)
      refine ⟨h6.1, h6.2.1, h6.2.2.1, h6.2.2.2.1, RE_ext h6.2.2.2.2 (fun r j hr hj hm => ?_)⟩
      by_cases e1 : r = 12
      · subst e1
        rw [st_m, st_r, mk1_o (by decide)]
        by_cases e2 : j = k
        · rw [if_pos e2, if_pos e2, e2]; exact ⟨rfl, rfl⟩
        · rw [if_neg e2, if_neg e2]
          unfold mk1 at hm
          rw [if_neg (fun hh => e2 hh.2)] at hm
          exact ⟨hm, rfl⟩
      · rw [mk1_o (by omega)] at hm
        rw [st_o (r := 12) e1 (by omega), st_o (r := 12) (by omega) (by omega), mk1_o (by omega)]
        exact ⟨hm, rfl⟩
    generalize up F4 115 (300 + k) (Int32.ofNat (2 * S4 12 k)) = F5 at *
    have f115 : F5 115 (300 + k) = Int32.ofNat (2 * S4 12 k) := by
      have := h5.at (r := 12) (j := k) (by decide) rfl (by omega) (by show (if (12 : Nat) + 100 = 112 ∧ k = k then 1 else _) = 1; rw [if_pos ⟨rfl, rfl⟩]) (i := 300 + k) rfl
      rw [mk1_o (by decide)] at this; exact this
    have hM133 : ∀ j, mk1 k S4 133 j ≠ 1 ∧ mk1 k S4 134 j ≠ 1 := fun j => by rw [mk1_o (by decide), mk1_o (by decide)]; exact h334 j
    repeat (first | ((with_reducible show ∃ _, _ ∧ _); first | refine s_fI (by rfl) (by rfl) (by rfl) ?_ | refine s_fR (by rfl) (by rfl) (by rfl) ?_ | refine s_pV (by rfl) (by rfl) (Nat.le_of_ble_eq_true rfl) (by rfl) ?_) | ((with_reducible show xcls _ _ _ ∧ _); refine s_cls (by rfl) (by rfl) ?_))
    rw [h5.2.1]
    refine s_sI (i := k) (by rfl) (by rfl) (by rfl) (by rfl) (by rfl) (by omega) (by decide) ?_
    have h6 := h5.free (r := 33) (i := k) (c := k) (y := Int32.ofNat p4) (by decide) rfl (by omega) (by omega) (by decide) (hM133 k).1
    have f115' : up F5 122 k (Int32.ofNat p4) 115 (300 + k) = Int32.ofNat (2 * S4 12 k) := by rw [up_k (by decide)]; exact f115
    generalize up F5 122 k (Int32.ofNat p4) = F6 at *
    repeat (first | ((with_reducible show ∃ _, _ ∧ _); first | refine s_fI (by rfl) (by rfl) (by rfl) ?_ | refine s_fR (by rfl) (by rfl) (by rfl) ?_ | refine s_pV (by rfl) (by rfl) (Nat.le_of_ble_eq_true rfl) (by rfl) ?_) | ((with_reducible show xcls _ _ _ ∧ _); refine s_cls (by rfl) (by rfl) ?_))
    refine s_aI (i := 300 + k) (by rfl) (by rfl) (by rfl) (by exact n_add 300 k) (by omega) (by decide) ?_
    rw [f115']
    unfold dnA at fin
    rw [mk1_o (by decide), dlA_dd] at fin
    have hsm : S4 12 k ≤ 200 := by omega
    generalize hY : mk1 k S4 = Y at *
    repeat (first | ((with_reducible show ∃ _, _ ∧ _); first | refine s_fI (by rfl) (by rfl) (by rfl) ?_ | refine s_fR (by rfl) (by rfl) (by rfl) ?_ | refine s_pV (by rfl) (by rfl) (Nat.le_of_ble_eq_true rfl) (by rfl) ?_) | ((with_reducible show xcls _ _ _ ∧ _); refine s_cls (by rfl) (by rfl) ?_))
    refine m_delta (fr := 2 * S4 12 k) (least := 1) hT h6 (by omega) (by decide) (fun F7 y h7 hy => ?_)
    refine s_sI (i := 300 + k) (by rfl) (by rfl) (by rfl) (by rfl) (by exact n_add 300 k) (by omega) (by decide) ?_
    -- the left operand
    match hrd : ddA b (2 * S4 12 k) 1 Y p4, h7, hy, fin with
    | .error (c, q), h7, hy, fin =>
      have hE : EM n F0 F7 c q := h7
      have hE2 : EM n F0 (up F7 116 (300 + k) y) c q := hE.row (Or.inl ⟨by decide, by decide, by show 300 ≤ 300 + k; omega⟩)
      obtain ⟨pp, hpp, hh6⟩ := hE2.2.1
      repeat (first | ((with_reducible show ∃ _, _ ∧ _); first | refine s_fI (by rfl) (by rfl) (by rfl) ?_ | refine s_fR (by rfl) (by rfl) (by rfl) ?_ | refine s_pV (by rfl) (by rfl) (Nat.le_of_ble_eq_true rfl) (by rfl) ?_) | ((with_reducible show xcls _ _ _ ∧ _); refine s_cls (by rfl) (by rfl) ?_))
      refine s_sI (i := k) (by rfl) (by rfl) (by rfl) (by rfl) (by rfl) (by omega) (by decide) ?_
      have hE3 : EM n F0 (up (up F7 116 (300 + k) y) 123 k (up F7 116 (300 + k) y 100 6)) c q := hE2.row (Or.inl ⟨by decide, by decide, Nat.zero_le _⟩)
      repeat (first | ((with_reducible show ∃ _, _ ∧ _); first | refine s_fI (by rfl) (by rfl) (by rfl) ?_ | refine s_fR (by rfl) (by rfl) (by rfl) ?_ | refine s_pV (by rfl) (by rfl) (Nat.le_of_ble_eq_true rfl) (by rfl) ?_) | ((with_reducible show xcls _ _ _ ∧ _); refine s_cls (by rfl) (by rfl) ?_))
      refine ⟨fun _ => ?_, fun hh => absurd hh hE3.ne.2⟩
      unfold wp_Model_takeBinary_345
      refine s_sI (i := 300 + k) (by rfl) (by rfl) (by rfl) (by rfl) (by exact n_add 300 k) (by omega) (by decide) ?_
      exact fin _ (hE3.row (Or.inl ⟨by decide, by decide, by show 300 ≤ 300 + k; omega⟩))
    | .ok (S5, p5, v5), h75, hy5, fin5 =>
      have hS5 := (ddA_ok hrd).1
      have hv5 := (ddA_ok hrd).2
      have hy5 := hy5 _ _ _ rfl
      have h75 : MS n F0 F7 S5 p5 := h75
      subst hS5
      subst hy5
      rw [bi_ok, bi_ok, st_o (r' := 12) (by decide) (by decide), st_o (r' := 12) (by decide) (by decide), ← hY, mk1_o (by decide), hY, dlA_dd] at fin5
      have h8 : MS n F0 (up F7 116 (300 + k) (Int32.ofNat v5)) (st (st S5 6 (S4 12 k) v5) 13 k v5) p5 := (h75.skip (r := 6) (i := S4 12 k) (x := v5) (by decide) rfl).put (r := 13) (i := k) (c := 300 + k) (x := v5) (by decide) rfl (by omega) rfl rfl (by decide)
      have f116 : up F7 116 (300 + k) (Int32.ofNat v5) 116 (300 + k) = Int32.ofNat v5 := by rw [up_i, if_pos rfl]
      generalize up F7 116 (300 + k) (Int32.ofNat v5) = F8 at *
      repeat (first | ((with_reducible show ∃ _, _ ∧ _); first | refine s_fI (by rfl) (by rfl) (by rfl) ?_ | refine s_fR (by rfl) (by rfl) (by rfl) ?_ | refine s_pV (by rfl) (by rfl) (Nat.le_of_ble_eq_true rfl) (by rfl) ?_) | ((with_reducible show xcls _ _ _ ∧ _); refine s_cls (by rfl) (by rfl) ?_))
      rw [h8.2.1]
      refine s_sI (i := k) (by rfl) (by rfl) (by rfl) (by rfl) (by rfl) (by omega) (by decide) ?_
      have h9 := h8.free (r := 34) (i := k) (c := k) (y := Int32.ofNat p5) (by decide) rfl (by omega) (by omega) (by decide) (by rw [st_o (by decide) (by decide), st_o (by decide) (by decide)]; exact (hM133 k).2)
      have f116' : up F8 123 k (Int32.ofNat p5) 116 (300 + k) = Int32.ofNat v5 := by rw [up_k (by decide)]; exact f116
      generalize up F8 123 k (Int32.ofNat p5) = F9 at *
      repeat (first | ((with_reducible show ∃ _, _ ∧ _); first | refine s_fI (by rfl) (by rfl) (by rfl) ?_ | refine s_fR (by rfl) (by rfl) (by rfl) ?_ | refine s_pV (by rfl) (by rfl) (Nat.le_of_ble_eq_true rfl) (by rfl) ?_) | ((with_reducible show xcls _ _ _ ∧ _); refine s_cls (by rfl) (by rfl) ?_))
      rw [h9.2.2.2.1.1]
      refine ⟨fun hh => absurd rfl hh, fun _ => ?_⟩
      repeat (first | ((with_reducible show ∃ _, _ ∧ _); first | refine s_fI (by rfl) (by rfl) (by rfl) ?_ | refine s_fR (by rfl) (by rfl) (by rfl) ?_ | refine s_pV (by rfl) (by rfl) (Nat.le_of_ble_eq_true rfl) (by rfl) ?_) | ((with_reducible show xcls _ _ _ ∧ _); refine s_cls (by rfl) (by rfl) ?_))
      refine s_aI (i := 300 + k) (by rfl) (by rfl) (by rfl) (by exact n_add 300 k) (by omega) (by decide) ?_
      rw [f116']
      repeat (first | ((with_reducible show ∃ _, _ ∧ _); first | refine s_fI (by rfl) (by rfl) (by rfl) ?_ | refine s_fR (by rfl) (by rfl) (by rfl) ?_ | refine s_pV (by rfl) (by rfl) (Nat.le_of_ble_eq_true rfl) (by rfl) ?_) | ((with_reducible show xcls _ _ _ ∧ _); refine s_cls (by rfl) (by rfl) ?_))
      refine m_delta (fr := v5) (least := 0) hT h9 (by omega) (by decide) (fun FA yA hA hyA => ?_)
      unfold wp_Model_takeBinary_345
      refine s_sI (i := 300 + k) (by rfl) (by rfl) (by rfl) (by rfl) (by exact n_add 300 k) (by omega) (by decide) ?_
      refine fin5 _ ?_
      match hre : ddA b v5 0 (st (st S5 6 (S4 12 k) v5) 13 k v5) p5, hA, hyA with
      | .error (c, q), hA, hyA => exact EM.row hA (Or.inl ⟨by decide, by decide, by show 300 ≤ 300 + k; omega⟩)
      | .ok (S6, p6, v6), hA, hyA =>
        have hyA := hyA _ _ _ rfl
        subst hyA
        have hA : MS n F0 FA S6 p6 := hA
        exact (hA.skip (r := 7) (i := S4 12 k) (x := v6) (by decide) rfl).put (r := 14) (i := k) (c := 300 + k) (x := v6) (by decide) rfl (by omega) rfl rfl (by decide)
  · have hrow := dnA_rows hr
    have hBmk : BI (mk1 k T) (S 0 2 + S 0 3) := by
      have e : ∀ r, r ≠ 112 → mk1 k T r = T r := fun r hr => mk1_o hr
      have hP1 := hP.1
      unfold BI SZ fit at hP1 ⊢
      rw [e 0 (by decide), e 30 (by decide), e 31 (by decide), e 100 (by decide), e 131 (by decide), e 130 (by decide), e 132 (by decide), e 108 (by decide), e 8 (by decide), e 32 (by decide)]
      refine ⟨hP1.1, hP1.2.1, hP1.2.2.1, hP1.2.2.2.1, fun kd k q1 q2 => ?_⟩
      rw [e (140 + kd) (by omega), e (40 + kd) (by omega)]
      exact hP1.2.2.2.2 kd k q1 q2
    have ee : ∀ t, t = 0 ∨ t = 12 ∨ t = 133 ∨ t = 134 → T' t = T t := fun t ht => by rw [hrow t (by omega) (by omega) (by omega) (by omega) (by omega) (by omega) (by omega) (by omega), mk1_o (by omega)]
    refine ⟨dnA_BI hBmk hr, ?_⟩
    rw [ee 0 (by decide), ee 12 (by decide), ee 133 (by decide), ee 134 (by decide)]
    exact hP.2
  · obtain ⟨S1, p1, v1, hh1, hh2⟩ := bi_split hh
    obtain ⟨rfl, _⟩ := ok_inj hh2
    obtain ⟨c1, c2, c3, c4, c5, c6, c7⟩ := g3 _ _ _ hh1
    refine ⟨BI_wk c1, by rw [wk_o (by decide)]; exact c2, by rw [wk_o (by decide), c4]; exact b12, fun j => ?_⟩
    rw [wk_o (by decide), wk_o (by decide), c6, c7, e133.1, e133.2, (h112 j).2.1, (h112 j).2.2]
    exact ⟨by decide, by decide⟩
  · match r3, g3, h4 with
    | .error e, g3, h4 => exact h4
    | .ok (S3, p3, v3), g3, h4 =>
      obtain ⟨c1, c2, c3, c4, c5, c6, c7⟩ := g3 _ _ _ rfl
      unfold mp at h4
      rw [bi_ok, bi_ok, lp_dn (A := S 0 4) (S 0 4) 0 S3 p3 (by omega) (fun j hj => by rw [c5, b112, if_pos hj])] at h4
      rw [bi_ok]
      unfold a0A
      rw [if_neg (by rw [c3]; exact h30), show S3 0 4 = S 0 4 by rw [c2]]
      match hr5 : lp (dnA b) 0 (S 0 4) S3 p3, h4 with
      | .error (c, q), h4 => exact h4
      | .ok (S5, p5, v5), h4 =>
        have h4 : MS n F0 F4 (wk (S 0 4) S5) p5 := h4
        have h5112 : S5 112 = S3 112 := lp_inv (fun _ T => T 112 = S3 112) (fun k T p T' q v hP hr => by rw [dnA_rows hr 112 (by decide) (by decide) (by decide) (by decide) (by decide) (by decide) (by decide) (by decide)]; exact hP) _ _ _ _ rfl hr5
        refine ⟨h4.1, h4.2.1, h4.2.2.1, h4.2.2.2.1, RE_ext h4.2.2.2.2 (fun r j hr hj hm => ?_)⟩
        by_cases e1 : r = 12
        · subst e1
          refine ⟨?_, by rw [wk_o (r := 12) (by decide)]⟩
          have hjA : j < S 0 4 := by
            apply Classical.byContradiction
            intro hn
            have hm : S5 112 j = 1 := hm
            rw [h5112, c5, b112, if_neg hn, (h112 j).1] at hm
            cases hm
          unfold wk
          rw [if_pos rfl, if_pos hjA]; exact hm
        · rw [wk_o (by omega), wk_o (by omega)]
          exact ⟨hm, rfl⟩
end
