/-! The reference reads a binary file's definitions, nexts, outputs, ands. -/
def gb (I l : Nat) (u : Nat) (T : RW) : RW := if u < I then boI u T else if u < I + l then boL (u - I) T else boA (u - I - l) T
def mk1 (k : Nat) (S : RW) : RW := fun r j => if r = 112 ∧ j = k then 1 else S r j
section
variable {b : Nat → Nat} {S T S' : RW} {p q v k a : Nat}
theorem itS_app {f : Nat → RW → RW} : ∀ m1 m2 k S, itS f k (m1 + m2) S = itS f (k + m1) m2 (itS f k m1 S)
  | 0, m2, k, S => by rw [Nat.zero_add]; rfl
  | m1 + 1, m2, k, S => by
    rw [show m1 + 1 + m2 = (m1 + m2) + 1 by omega]
    show itS f (k + 1) (m1 + m2) (f k S) = _
    rw [itS_app m1 m2 (k + 1) (f k S), show k + 1 + m1 = k + (m1 + 1) by omega]
    rfl
theorem itS_congr {f f' : Nat → RW → RW} : ∀ m k k' S, (∀ j, j < m → ∀ T, f (k + j) T = f' (k' + j) T) → itS f k m S = itS f' k' m S
  | 0, _, _, _, _ => rfl
  | m + 1, k, k', S, h => by
    show itS f (k + 1) m (f k S) = itS f' (k' + 1) m (f' k' S)
    have h0 := h 0 (by omega) S
    rw [Nat.add_zero, Nat.add_zero] at h0
    rw [h0]
    exact itS_congr m (k + 1) (k' + 1) _ (fun j hj T => by
      have := h (j + 1) (by omega) T
      rw [show k + 1 + j = k + (j + 1) by omega, show k' + 1 + j = k' + (j + 1) by omega]; exact this)
theorem gb_bd {M : Nat} (hM : M = S 0 1 + S 0 2 + S 0 4) : itS (gb (S 0 1) (S 0 2)) 0 M S = bdA S := by
  unfold bdA
  rw [hM, show S 0 1 + S 0 2 + S 0 4 = S 0 1 + (S 0 2 + S 0 4) by omega, itS_app, itS_app, Nat.zero_add]
  rw [itS_congr (f := gb (S 0 1) (S 0 2)) (f' := boI) (S 0 1) 0 0 S (fun j hj T => by unfold gb; rw [Nat.zero_add, if_pos hj])]
  rw [itS_congr (f := gb (S 0 1) (S 0 2)) (f' := boL) (S 0 2) (S 0 1) 0 _ (fun j hj T => by unfold gb; rw [if_neg (by omega), if_pos (by omega)]; congr 1; omega)]
  rw [itS_congr (f := gb (S 0 1) (S 0 2)) (f' := boA) (S 0 4) (S 0 1 + S 0 2) 0 _ (fun j hj T => by unfold gb; rw [if_neg (by omega), if_neg (by omega)]; congr 1; omega)]
theorem bd12 : ∀ j, j < S 0 4 → bdA S 12 j = 1 + S 0 1 + S 0 2 + j := by
  have z1 := it_size (f := boI) boI_0 (S 0 1) 0 S
  have z2 : itS boL 0 (S 0 2) (itS boI 0 (S 0 1) S) 0 = S 0 := by rw [it_size boL_0, z1]
  have sA' := it_inv (f := boA) (fun k T => (∀ j, j < k → T 12 j = 1 + S 0 1 + S 0 2 + j) ∧ T 0 = S 0) (S 0 4) 0 _ ⟨fun j hj => by omega, z2⟩ (fun k _ _ T hT => ⟨fun j hj => by
    unfold boA
    rw [st_r, st_o (by decide) (by decide), hT.2]
    by_cases e0 : j = k
    · rw [if_pos e0, e0]
    · rw [if_neg e0]; exact hT.1 j (by omega), by rw [boA_0]; exact hT.2⟩)
  rw [Nat.zero_add] at sA'
  exact sA'.1
theorem dbA_sub : ∀ m p k d, dbA b T m p k d = bi (dbA b S m p k d) (fun _ q v => .ok (T, q, v))
  | 0, p, k, d => rfl
  | m + 1, p, k, d => by
    unfold dbA
    by_cases h1 : b p = 256
    · rw [if_pos h1, if_pos h1]; rfl
    · rw [if_neg h1, if_neg h1]
      by_cases h2 : b p < 128
      · rw [if_pos h2, if_pos h2]; rfl
      · rw [if_neg h2, if_neg h2]; exact dbA_sub m _ _ _
theorem ddA_sub {fr least : Nat} : ddA b fr least T p = bi (ddA b fr least S p) (fun _ q v => .ok (T, q, v)) := by
  unfold ddA
  rw [dbA_sub (S := S), bi_bi, bi_bi]
  match hr : dbA b S 3 p 0 0 with
  | .error e => rfl
  | .ok (S1, p1, v1) =>
    rw [bi_ok, bi_ok, bi_ok]
    by_cases hh : v1 < least ∨ fr < v1
    · rw [if_pos hh, if_pos hh]; rfl
    · rw [if_neg hh, if_neg hh]; rfl
theorem ddA_self {fr least : Nat} : bi (ddA b fr least S p) (fun _ q v => .ok (S, q, v)) = ddA b fr least S p := (ddA_sub (T := S) (S := S)).symm
theorem dlA_wk {fr least r r' u : Nat} (hr : r ≠ 12 ∧ r < 100 ∧ r' ≠ 12 ∧ r' < 100) : dlA b fr least r r' u k (wk a S) p = mp a (dlA b fr least r r' u k S p) := by
  rw [dlA_dd, dlA_dd, ddA_sub (T := wk a S) (S := S), bi_bi]
  unfold mp
  rw [bi_bi]
  match hx : ddA b fr least S p with
  | .error e => rfl
  | .ok (S1, p1, v1) =>
    obtain ⟨hS, _⟩ := ddA_ok hx
    subst hS
    rw [bi_ok, bi_ok, bi_ok, bi_ok, wk_st ⟨hr.2.2.1, hr.2.2.2⟩, wk_st ⟨hr.1, hr.2.1⟩]
theorem dnA_wk : dnA b k (wk a S) p = mp a (dnA b k S p) := by
  unfold dnA
  rw [wk_o (by decide), dlA_wk (by decide)]
  unfold mp
  rw [bi_bi, bi_bi]
  match hx : dlA b (2 * S 12 k) 1 6 13 (S 12 k) k S p with
  | .error e => rfl
  | .ok (S1, p1, v1) =>
    rw [bi_ok, bi_ok, bi_ok, wk_o (by decide)]
    exact dlA_wk (by decide)
theorem wk_mk (h : S 112 k = 1) : mk1 k (wk k S) = wk (k + 1) S := by
  funext r j
  unfold mk1 wk
  by_cases e0 : r = 112
  · subst e0
    by_cases e1 : j = k
    · rw [if_pos ⟨rfl, e1⟩, if_pos rfl, if_pos (by omega), e1, h]
    · rw [if_neg (fun hh => e1 hh.2), if_pos rfl, if_pos rfl]
      by_cases e2 : j < k
      · rw [if_pos e2, if_pos (by omega)]
      · rw [if_neg e2, if_neg (by omega)]
  · rw [if_neg (fun hh => e0 hh.1), if_neg e0, if_neg e0]
theorem dnA_rows {T' : RW} (h : dnA b k T p = .ok (T', q, v)) : ∀ r', r' ≠ 6 → r' ≠ 106 → r' ≠ 13 → r' ≠ 113 → r' ≠ 7 → r' ≠ 107 → r' ≠ 14 → r' ≠ 114 → T' r' = T r' := by
  obtain ⟨S1, p1, v1, h1, h2⟩ := bi_split h
  obtain ⟨rfl, _⟩ := dlA_ok h1
  obtain ⟨rfl, _⟩ := dlA_ok h2
  intro r' a1 a2 a3 a4 a5 a6 a7 a8
  rw [st_o a7 a8, st_o a5 a6, st_o a3 a4, st_o a1 a2]
theorem lp_dn {A : Nat} : ∀ m k T p, k + m = A → (∀ j, j < A → T 112 j = 1) → lp (fun k X p => dnA b k (mk1 k X) p) k m (wk k T) p = mp A (lp (dnA b) k m T p)
  | 0, k, T, p, hk, _ => by rw [show A = k by omega]; rfl
  | m + 1, k, T, p, hk, hT => by
    unfold lp
    rw [wk_mk (hT k (by omega)), dnA_wk]
    unfold mp
    rw [bi_bi, bi_bi]
    match hr : dnA b k T p with
    | .error e => rfl
    | .ok (S1, p1, v1) =>
      rw [bi_ok, bi_ok, bi_ok]
      exact lp_dn m (k + 1) S1 p1 (by omega) (fun j hj => by rw [dnA_rows hr 112 (by decide) (by decide) (by decide) (by decide) (by decide) (by decide) (by decide) (by decide)]; exact hT j hj)
theorem BI_wk {nu : Nat} (h : BI S nu) : BI (wk a S) nu := by
  have e : ∀ r, r ≠ 112 → wk a S r = S r := fun r hr => wk_o hr
  unfold BI SZ fit
  rw [e 0 (by decide), e 30 (by decide), e 31 (by decide), e 100 (by decide), e 131 (by decide), e 130 (by decide), e 132 (by decide), e 108 (by decide), e 8 (by decide), e 32 (by decide)]
  refine ⟨h.1, h.2.1, h.2.2.1, h.2.2.2.1, fun kd k q1 q2 => ?_⟩
  rw [e (140 + kd) (by omega), e (40 + kd) (by omega)]
  exact h.2.2.2.2 kd k q1 q2
end
section
variable {e : xenv} {w : Bool} {L : Nat → Nat → Int64} {g : xh} {z : Nat → Nat} {b : Nat → Nat} {n : Nat} {F0 F F' : Nat → Nat → Int32} {S S' : RW} {p q s nu : Nat} {Q : xh → Prop} {Qi : Int32 → xh → Prop} {r : RS}
theorem RE_ext {ly : Nat → Nat × Nat × Nat} {V : Nat → Nat → Int32} (h : RE ly V F S) (hs : ∀ r j, r < 100 → j < (ly r).2.2 → S' (r + 100) j = 1 → S (r + 100) j = 1 ∧ S' r j = S r j) : RE ly V F S' := fun r j hr hj hm => by
  obtain ⟨h1, h2⟩ := hs r j hr hj hm
  rw [h2]; exact h r j hr hj h1
/-- a cell that nothing speaks of -/
theorem MS.free (h : MS n F0 F S p) {r R o zz i c : Nat} {y : Int32} (hr : r < 100) (hl : lyM r = (R, o, zz)) (hi : i < zz) (hc : c = o + i) (hlo : loM R ≤ o) (hm : S (r + 100) i ≠ 1) : MS n F0 (up F R c y) S p := by
  have hown := lyM_own r hr
  rw [hl] at hown
  dsimp only at hown
  have h100 : ∀ j, up F R c y 100 j = F 100 j := fun j => by rw [up_k (by omega)]
  refine ⟨h.1.row (Or.inl ⟨by omega, by omega, by omega⟩), by rw [h100]; exact h.2.1, h.2.2.1, by rw [h100, h100]; exact h.2.2.2.1, fun r' j hr' hj hm' => ?_⟩
  have hcell := lyM_dis r' hr' r hr
  by_cases e0 : r' = r
  · subst e0
    have hji : j ≠ i := fun ee => hm (by rw [← ee]; exact hm')
    have := h.2.2.2.2 r' j hr' hj hm'
    rw [hl] at this ⊢
    rw [up_i, if_neg (by dsimp only; omega)]
    exact this
  · have hcell := hcell e0
    rw [hl] at hcell
    dsimp only at hcell
    by_cases e1 : (lyM r').1 = R
    · have := h.2.2.2.2 r' j hr' hj hm'
      rw [e1] at this ⊢
      rw [up_i, if_neg (by omega)]
      exact this
    · rw [up_k e1]; exact h.2.2.2.2 r' j hr' hj hm'
theorem MS.places (h : MS n F0 F S p) {c : Nat} {y : Int32} : MS n F0 (up F 119 c y) S p := by
  refine ⟨h.1.row (Or.inl ⟨by decide, by decide, Nat.zero_le _⟩), by rw [up_k (by decide)]; exact h.2.1, h.2.2.1, by rw [up_k (by decide)]; exact h.2.2.2.1, RE.kept h.2.2.2.2 (fun r j hr hj => ?_)⟩
  rcases lyM_own r hr with hh | hh
  · omega
  · rw [up_k hh.2.2]
theorem m_order (h : MS n F0 F (wk 0 S) p) (hB : BI S 0) (hM : S 0 0 = S 0 1 + S 0 2 + S 0 4) (hQ : ∀ F', MS n F0 F' (wk 0 (bdA S)) p → wp_Model_takeBinary_181 z Q (ad e 100) 0 (mem e w F' L g)) : wp_Model_takeBinary z Q (ad e 100) (mem e w F L g) := by
  obtain ⟨f0, f1, f2, f3, f4, f5⟩ := hB.1.1
  have hgb := gb_bd (S := S) hM
  unfold wp_Model_takeBinary wp_Model_takeBinary_2
  generalize hI : S 0 1 = I at *
  generalize hl : S 0 2 = l at *
  generalize hA : S 0 4 = A at *
  generalize hMM : S 0 0 = M at *
  refine xloop_dn (fun m a => ∃ u T F2, m = M - u ∧ u ≤ M ∧ a = (ad e 100, Int32.ofNat (u + 1), mem e w F2 L g) ∧ MS n F0 F2 (wk 0 T) p ∧ BI T 0 ∧ T 0 = S 0 ∧ itS (gb I l) u (M - u) T = bdA S) ?_ M _ ⟨0, S, F, rfl, Nat.zero_le _, rfl, h, hB, rfl, hgb⟩
  rintro m a cc ⟨u, T, F2, rfl, hu, rfl, h2, hB2, hz2, hT2⟩ hk
  have sz : ∀ j, j < 5 → F2 110 (10 + j) = Int32.ofNat (S 0 j) := fun j hj => by
    have := MS.size h2 (BI_wk hB2).1 hj
    rw [wk_o (by decide), hz2] at this; exact this
  unfold wp_Model_takeBinary_2_b; dsimp only
  repeat (first | ((with_reducible show ∃ _, _ ∧ _); first | refine s_fI (by rfl) (by rfl) (by rfl) ?_ | refine s_fR (by rfl) (by rfl) (by rfl) ?_ | refine s_pV (by rfl) (by rfl) (Nat.le_of_ble_eq_true rfl) (by rfl) ?_) | ((with_reducible show xcls _ _ _ ∧ _); refine s_cls (by rfl) (by rfl) ?_))
  refine s_aI (i := 10) (by rfl) (by rfl) (by rfl) (by rfl) (by decide) (by decide) ?_
  rw [show F2 110 10 = Int32.ofNat M by rw [sz 0 (by decide), hMM]]
  refine ⟨fun hc => ?_, fun hc => ?_⟩ <;> rw [n_lt (by omega) (by omega)] at hc
  · have : u = M := by omega
    subst this
    rw [Nat.sub_self] at hT2
    have hT2 : T = bdA S := hT2
    rw [hT2] at h2
    exact hQ F2 h2
  rw [show M - u = (M - (u + 1)) + 1 by omega] at hT2
  have hT2 : itS (gb I l) (u + 1) (M - (u + 1)) (gb I l u T) = bdA S := hT2
  rw [show Int32.ofNat (u + 1) - 1 = Int32.ofNat u by rw [show (1 : Int32) = Int32.ofNat 1 from rfl, n_sub (by omega)]; rfl]
  rintro v3 rfl
  repeat (first | ((with_reducible show ∃ _, _ ∧ _); first | refine s_fI (by rfl) (by rfl) (by rfl) ?_ | refine s_fR (by rfl) (by rfl) (by rfl) ?_ | refine s_pV (by rfl) (by rfl) (Nat.le_of_ble_eq_true rfl) (by rfl) ?_) | ((with_reducible show xcls _ _ _ ∧ _); refine s_cls (by rfl) (by rfl) ?_))
  refine s_aI (i := 11) (by rfl) (by rfl) (by rfl) (by rfl) (by decide) (by decide) ?_
  rw [show F2 110 11 = Int32.ofNat I by rw [sz 1 (by decide), hI], n_le (by omega) (by omega)]
  -- one definition
  have def1 : ∀ (kind : Nat) (idx : Int32) (P : xh → Prop), (∀ F3, MS n F0 F3 (st (wk 0 T) 8 (u + 1) kind) p → P (mem e w F3 L g)) → wp_Model_define z P (ad e 100) (Int32.ofNat (u + 1)) (Int32.ofNat kind) idx (mem e w F2 L g) := by
    intro kind idx P hP
    unfold wp_Model_define
    repeat (first | ((with_reducible show ∃ _, _ ∧ _); first | refine s_fI (by rfl) (by rfl) (by rfl) ?_ | refine s_fR (by rfl) (by rfl) (by rfl) ?_ | refine s_pV (by rfl) (by rfl) (Nat.le_of_ble_eq_true rfl) (by rfl) ?_) | ((with_reducible show xcls _ _ _ ∧ _); refine s_cls (by rfl) (by rfl) ?_))
    refine s_sI (i := 402 + (u + 1)) (by rfl) (by rfl) (by rfl) (by rfl) (by exact n_add 402 _) (by omega) (by decide) ?_
    repeat (first | ((with_reducible show ∃ _, _ ∧ _); first | refine s_fI (by rfl) (by rfl) (by rfl) ?_ | refine s_fR (by rfl) (by rfl) (by rfl) ?_ | refine s_pV (by rfl) (by rfl) (Nat.le_of_ble_eq_true rfl) (by rfl) ?_) | ((with_reducible show xcls _ _ _ ∧ _); refine s_cls (by rfl) (by rfl) ?_))
    refine s_sI (i := 402 + (u + 1)) (by rfl) (by rfl) (by rfl) (by rfl) (by exact n_add 402 _) (by omega) (by decide) ?_
    exact hP _ ((h2.put (r := 8) (i := u + 1) (c := 402 + (u + 1)) (x := kind) (y := Int32.ofNat kind) (by decide) rfl (by omega) rfl rfl (by decide)).places)
  have next : ∀ F3 T', gb I l u T = T' → MS n F0 F3 (wk 0 T') p → BI T' 0 → T' 0 = S 0 → wp_Model_takeBinary_173 z Q cc (ad e 100) (Int32.ofNat (u + 1)) (mem e w F3 L g) := by
    intro F3 T' hg h3 hB3 hz3
    unfold wp_Model_takeBinary_173
    exact hk (M - (u + 1)) _ (by omega) ⟨u + 1, T', F3, rfl, by omega, by rw [n_inc], h3, hB3, hz3, by rw [← hg]; exact hT2⟩
  refine ⟨fun hge => ?_, fun hlt => ?_⟩
  · -- no input
    unfold wp_Model_takeBinary_33
    refine ⟨fun hh => absurd rfl hh, fun _ => ?_⟩
    repeat (first | ((with_reducible show ∃ _, _ ∧ _); first | refine s_fI (by rfl) (by rfl) (by rfl) ?_ | refine s_fR (by rfl) (by rfl) (by rfl) ?_ | refine s_pV (by rfl) (by rfl) (Nat.le_of_ble_eq_true rfl) (by rfl) ?_) | ((with_reducible show xcls _ _ _ ∧ _); refine s_cls (by rfl) (by rfl) ?_))
    refine s_aI (i := 11) (by rfl) (by rfl) (by rfl) (by rfl) (by decide) (by decide) ?_
    rw [show F2 110 11 = Int32.ofNat I by rw [sz 1 (by decide), hI]]
    repeat (first | ((with_reducible show ∃ _, _ ∧ _); first | refine s_fI (by rfl) (by rfl) (by rfl) ?_ | refine s_fR (by rfl) (by rfl) (by rfl) ?_ | refine s_pV (by rfl) (by rfl) (Nat.le_of_ble_eq_true rfl) (by rfl) ?_) | ((with_reducible show xcls _ _ _ ∧ _); refine s_cls (by rfl) (by rfl) ?_))
    refine s_aI (i := 12) (by rfl) (by rfl) (by rfl) (by rfl) (by decide) (by decide) ?_
    rw [show F2 110 12 = Int32.ofNat l by rw [sz 2 (by decide), hl], n_add, n_le (by omega) (by omega)]
    refine ⟨fun hge2 => ?_, fun hlt2 => ?_⟩
    · -- an and
      unfold wp_Model_takeBinary_61 wp_Model_takeBinary_62
      refine ⟨fun _ => ⟨fun _ => ?_, fun hh => absurd rfl hh⟩, fun hh => absurd rfl hh⟩
      unfold wp_Model_takeBinary_84
      refine ⟨fun _ => ⟨fun _ => ?_, fun hh => absurd rfl hh⟩, fun hh => absurd rfl hh⟩
      repeat (first | ((with_reducible show ∃ _, _ ∧ _); first | refine s_fI (by rfl) (by rfl) (by rfl) ?_ | refine s_fR (by rfl) (by rfl) (by rfl) ?_ | refine s_pV (by rfl) (by rfl) (Nat.le_of_ble_eq_true rfl) (by rfl) ?_) | ((with_reducible show xcls _ _ _ ∧ _); refine s_cls (by rfl) (by rfl) ?_))
      refine s_aI (i := 11) (by rfl) (by rfl) (by rfl) (by rfl) (by decide) (by decide) ?_
      repeat (first | ((with_reducible show ∃ _, _ ∧ _); first | refine s_fI (by rfl) (by rfl) (by rfl) ?_ | refine s_fR (by rfl) (by rfl) (by rfl) ?_ | refine s_pV (by rfl) (by rfl) (Nat.le_of_ble_eq_true rfl) (by rfl) ?_) | ((with_reducible show xcls _ _ _ ∧ _); refine s_cls (by rfl) (by rfl) ?_))
      refine s_aI (i := 12) (by rfl) (by rfl) (by rfl) (by rfl) (by decide) (by decide) ?_
      unfold wp_Model_takeBinary_126
      repeat (first | ((with_reducible show ∃ _, _ ∧ _); first | refine s_fI (by rfl) (by rfl) (by rfl) ?_ | refine s_fR (by rfl) (by rfl) (by rfl) ?_ | refine s_pV (by rfl) (by rfl) (Nat.le_of_ble_eq_true rfl) (by rfl) ?_) | ((with_reducible show xcls _ _ _ ∧ _); refine s_cls (by rfl) (by rfl) ?_))
      refine def1 3 _ _ (fun F3 h3 => ⟨fun _ => ⟨fun _ => ?_, fun hh => absurd rfl hh⟩, fun hh => absurd rfl hh⟩)
      have hg : gb I l u T = st (st T 8 (u + 1) 3) 12 (u - I - l) (u + 1) := by
        unfold gb; rw [if_neg (by omega), if_neg (by omega)]; unfold boA
        rw [hz2, hI, hl, show 1 + I + l + (u - I - l) = u + 1 by omega]
      refine next F3 _ hg ?_ (BI_bo hB2 (by decide) (by decide)) (by rw [st_o (by decide) (by decide), st_o (by decide) (by decide)]; exact hz2)
      refine ⟨h3.1, h3.2.1, h3.2.2.1, h3.2.2.2.1, RE_ext h3.2.2.2.2 (fun r j hr hj hm => ?_)⟩
      rw [← wk_st (by decide)]
      by_cases e0 : r = 12
      · subst e0
        exact absurd hm (by show (if (12 : Nat) + 100 = 112 then (if j < 0 then _ else 0) else _) ≠ 1; rw [if_pos rfl, if_neg (Nat.not_lt_zero _)]; decide)
      · rw [wk_o (by omega), st_o (by omega) (by omega)] at hm
        rw [wk_o (by omega), wk_o (by omega), wk_o (by omega), st_o (r := 12) e0 (by omega)]
        exact ⟨hm, rfl⟩
    · -- a latch
      unfold wp_Model_takeBinary_62
      refine ⟨fun _ => ⟨fun hh => absurd hh (by decide), fun _ => ?_⟩, fun hh => absurd rfl hh⟩
      unfold wp_Model_takeBinary_84
      refine ⟨fun _ => ⟨fun hh => absurd hh (by decide), fun _ => ?_⟩, fun hh => absurd rfl hh⟩
      repeat (first | ((with_reducible show ∃ _, _ ∧ _); first | refine s_fI (by rfl) (by rfl) (by rfl) ?_ | refine s_fR (by rfl) (by rfl) (by rfl) ?_ | refine s_pV (by rfl) (by rfl) (Nat.le_of_ble_eq_true rfl) (by rfl) ?_) | ((with_reducible show xcls _ _ _ ∧ _); refine s_cls (by rfl) (by rfl) ?_))
      refine s_aI (i := 11) (by rfl) (by rfl) (by rfl) (by rfl) (by decide) (by decide) ?_
      unfold wp_Model_takeBinary_126
      repeat (first | ((with_reducible show ∃ _, _ ∧ _); first | refine s_fI (by rfl) (by rfl) (by rfl) ?_ | refine s_fR (by rfl) (by rfl) (by rfl) ?_ | refine s_pV (by rfl) (by rfl) (Nat.le_of_ble_eq_true rfl) (by rfl) ?_) | ((with_reducible show xcls _ _ _ ∧ _); refine s_cls (by rfl) (by rfl) ?_))
      refine def1 2 _ _ (fun F3 h3 => ⟨fun _ => ⟨fun hh => absurd hh (by decide), fun _ => ?_⟩, fun hh => absurd rfl hh⟩)
      have sz3' : F3 110 11 = Int32.ofNat I := by
        have hz := h3.at (r := 0) (j := 1) (by decide) rfl (by decide) (by rw [st_o (by decide) (by decide), wk_o (by decide)]; exact (hB2.1.2.1 1 (by decide)).1) (i := 11) rfl
        rw [st_o (by decide) (by decide), wk_o (by decide), hz2, hI] at hz
        exact hz
      repeat (first | ((with_reducible show ∃ _, _ ∧ _); first | refine s_fI (by rfl) (by rfl) (by rfl) ?_ | refine s_fR (by rfl) (by rfl) (by rfl) ?_ | refine s_pV (by rfl) (by rfl) (Nat.le_of_ble_eq_true rfl) (by rfl) ?_) | ((with_reducible show xcls _ _ _ ∧ _); refine s_cls (by rfl) (by rfl) ?_))
      refine s_aI (i := 11) (by rfl) (by rfl) (by rfl) (by rfl) (by decide) (by decide) ?_
      rw [sz3', show (14 : Int32) + Int32.ofNat u - Int32.ofNat I = Int32.ofNat (14 + (u - I)) by rw [show (14 : Int32) = Int32.ofNat 14 from rfl, n_add, n_sub (by omega)]; congr 1; omega, show (2 : Int32) * Int32.ofNat (u + 1) = Int32.ofNat (2 * (u + 1)) from n_mul 2 _]
      refine s_sI (i := 14 + (u - I)) (by rfl) (by rfl) (by rfl) (by rfl) (by rfl) (by omega) (by decide) ?_
      have hg : gb I l u T = st (st T 8 (u + 1) 2) 2 (u - I) (u + 1) := by
        unfold gb; rw [if_neg (by omega), if_pos (by omega)]; unfold boL
        rw [hz2, hI, show 1 + I + (u - I) = u + 1 by omega]
      refine next _ _ hg ?_ (BI_bo hB2 (by decide) (by decide)) (by rw [st_o (by decide) (by decide), st_o (by decide) (by decide)]; exact hz2)
      rw [wk_st (by decide), wk_st (by decide)]
      exact h3.put (r := 2) (i := u - I) (c := 14 + (u - I)) (x := u + 1) (by decide) rfl (by omega) rfl rfl (by decide)
  · -- an input
    unfold wp_Model_takeBinary_33 wp_Model_takeBinary_61 wp_Model_takeBinary_62
    refine ⟨fun _ => ⟨fun hh => absurd hh (by decide), fun _ => ?_⟩, fun hh => absurd hh (by decide)⟩
    unfold wp_Model_takeBinary_84
    refine ⟨fun hh => absurd hh (by decide), fun _ => ?_⟩
    unfold wp_Model_takeBinary_126
    repeat (first | ((with_reducible show ∃ _, _ ∧ _); first | refine s_fI (by rfl) (by rfl) (by rfl) ?_ | refine s_fR (by rfl) (by rfl) (by rfl) ?_ | refine s_pV (by rfl) (by rfl) (Nat.le_of_ble_eq_true rfl) (by rfl) ?_) | ((with_reducible show xcls _ _ _ ∧ _); refine s_cls (by rfl) (by rfl) ?_))
    refine def1 1 _ _ (fun F3 h3 => ⟨fun hh => absurd hh (by decide), fun _ => ?_⟩)
    repeat (first | ((with_reducible show ∃ _, _ ∧ _); first | refine s_fI (by rfl) (by rfl) (by rfl) ?_ | refine s_fR (by rfl) (by rfl) (by rfl) ?_ | refine s_pV (by rfl) (by rfl) (Nat.le_of_ble_eq_true rfl) (by rfl) ?_) | ((with_reducible show xcls _ _ _ ∧ _); refine s_cls (by rfl) (by rfl) ?_))
    rw [show (2 : Int32) * Int32.ofNat (u + 1) = Int32.ofNat (2 * (u + 1)) from n_mul 2 _]
    refine s_sI (i := 10 + u) (by rfl) (by rfl) (by rfl) (by rfl) (by exact n_add 10 u) (by omega) (by decide) ?_
    have hg : gb I l u T = st (st T 8 (u + 1) 1) 1 u (u + 1) := by
      unfold gb; rw [if_pos (by omega)]; unfold boI
      rw [show 1 + u = u + 1 by omega]
    refine next _ _ hg ?_ (BI_bo hB2 (by decide) (by decide)) (by rw [st_o (by decide) (by decide), st_o (by decide) (by decide)]; exact hz2)
    rw [wk_st (by decide), wk_st (by decide)]
    exact h3.put (r := 1) (i := u) (c := 10 + u) (x := u + 1) (by decide) rfl (by omega) rfl rfl (by decide)
end
