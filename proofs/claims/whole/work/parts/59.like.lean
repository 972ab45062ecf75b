/-! The likeness: variables in classes. Spots s = 201 c + v. -/
/-- a variable at a pair, by a vector -/
def vl (K : Nat → Nat → Nat → Nat) (p s x : Nat) : Bool := va (K (s / 201)) (bts (if s / 201 = 0 then p / 64 else p % 64)) (bts x) (s % 201)
def fl (K : Nat → Nat → Nat → Nat) (s : Nat) : Bool := vl K 0 s 0
def sg (K : Nat → Nat → Nat → Nat) (p s x : Nat) : Bool := vl K p s x ^^ fl K s
/-- a spot whose variable is defined -/
def dsp (K : Nat → Nat → Nat → Nat) (s : Nat) : Prop := s < 402 ∧ dl (K (s / 201)) (2 * (s % 201))
def sw (K : Nat → Nat → Nat → Nat) (p a b : Nat) : Prop := ∀ x, x < 32 → sg K p a x = sg K p b x
def agr (K : Nat → Nat → Nat → Nat) (q : Nat → Nat) (j a b : Nat) : Prop := ∀ i, i < j → sw K (q i) a b
/-- m leads the class of s -/
def isN (K : Nat → Nat → Nat → Nat) (q : Nat → Nat) (j s m : Nat) : Prop := dsp K m ∧ agr K q j s m ∧ ∀ m', m' < m → dsp K m' → ¬ agr K q j s m'
section
variable {K : Nat → Nat → Nat → Nat} {q : Nat → Nat}
theorem agr_refl (j a : Nat) : agr K q j a a := fun _ _ _ _ => rfl
theorem agr_symm {j a b : Nat} (h : agr K q j a b) : agr K q j b a := fun i hi x hx => (h i hi x hx).symm
theorem agr_trans {j a b c : Nat} (h : agr K q j a b) (h' : agr K q j b c) : agr K q j a c := fun i hi x hx => (h i hi x hx).trans (h' i hi x hx)
theorem agr_succ {j a b : Nat} : agr K q (j + 1) a b ↔ agr K q j a b ∧ sw K (q j) a b := by
  constructor
  · exact fun h => ⟨fun i hi => h i (by omega), h j (by omega)⟩
  · rintro ⟨h1, h2⟩ i hi
    by_cases e : i = j
    · rw [e]; exact h2
    · exact h1 i (by omega)
theorem isN_agr {j s c m : Nat} (h : isN K q j c m) (ha : agr K q j s c) : isN K q j s m :=
  ⟨h.1, agr_trans ha h.2.1, fun m' h1 h2 h3 => h.2.2 m' h1 h2 (agr_trans (agr_symm ha) h3)⟩
theorem isN_uniq {j s m m' : Nat} (h : isN K q j s m) (h' : isN K q j s m') : m = m' := by
  rcases Nat.lt_trichotomy m m' with h1 | h1 | h1
  · exact absurd h.2.1 (h'.2.2 m h1 h.1)
  · exact h1
  · exact absurd h'.2.1 (h.2.2 m' h1 h'.1)
theorem isN_le {j s m : Nat} (h : isN K q j s m) (hs : dsp K s) : m ≤ s := Nat.le_of_not_lt (fun hlt => h.2.2 s hlt hs (agr_refl j s))
theorem isN_self {j s m : Nat} (h : isN K q j s m) : isN K q j m m := isN_agr h (agr_symm h.2.1)
theorem isN_ex {j s : Nat} (hs : dsp K s) : ∃ m, isN K q j s m := by
  have key : ∀ n m, m < n → dsp K m → agr K q j s m → ∃ m, isN K q j s m := by
    intro n
    induction n with
    | zero => intro m h; omega
    | succ n ih =>
      intro m hm hd ha
      by_cases hex : ∃ m', m' < m ∧ dsp K m' ∧ agr K q j s m'
      · obtain ⟨m', h1, h2, h3⟩ := hex
        exact ih m' (by omega) h2 h3
      · exact ⟨m, hd, ha, fun m' h1 h2 h3 => hex ⟨m', h1, h2, h3⟩⟩
  exact key (s + 1) s (by omega) hs (agr_refl j s)
theorem dsp_cv {s : Nat} (h : dsp K s) : s / 201 < 2 := by have := h.1; omega
end
/-- the classes by the first j pairs of the queue -/
def LK (F : Nat → Nat → Int32) (K : Nat → Nat → Nat → Nat) (q : Nat → Nat) (j : Nat) : Prop :=
  (∀ s, dsp K s → (∃ m, F 181 s = Int32.ofNat m ∧ isN K q j s m) ∧ F 182 s = -(Int32.ofNat (fl K s).toNat)) ∧
  ∃ (oc : Nat) (o : Nat → Nat), F 180 6 = Int32.ofNat oc ∧ oc ≤ 402 ∧ (∀ i, i < oc → F 186 i = Int32.ofNat (o i) ∧ dsp K (o i)) ∧ (∀ i i', i < i' → i' < oc → o i < o i') ∧ (∀ s, dsp K s → (∃ i, i < oc ∧ o i = s) ∨ (∀ s', dsp K s' → agr K q j s s' → s' = s))
section
variable {e : xenv} {F : Nat → Nat → Int32} {L : Nat → Nat → Int64} {g : xh} {z : Nat → Nat} {K : Nat → Nat → Nat → Nat} {q : Nat → Nat}
theorem dsp_word (hM : MK K) (hT : TB F K) {Q : Int32 → xh → Prop} {p s : Nat} (hp : isPr K p) (hs : dsp K s) (h : ∀ y, (∀ i, i < 32 → bt y i = vl K p s i) → Q y (mem e true F L g)) : wp_Table_word z Q (ad e 165) (Int32.ofNat p) (Int32.ofNat (s / 201)) (Int32.ofNat (2 * (s % 201))) (mem e true F L g) := by
  refine v_tword hM hT hp (dsp_cv hs) hs.2 (fun y hy => h y (fun i hi => ?_))
  rw [hy i hi]
  unfold lv vl
  rw [show 2 * (s % 201) / 2 = s % 201 by omega, show 2 * (s % 201) % 2 = 0 by omega]
  simp
theorem n_spot {s : Nat} (h : s < 402) : Int32.ofNat s / 201 = Int32.ofNat (s / 201) ∧ (2 : Int32) * (Int32.ofNat s - Int32.ofNat s / 201 * 201) = Int32.ofNat (2 * (s % 201)) := by
  constructor
  · rw [n_lit, n_div (by omega) (by decide)]
  · rw [show Int32.ofNat s / 201 = Int32.ofNat (s / 201) by rw [n_lit, n_div (by omega) (by decide)], show (201 : Int32) = Int32.ofNat 201 from rfl, n_mul, n_sub (by omega), n_lit, n_mul]
    congr 1; omega
/-- one pass: the first i of the open spots have been looked at by pair j of the queue -/
def PS (F : Nat → Nat → Int32) (K : Nat → Nat → Nat → Nat) (q : Nat → Nat) (j : Nat) (o : Nat → Nat) (i0 : Nat) : Prop :=
  (∀ i, i < i0 → (∀ x, x < 32 → bt (F 183 (o i)) x = sg K (q j) (o i) x) ∧ ∃ m, F 181 (o i) = Int32.ofNat m ∧ isN K q (j + 1) (o i) m) ∧
  (∀ s, dsp K s → (∀ i, i < i0 → o i ≠ s) → ∃ m, F 181 s = Int32.ofNat m ∧ isN K q j s m) ∧
  (∀ i, i < i0 → isN K q (j + 1) (o i) (o i) → (F 184 (o i) = -1 ∧ ∀ i', i' < i0 → o i < o i' → isN K q (j + 1) (o i') (o i') → ¬ agr K q j (o i) (o i')) ∨ (∃ i1, i1 < i0 ∧ F 184 (o i) = Int32.ofNat (o i1) ∧ o i < o i1 ∧ isN K q (j + 1) (o i1) (o i1) ∧ agr K q j (o i) (o i1) ∧ ∀ i', i' < i0 → o i < o i' → o i' < o i1 → isN K q (j + 1) (o i') (o i') → ¬ agr K q j (o i) (o i')))
theorem v_findLeader {Q : xh → Prop} {j i0 oc : Nat} {o : Nat → Nat} (hi0 : i0 < oc) (ho1 : ∀ i, i < oc → dsp K (o i)) (ho2 : ∀ i i', i < i' → i' < oc → o i < o i') (ho3 : ∀ s, dsp K s → (∃ i, i < oc ∧ o i = s) ∨ (∀ s', dsp K s' → agr K q j s s' → s' = s))
    (hP : PS F K q j o i0) (hw : ∀ x, x < 32 → bt (F 183 (o i0)) x = sg K (q j) (o i0) x)
    (h : ∀ F', (∀ k, k ≠ 181 → k ≠ 184 → F' k = F k) → PS F' K q j o (i0 + 1) → Q (mem e true F' L g)) : wp_Likeness_findLeader z Q (ad e 180) (Int32.ofNat (o i0)) (mem e true F L g) := by
  obtain ⟨PA, PB, PC⟩ := hP
  have hs := ho1 i0 hi0
  have hs4 := hs.1
  have hlt : ∀ i, i < i0 → o i < o i0 := fun i hi => ho2 i i0 hi hi0
  have hnp : ∀ i, i < i0 → o i ≠ o i0 := fun i hi => Nat.ne_of_lt (hlt i hi)
  obtain ⟨m0, hm0, hN0⟩ := PB (o i0) hs hnp
  have hm0s := isN_le hN0 hs
  have inj : ∀ i i', i < oc → i' < oc → o i = o i' → i = i' := fun i i' h1 h2 h3 => by
    rcases Nat.lt_trichotomy i i' with h4 | h4 | h4
    · have := ho2 i i' h4 h2; omega
    · exact h4
    · have := ho2 i' i h4 h1; omega
  have weq : ∀ i, i < i0 → (F 183 (o i) = F 183 (o i0) ↔ sw K (q j) (o i) (o i0)) := fun i hi =>
    ⟨fun he x hx => by rw [← (PA i hi).1 x hx, he, hw x hx], fun hsw => bt_ext (fun x hx => by rw [(PA i hi).1 x hx, hw x hx]; exact hsw x hx)⟩
  unfold wp_Likeness_findLeader
  repeat (first | ((with_reducible show ∃ _, _ ∧ _); first | refine s_fI (by rfl) (by rfl) (by rfl) ?_ | refine s_fR (by rfl) (by rfl) (by rfl) ?_ | refine s_pV (by rfl) (by rfl) (Nat.le_of_ble_eq_true rfl) (by rfl) ?_) | ((with_reducible show xcls _ _ _ ∧ _); refine s_cls (by rfl) (by rfl) ?_))
  refine s_sI (i := o i0) (by rfl) (by rfl) (by rfl) (by rfl) (by rfl) (by exact hs4) (by decide) ?_
  repeat (first | ((with_reducible show ∃ _, _ ∧ _); first | refine s_fI (by rfl) (by rfl) (by rfl) ?_ | refine s_fR (by rfl) (by rfl) (by rfl) ?_ | refine s_pV (by rfl) (by rfl) (Nat.le_of_ble_eq_true rfl) (by rfl) ?_) | ((with_reducible show xcls _ _ _ ∧ _); refine s_cls (by rfl) (by rfl) ?_))
  refine s_aI (i := o i0) (by rfl) (by rfl) (by rfl) (by rfl) (by exact hs4) (by decide) ?_
  rw [up_k (by decide), hm0]
  generalize hF1 : up F 184 (o i0) (-1) = F1
  have k1 : ∀ k, k ≠ 184 → F1 k = F k := fun k hk => by rw [← hF1, up_k hk]
  have z1 : ∀ s, F1 184 s = if s = o i0 then -1 else F 184 s := fun s => by rw [← hF1, up_i]
  -- the end: the leader is written down
  have fin : ∀ (F2 : Nat → Nat → Int32) (m : Nat), (∀ k, k ≠ 184 → F2 k = F k) → isN K q (j + 1) (o i0) m → m < 402 → (∀ i, i < i0 → isN K q (j + 1) (o i) (o i) → (F2 184 (o i) = -1 ∧ ∀ i', i' < i0 + 1 → o i < o i' → isN K q (j + 1) (o i') (o i') → ¬ agr K q j (o i) (o i')) ∨ (∃ i1, i1 < i0 + 1 ∧ F2 184 (o i) = Int32.ofNat (o i1) ∧ o i < o i1 ∧ isN K q (j + 1) (o i1) (o i1) ∧ agr K q j (o i) (o i1) ∧ ∀ i', i' < i0 + 1 → o i < o i' → o i' < o i1 → isN K q (j + 1) (o i') (o i') → ¬ agr K q j (o i) (o i'))) → F2 184 (o i0) = -1 → wp_Likeness_findLeader_76 z Q (ad e 180) (Int32.ofNat (o i0)) (Int32.ofNat m) (mem e true F2 L g) := by
    intro F2 m k2 hm hm4 hC hC0
    unfold wp_Likeness_findLeader_76
    repeat (first | ((with_reducible show ∃ _, _ ∧ _); first | refine s_fI (by rfl) (by rfl) (by rfl) ?_ | refine s_fR (by rfl) (by rfl) (by rfl) ?_ | refine s_pV (by rfl) (by rfl) (Nat.le_of_ble_eq_true rfl) (by rfl) ?_) | ((with_reducible show xcls _ _ _ ∧ _); refine s_cls (by rfl) (by rfl) ?_))
    refine s_sI (i := o i0) (by rfl) (by rfl) (by rfl) (by rfl) (by rfl) (by exact hs4) (by decide) ?_
    refine h _ (fun k q1 q2 => by rw [up_k q1, k2 k q2]) ⟨fun i hi => ?_, fun s hd hno => ?_, fun i hi hself => ?_⟩
    · rw [up_k (by decide), up_i, k2 183 (by decide), k2 181 (by decide)]
      by_cases e0 : i = i0
      · subst e0; rw [if_pos rfl]; exact ⟨hw, m, rfl, hm⟩
      · rw [if_neg (hnp i (by omega))]; exact PA i (by omega)
    · rw [up_i, if_neg (fun e0 => hno i0 (by omega) e0.symm), k2 181 (by decide)]
      exact PB s hd (fun i hi => hno i (by omega))
    · rw [up_k (by decide)]
      by_cases e0 : i = i0
      · subst e0
        left
        refine ⟨hC0, fun i' hi' hlt' => ?_⟩
        by_cases e1 : i' = i
        · rw [e1] at hlt'; omega
        · have := hlt i' (by omega); omega
      · exact hC i (by omega) hself
  -- s is not a new leader of another's class
  have keepC : (isN K q (j + 1) (o i0) (o i0) → ∀ i, i < i0 → ¬ agr K q j (o i) (o i0)) → ∀ F2 : Nat → Nat → Int32, (∀ i, i < i0 → F2 184 (o i) = F 184 (o i)) → ∀ i, i < i0 → isN K q (j + 1) (o i) (o i) → (F2 184 (o i) = -1 ∧ ∀ i', i' < i0 + 1 → o i < o i' → isN K q (j + 1) (o i') (o i') → ¬ agr K q j (o i) (o i')) ∨ (∃ i1, i1 < i0 + 1 ∧ F2 184 (o i) = Int32.ofNat (o i1) ∧ o i < o i1 ∧ isN K q (j + 1) (o i1) (o i1) ∧ agr K q j (o i) (o i1) ∧ ∀ i', i' < i0 + 1 → o i < o i' → o i' < o i1 → isN K q (j + 1) (o i') (o i') → ¬ agr K q j (o i) (o i')) := by
    intro hno F2 hF2 i hi hself
    rw [hF2 i hi]
    rcases PC i hi hself with ⟨c1, c2⟩ | ⟨i1, c1, c2, c3, c4, c5, c6⟩
    · left
      refine ⟨c1, fun i' hi' hl hs' => ?_⟩
      by_cases e1 : i' = i0
      · subst e1; exact hno hs' i hi
      · exact c2 i' (by omega) hl hs'
    · right
      refine ⟨i1, by omega, c2, c3, c4, c5, fun i' hi' hl hl2 hs' => ?_⟩
      by_cases e1 : i' = i0
      · subst e1; exact hno hs' i hi
      · exact c6 i' (by omega) hl hl2 hs'
  unfold wp_Likeness_findLeader_19
  refine xloop_dn (fun mm a => ∃ (n : Nat) (le la : Int32), mm = 402 - n ∧ n ≤ 402 ∧ a = (ad e 180, Int32.ofNat (o i0), le, la, Int32.ofNat n, mem e true F1 L g) ∧ ((m0 = o i0 ∧ n = 0 ∧ le = Int32.ofNat (o i0)) ∨ (∃ ic, ic < i0 ∧ le = Int32.ofNat (o ic) ∧ n ≤ o ic ∧ isN K q (j + 1) (o ic) (o ic) ∧ agr K q j (o i0) (o ic) ∧ ∀ i', i' < i0 → o i' < o ic → isN K q (j + 1) (o i') (o i') → agr K q j (o i0) (o i') → ¬ sw K (q j) (o i') (o i0)) ∨ (le = -1 ∧ ∃ il, il < i0 ∧ la = Int32.ofNat (o il) ∧ isN K q (j + 1) (o il) (o il) ∧ agr K q j (o i0) (o il) ∧ F 184 (o il) = -1 ∧ ∀ i', i' < i0 → isN K q (j + 1) (o i') (o i') → agr K q j (o i0) (o i') → ¬ sw K (q j) (o i') (o i0)))) ?_ 402 _ ⟨0, _, _, rfl, by omega, rfl, ?_⟩
  rotate_left
  · by_cases e0 : m0 = o i0
    · left; exact ⟨e0, rfl, by rw [e0]⟩
    · right; left
      -- the old leader is open and has been looked at
      have hdm := hN0.1
      rcases ho3 m0 hdm with ⟨ic, hic, hoc⟩ | hal
      · have hic0 : ic < i0 := by
          apply Nat.lt_of_not_le
          intro hle
          rcases Nat.lt_or_eq_of_le hle with h1 | h1
          · have := ho2 i0 ic h1 hic; omega
          · subst h1; exact e0 hoc.symm
        refine ⟨ic, hic0, by rw [hoc], Nat.zero_le _, ?_, by rw [hoc]; exact hN0.2.1, fun i' hi' hl hs' ha => ?_⟩
        · rw [hoc]
          exact ⟨hdm, agr_refl _ _, fun m' h1 h2 h3 => hN0.2.2 m' h1 h2 (agr_trans hN0.2.1 (agr_succ.mp h3).1)⟩
        · rw [hoc] at hl
          exact absurd ha (hN0.2.2 _ hl hs'.1)
      · exact absurd (hal _ hs (agr_symm hN0.2.1)).symm e0
  rintro mm a cc ⟨n, le, la, rfl, hn, rfl, hJ⟩ hk
  unfold wp_Likeness_findLeader_19_b; dsimp only
  rcases hJ with ⟨a1, rfl, rfl⟩ | ⟨ic, c1, rfl, c3, c4, c5, c6⟩ | ⟨rfl, il, d1, rfl, d3, d4, d5, d6⟩
  · -- the lowest of its class
    refine ⟨fun hc => ?_, fun _ => ⟨fun hc => ?_, fun _ => ?_⟩⟩
    · exact absurd hc (by decide)
    · exact absurd (n_inj (b := 4294967295) (by omega) (by decide) hc) (by omega)
    · repeat (first | ((with_reducible show ∃ _, _ ∧ _); first | refine s_fI (by rfl) (by rfl) (by rfl) ?_ | refine s_fR (by rfl) (by rfl) (by rfl) ?_ | refine s_pV (by rfl) (by rfl) (Nat.le_of_ble_eq_true rfl) (by rfl) ?_) | ((with_reducible show xcls _ _ _ ∧ _); refine s_cls (by rfl) (by rfl) ?_))
      refine s_aI (i := o i0) (by rfl) (by rfl) (by rfl) (by rfl) (by exact hs4) (by decide) ?_
      repeat (first | ((with_reducible show ∃ _, _ ∧ _); first | refine s_fI (by rfl) (by rfl) (by rfl) ?_ | refine s_fR (by rfl) (by rfl) (by rfl) ?_ | refine s_pV (by rfl) (by rfl) (Nat.le_of_ble_eq_true rfl) (by rfl) ?_) | ((with_reducible show xcls _ _ _ ∧ _); refine s_cls (by rfl) (by rfl) ?_))
      refine s_aI (i := o i0) (by rfl) (by rfl) (by rfl) (by rfl) (by exact hs4) (by decide) ?_
      refine ⟨fun _ => ?_, fun hc => absurd rfl hc⟩
      unfold wp_Likeness_findLeader_62
      refine ⟨fun _ => ?_, fun hc => absurd (n_inj (b := 4294967295) (by omega) (by decide) hc) (by omega)⟩
      rw [a1] at hN0
      refine fin F1 (o i0) k1 ⟨hs, agr_refl _ _, fun m' h1 h2 h3 => hN0.2.2 m' h1 h2 (agr_succ.mp h3).1⟩ hs4 (keepC (fun _ i hi ha => hN0.2.2 (o i) (hlt i hi) (ho1 i (by omega)) (agr_symm ha)) F1 (fun i hi => by rw [z1, if_neg (hnp i hi)])) (by rw [z1, if_pos rfl])
  · have hc4 := c4.1.1
    refine ⟨fun hc => ?_, fun _ => ⟨fun hc => ?_, fun _ => ?_⟩⟩
    · rw [n_lit, n_le (by decide) (by omega)] at hc; omega
    · exact absurd (n_inj (b := 4294967295) (by omega) (by decide) hc) (by omega)
    · repeat (first | ((with_reducible show ∃ _, _ ∧ _); first | refine s_fI (by rfl) (by rfl) (by rfl) ?_ | refine s_fR (by rfl) (by rfl) (by rfl) ?_ | refine s_pV (by rfl) (by rfl) (Nat.le_of_ble_eq_true rfl) (by rfl) ?_) | ((with_reducible show xcls _ _ _ ∧ _); refine s_cls (by rfl) (by rfl) ?_))
      refine s_aI (i := o ic) (by rfl) (by rfl) (by rfl) (by rfl) (by exact hc4) (by decide) ?_
      repeat (first | ((with_reducible show ∃ _, _ ∧ _); first | refine s_fI (by rfl) (by rfl) (by rfl) ?_ | refine s_fR (by rfl) (by rfl) (by rfl) ?_ | refine s_pV (by rfl) (by rfl) (Nat.le_of_ble_eq_true rfl) (by rfl) ?_) | ((with_reducible show xcls _ _ _ ∧ _); refine s_cls (by rfl) (by rfl) ?_))
      refine s_aI (i := o i0) (by rfl) (by rfl) (by rfl) (by rfl) (by exact hs4) (by decide) ?_
      rw [k1 183 (by decide)]
      refine ⟨fun heq => ?_, fun hne => ?_⟩
      · have hsw := (weq ic c1).mp heq
        have hag : agr K q (j + 1) (o i0) (o ic) := agr_succ.mpr ⟨c5, fun x hx => (hsw x hx).symm⟩
        have hN : isN K q (j + 1) (o i0) (o ic) := isN_agr c4 hag
        unfold wp_Likeness_findLeader_62
        refine ⟨fun _ => ?_, fun hc => absurd (n_inj (b := 4294967295) (by omega) (by decide) hc) (by omega)⟩
        refine fin F1 (o ic) k1 hN hc4 (keepC (fun hself => absurd (isN_uniq hN hself) (hnp ic c1)) F1 (fun i hi => by rw [z1, if_neg (hnp i hi)])) (by rw [z1, if_pos rfl])
      · have hnsw : ¬ sw K (q j) (o ic) (o i0) := fun hh => hne ((weq ic c1).mpr hh)
        repeat (first | ((with_reducible show ∃ _, _ ∧ _); first | refine s_fI (by rfl) (by rfl) (by rfl) ?_ | refine s_fR (by rfl) (by rfl) (by rfl) ?_ | refine s_pV (by rfl) (by rfl) (Nat.le_of_ble_eq_true rfl) (by rfl) ?_) | ((with_reducible show xcls _ _ _ ∧ _); refine s_cls (by rfl) (by rfl) ?_))
        refine s_aI (i := o ic) (by rfl) (by rfl) (by rfl) (by rfl) (by exact hc4) (by decide) ?_
        rw [z1, if_neg (hnp ic c1)]
        rcases PC ic c1 c4 with ⟨b1, b2⟩ | ⟨i1, b1, b2, b3, b4, b5, b6⟩
        · refine hk (402 - (n + 1)) _ (by omega) ⟨n + 1, _, _, rfl, by omega, by rw [n_lit, n_add], Or.inr (Or.inr ⟨b1, ic, c1, rfl, c4, c5, b1, fun i' hi' hs' ha => ?_⟩)⟩
          rcases Nat.lt_trichotomy (o i') (o ic) with h1 | h1 | h1
          · exact c6 i' hi' h1 hs' ha
          · have := inj i' ic (by omega) (by omega) h1
            rw [this]; exact hnsw
          · exact absurd (agr_trans (agr_symm c5) ha) (b2 i' hi' h1 hs')
        · refine hk (402 - (n + 1)) _ (by omega) ⟨n + 1, _, _, rfl, by omega, by rw [n_lit, n_add], Or.inr (Or.inl ⟨i1, b1, b2, by omega, b4, agr_trans c5 b5, fun i' hi' hl hs' ha => ?_⟩)⟩
          rcases Nat.lt_trichotomy (o i') (o ic) with h1 | h1 | h1
          · exact c6 i' hi' h1 hs' ha
          · have := inj i' ic (by omega) (by omega) h1
            rw [this]; exact hnsw
          · exact absurd (agr_trans (agr_symm c5) ha) (b6 i' hi' h1 hl hs')
  · have hself : isN K q (j + 1) (o i0) (o i0) := by
      obtain ⟨m, hm⟩ := isN_ex (K := K) (q := q) (j := j + 1) hs
      have hms := isN_le hm hs
      by_cases e0 : m = o i0
      · rw [e0] at hm; exact hm
      · have hm2 := isN_self hm
        have haj := (agr_succ.mp hm.2.1).1
        rcases ho3 m hm.1 with ⟨ii, hii, hoi⟩ | hal
        · have hii0 : ii < i0 := by
            apply Nat.lt_of_not_le
            intro hle
            rcases Nat.lt_or_eq_of_le hle with h1 | h1
            · have := ho2 i0 ii h1 hii; omega
            · subst h1; exact e0 hoi.symm
          refine absurd (agr_succ.mp hm.2.1).2 (fun hsw => d6 ii hii0 (by rw [hoi]; exact hm2) (by rw [hoi]; exact haj) (fun x hx => ?_))
          rw [hoi]; exact (hsw x hx).symm
        · exact absurd (hal _ hs (agr_symm haj)).symm e0
    have hl4 := d3.1.1
    have done : wp_Likeness_findLeader_62 z Q (ad e 180) (Int32.ofNat (o i0)) (-1) (Int32.ofNat (o il)) (mem e true F1 L g) := by
      unfold wp_Likeness_findLeader_62
      refine ⟨fun hc => absurd rfl hc, fun _ => ?_⟩
      repeat (first | ((with_reducible show ∃ _, _ ∧ _); first | refine s_fI (by rfl) (by rfl) (by rfl) ?_ | refine s_fR (by rfl) (by rfl) (by rfl) ?_ | refine s_pV (by rfl) (by rfl) (Nat.le_of_ble_eq_true rfl) (by rfl) ?_) | ((with_reducible show xcls _ _ _ ∧ _); refine s_cls (by rfl) (by rfl) ?_))
      refine s_sI (i := o il) (by rfl) (by rfl) (by rfl) (by rfl) (by rfl) (by exact hl4) (by decide) ?_
      refine fin _ (o i0) (fun k hk => by rw [up_k hk, k1 k hk]) hself hs4 (fun i hi hsi => ?_) (by rw [up_i, if_neg (fun e0 => hnp il d1 e0.symm), z1, if_pos rfl])
      rw [up_i, z1, if_neg (hnp i hi)]
      by_cases ei : o i = o il
      · rw [if_pos ei]
        have := inj i il (by omega) (by omega) ei
        subst this
        right
        refine ⟨i0, by omega, rfl, hlt i hi, hself, agr_symm d4, fun i' hi' hl hl2 hs' => ?_⟩
        by_cases e1 : i' = i0
        · rw [e1] at hl2; omega
        · rcases PC i hi hsi with ⟨b1, b2⟩ | ⟨i1, b1, b2, b3, b4, b5, b6⟩
          · exact b2 i' (by omega) hl hs'
          · rw [d5] at b2
            have hb4 := b4.1.1
            exact absurd (n_inj (a := 4294967295) (by decide) (by omega) b2) (by omega)
      · rw [if_neg ei]
        rcases PC i hi hsi with ⟨b1, b2⟩ | ⟨i1, b1, b2, b3, b4, b5, b6⟩
        · left
          refine ⟨b1, fun i' hi' hl hs' => ?_⟩
          by_cases e1 : i' = i0
          · subst e1
            intro ha
            have hall : agr K q j (o i) (o il) := agr_trans ha d4
            rcases Nat.lt_trichotomy (o i) (o il) with h1 | h1 | h1
            · exact b2 il d1 h1 d3 hall
            · exact ei h1
            · rcases PC il d1 d3 with ⟨_, y2⟩ | ⟨i1, y1, y2, _, y4, _, _⟩
              · exact y2 i hi h1 hsi (agr_symm hall)
              · rw [d5] at y2
                have hb4 := y4.1.1
                exact absurd (n_inj (a := 4294967295) (by decide) (by omega) y2) (by omega)
          · exact b2 i' (by omega) hl hs'
        · right
          refine ⟨i1, by omega, b2, b3, b4, b5, fun i' hi' hl hl2 hs' => ?_⟩
          by_cases e1 : i' = i0
          · have := hlt i1 b1
            rw [e1] at hl2; omega
          · exact b6 i' (by omega) hl hl2 hs'
    exact ⟨fun _ => done, fun _ => ⟨fun _ => done, fun hc => absurd rfl hc⟩⟩
end
