/-! The rest of the walk: the WITNESS is written down; explore. -/
theorem n_dec {n : Nat} (h : 1 ≤ n) : Int32.ofNat n + (-1) = Int32.ofNat (n - 1) := by
  rw [show Int32.ofNat n = Int32.ofNat (n - 1) + Int32.ofNat 1 by rw [n_add]; congr 1; omega]
  rw [Int32.add_assoc, show Int32.ofNat 1 + (-1 : Int32) = 0 from by decide, Int32.add_zero]
theorem WB.kept {F F' : Nat → Nat → Int32} {K : Nat → Nat → Nat → Nat} {t : Nat} (h5 : F' 170 5 = F 170 5) (h1 : F' 171 = F 171) (h2 : F' 172 = F 172) (h3 : F' 173 = F 173) (h : WB F K t) : WB F' K t := by
  unfold WB
  rw [h5, h1, h2, h3]
  exact h
theorem b_back {N : Nat → Nat → Nat} {W : Nat} (hN : ∀ p x, N p x < 4096) (hW : 0 < W) (hW2 : W ≤ 32) {t f : Nat} (hf : f < bn N W t) : ∀ k, k < bd N W t (bq N W t f) → ∃ i, i < bn N W t ∧ back (ba N W t) (bq N W t f) k = bq N W t i ∧ bd N W t (bq N W t i) + k = bd N W t (bq N W t f)
  | 0, _ => ⟨f, hf, rfl, rfl⟩
  | k + 1, hk => by
    obtain ⟨i, hi, hb, hd⟩ := b_back hN hW hW2 hf k (by omega)
    have inv := b_inv N W hN t
    have h0 : i ≠ 0 := fun e => by
      rw [e, inv.1.2.1, inv.1.2.2.1] at hd
      omega
    obtain ⟨u, u1, u2, u3, u4, u5, u6, u7⟩ := b_from N W hN t i (by omega) hi
    have := Nat.mod_lt u hW
    refine ⟨u / W, by omega, ?_, by omega⟩
    show ba N W t (back (ba N W t) (bq N W t f) k) / 32 = _
    rw [hb, u5]; omega
theorem b_d4 {N : Nat → Nat → Nat} {W : Nat} (hN : ∀ p x, N p x < 4096) {t : Nat} : ∀ j, j < bn N W t → bd N W t (bq N W t j) ≤ j + 1 := by
  intro j
  have inv := b_inv N W hN t
  induction j using Nat.strongRecOn with
  | ind j ih =>
    intro hj
    by_cases h0 : j = 0
    · rw [h0, inv.1.2.1, inv.1.2.2.1]; omega
    · obtain ⟨v, _, v2, _, _, _, v6, _⟩ := b_from N W hN t j (by omega) hj
      have := ih _ v2 (by omega)
      omega
theorem ba_lt {N : Nat → Nat → Nat} {W : Nat} (hN : ∀ p x, N p x < 4096) (hW : 0 < W) (hW2 : W ≤ 32) {t j : Nat} (h0 : 0 < j) (hj : j < bn N W t) : ba N W t (bq N W t j) < 131072 := by
  obtain ⟨u, u1, u2, u3, u4, u5, u6, u7⟩ := b_from N W hN t j h0 hj
  have := Nat.mod_lt u hW
  have := ((b_inv N W hN t).2.1 (u / W) (by omega)).2
  rw [u5]; omega
def tls (K : Nat → Nat → Nat → Nat) (p : Nat) : Prop := ∃ x, x < Wn K ∧ Tp K p x = true
def WV (F : Nat → Nat → Int32) (K : Nat → Nat → Nat → Nat) (d a : Nat → Nat) (p x b : Nat) : Prop :=
  (x < Wn K ∧ Tp K p x = true ∧ (∀ x', x' < x → Tp K p x' = false)) ∧ (b < K 0 0 3 ∧ Ul K p x b = true ∧ (∀ k, k < b → Ul K p x k = false)) ∧ F 170 6 = Int32.ofNat (d p) ∧ F 170 7 = Int32.ofNat b ∧ F 174 (d p - 1) = Int32.ofNat x ∧ (∀ k, k + 1 < d p → F 174 (d p - 2 - k) = Int32.ofNat (a (back a p k) % 32))
section
variable {e : xenv} {F : Nat → Nat → Int32} {L : Nat → Nat → Int64} {g : xh} {z : Nat → Nat} {K : Nat → Nat → Nat → Nat}
theorem v_traceBack {Q : xh → Prop} {t f : Nat} (hM : MK K) (hB : WB F K t) (hf : f < bn (Nx K) (Wn K) t) (h : ∀ F', (∀ k, k ≠ 174 → F' k = F k) → (∀ j, bd (Nx K) (Wn K) t (bq (Nx K) (Wn K) t f) ≤ j + 1 → F' 174 j = F 174 j) → (∀ k, k + 1 < bd (Nx K) (Wn K) t (bq (Nx K) (Wn K) t f) → F' 174 (bd (Nx K) (Wn K) t (bq (Nx K) (Wn K) t f) - 2 - k) = Int32.ofNat (ba (Nx K) (Wn K) t (back (ba (Nx K) (Wn K) t) (bq (Nx K) (Wn K) t f) k) % 32)) → Q (mem e true F' L g)) : wp_Walk_traceBack z Q (ad e 170) (Int32.ofNat (bq (Nx K) (Wn K) t f)) (mem e true F L g) := by
  have hWn := Wn_le hM
  have hN := Nx_lt hM
  have inv := b_inv (Nx K) (Wn K) hN t
  have hp4 := (inv.2.1 f hf).2
  have hd0 := (inv.2.1 f hf).1
  have hd4 := b_d4 hN f hf
  have hn4 := bn_le (Nx K) (Wn K) hN t
  unfold wp_Walk_traceBack
  repeat (first | ((with_reducible show ∃ _, _ ∧ _); first | refine s_fI (by rfl) (by rfl) (by rfl) ?_ | refine s_fR (by rfl) (by rfl) (by rfl) ?_ | refine s_pV (by rfl) (by rfl) (Nat.le_of_ble_eq_true rfl) (by rfl) ?_) | ((with_reducible show xcls _ _ _ ∧ _); refine s_cls (by rfl) (by rfl) ?_))
  refine s_aI (i := bq (Nx K) (Wn K) t f) (by rfl) (by rfl) (by rfl) (by rfl) (by exact hp4) (by decide) ?_
  rw [hB.2.2.1 _ hp4, if_neg hd0]
  unfold wp_Walk_traceBack_9
  have hb := b_back hN hWn.1 hWn.2 hf
  generalize hP : bq (Nx K) (Wn K) t f = P at *
  generalize hD : bd (Nx K) (Wn K) t P = D at *
  refine xloop_dn (fun m a => ∃ k F', m = D - 1 - k ∧ k ≤ D - 1 ∧ a = (ad e 170, Int32.ofNat (back (ba (Nx K) (Wn K) t) P k), Int32.ofNat (D - 1 - k), mem e true F' L g) ∧ (∀ q, q ≠ 174 → F' q = F q) ∧ (∀ j, D ≤ j + 1 → F' 174 j = F 174 j) ∧ (∀ k', k' < k → F' 174 (D - 2 - k') = Int32.ofNat (ba (Nx K) (Wn K) t (back (ba (Nx K) (Wn K) t) P k') % 32))) ?_ (D - 1) _ ⟨0, F, rfl, by omega, rfl, fun _ _ => rfl, fun _ _ => rfl, fun k' hk' => by omega⟩
  rintro m a cc ⟨k, F', rfl, hk1, rfl, g1, g2, g3⟩ hk
  unfold wp_Walk_traceBack_9_b; dsimp only
  refine ⟨fun hc => ?_, fun hc => ?_⟩ <;> rw [n_lit, n_le (by omega) (by decide)] at hc
  · have : k = D - 1 := by omega
    subst this
    exact h F' g1 g2 (fun k hk => g3 k (by omega))
  obtain ⟨i, hi, hbi, hdi⟩ := hb k (by omega)
  have hi0 : i ≠ 0 := fun e => by
    rw [e, inv.1.2.1, inv.1.2.2.1] at hdi
    omega
  have hba := ba_lt hN hWn.1 hWn.2 (by omega) hi
  have hq4 := (inv.2.1 i hi).2
  rw [← hbi] at hba hq4
  have hq0 : back (ba (Nx K) (Wn K) t) P k ≠ 0 := fun e => by
    rw [hbi] at e
    exact hi0 (inv.2.2.2 i 0 hi (by omega) (by rw [e, inv.1.2.1]))
  have har : F' 173 (back (ba (Nx K) (Wn K) t) P k) = Int32.ofNat (ba (Nx K) (Wn K) t (back (ba (Nx K) (Wn K) t) P k)) := by
    rw [g1 173 (by decide)]
    exact hB.2.2.2 _ hq4 (by rw [hbi]; exact (inv.2.1 i hi).1) hq0
  repeat (first | ((with_reducible show ∃ _, _ ∧ _); first | refine s_fI (by rfl) (by rfl) (by rfl) ?_ | refine s_fR (by rfl) (by rfl) (by rfl) ?_ | refine s_pV (by rfl) (by rfl) (Nat.le_of_ble_eq_true rfl) (by rfl) ?_) | ((with_reducible show xcls _ _ _ ∧ _); refine s_cls (by rfl) (by rfl) ?_))
  refine s_aI (i := back (ba (Nx K) (Wn K) t) P k) (by rfl) (by rfl) (by rfl) (by rfl) (by exact hq4) (by decide) ?_
  rw [har, show Int32.ofNat (ba (Nx K) (Wn K) t (back (ba (Nx K) (Wn K) t) P k)) - Int32.ofNat (ba (Nx K) (Wn K) t (back (ba (Nx K) (Wn K) t) P k)) / 32 * 32 = Int32.ofNat (ba (Nx K) (Wn K) t (back (ba (Nx K) (Wn K) t) P k) % 32) by rw [n_lit, n_div (by omega) (by decide), n_mul, n_sub (by omega)]; congr 1; omega]
  refine s_sI (i := D - 2 - k) (by rfl) (by rfl) (by rfl) (by rfl) (by rw [n_lit, n_sub (by omega)]; congr 1; omega) (by omega) (by decide) ?_
  repeat (first | ((with_reducible show ∃ _, _ ∧ _); first | refine s_fI (by rfl) (by rfl) (by rfl) ?_ | refine s_fR (by rfl) (by rfl) (by rfl) ?_ | refine s_pV (by rfl) (by rfl) (Nat.le_of_ble_eq_true rfl) (by rfl) ?_) | ((with_reducible show xcls _ _ _ ∧ _); refine s_cls (by rfl) (by rfl) ?_))
  refine s_aI (i := back (ba (Nx K) (Wn K) t) P k) (by rfl) (by rfl) (by rfl) (by rfl) (by exact hq4) (by decide) ?_
  rw [up_k (by decide), har]
  rintro v7 rfl
  refine hk (D - 1 - (k + 1)) _ (by omega) ⟨k + 1, _, rfl, by omega, by rw [n_dec (by omega), n_lit, n_div (by omega) (by decide)]; rfl, fun q hq => (up_k hq).trans (g1 q hq), fun j hj => by rw [up_i, if_neg (by omega)]; exact g2 j hj, fun k' hk' => ?_⟩
  rw [up_i]
  by_cases e0 : k' = k
  · rw [e0, if_pos rfl]
  · rw [if_neg (by omega)]; exact g3 k' (by omega)
theorem v_tryToTell {Q : xh → Prop} {t f : Nat} (hM : MK K) (hT : TB F K) (hB : WB F K t) (hf : f < bn (Nx K) (Wn K) t)
    (h0 : ¬ tls K (bq (Nx K) (Wn K) t f) → Q (mem e true F L g))
    (h1 : ∀ F' x b, tls K (bq (Nx K) (Wn K) t f) → (∀ k, k ≠ 170 → k ≠ 174 → F' k = F k) → (∀ j, j < 6 → F' 170 j = F 170 j) → WV F' K (bd (Nx K) (Wn K) t) (ba (Nx K) (Wn K) t) (bq (Nx K) (Wn K) t f) x b → Q (mem e true F' L g)) : wp_Walk_tryToTell z Q (ad e 170) (Int32.ofNat (bq (Nx K) (Wn K) t f)) (mem e true F L g) := by
  have hWn := Wn_le hM
  have hN := Nx_lt hM
  have inv := b_inv (Nx K) (Wn K) hN t
  have hp4 := (inv.2.1 f hf).2
  have hd0 := (inv.2.1 f hf).1
  have hd4 := b_d4 hN f hf
  have hn4 := bn_le (Nx K) (Wn K) hN t
  have hpr := bq_pr hM t hf
  unfold wp_Walk_tryToTell
  repeat (first | ((with_reducible show ∃ _, _ ∧ _); first | refine s_fI (by rfl) (by rfl) (by rfl) ?_ | refine s_fR (by rfl) (by rfl) (by rfl) ?_ | refine s_pV (by rfl) (by rfl) (Nat.le_of_ble_eq_true rfl) (by rfl) ?_) | ((with_reducible show xcls _ _ _ ∧ _); refine s_cls (by rfl) (by rfl) ?_))
  refine v_telling hM hT hpr (fun y hy => ?_)
  have per : ∀ p i, Tp K p i = Tp K p (i % Wn K) := fun p i => by
    unfold Tp Ul ou
    rw [va_per hM (c := 0) (by decide) _ i, va_per hM (c := 1) (by decide) _ i]
  refine ⟨fun hy0 => h0 ?_, fun hy0 => ?_⟩
  · rintro ⟨x, hx, ht⟩
    rw [← hy x (by omega), hy0, bt_zero] at ht
    cases ht
  -- the lowest bit
  obtain ⟨x0, hx0, hb0⟩ : ∃ x, x < 32 ∧ bt y x = true := by
    apply Classical.byContradiction
    intro hno
    apply hy0
    apply bt_ext
    intro i hi
    rw [bt_zero]
    cases hb : bt y i
    · rfl
    · exact absurd ⟨i, hi, hb⟩ hno
  obtain ⟨x, hx, hbx, hlow⟩ : ∃ x, x < 32 ∧ bt y x = true ∧ ∀ j, j < x → bt y j = false := by
    have key : ∀ m x0, x0 < m → x0 < 32 → bt y x0 = true → ∃ x, x < 32 ∧ bt y x = true ∧ ∀ j, j < x → bt y j = false := by
      intro m
      induction m with
      | zero => intro x0 h; omega
      | succ m ih =>
        intro x0 hm hx0 hb0
        by_cases hex : ∃ j, j < x0 ∧ bt y j = true
        · obtain ⟨j, hj, hbj⟩ := hex
          exact ih j (by omega) (by omega) hbj
        · refine ⟨x0, hx0, hb0, fun j hj => ?_⟩
          cases hb : bt y j
          · rfl
          · exact absurd ⟨j, hj, hb⟩ hex
    exact key (x0 + 1) x0 (by omega) hx0 hb0
  have hTx : Tp K (bq (Nx K) (Wn K) t f) x = true := by rw [← hy x hx]; exact hbx
  have hxW : x < Wn K := by
    have h2 : bt y (x % Wn K) = true := by
      have hm := Nat.mod_lt x hWn.1
      rw [hy _ (by omega), ← per]; exact hTx
    have h3 : ¬ x % Wn K < x := fun hlt => by rw [hlow _ hlt] at h2; cases h2
    have hm := Nat.mod_lt x hWn.1
    have := Nat.mod_le x (Wn K)
    omega
  refine v_ntz0 ?_
  rw [ntz_word hx hbx hlow]
  repeat (first | ((with_reducible show ∃ _, _ ∧ _); first | refine s_fI (by rfl) (by rfl) (by rfl) ?_ | refine s_fR (by rfl) (by rfl) (by rfl) ?_ | refine s_pV (by rfl) (by rfl) (Nat.le_of_ble_eq_true rfl) (by rfl) ?_) | ((with_reducible show xcls _ _ _ ∧ _); refine s_cls (by rfl) (by rfl) ?_))
  refine v_lowestUnlike hM hT hpr hx hTx (fun b hb1 hb2 hb3 => ?_)
  repeat (first | ((with_reducible show ∃ _, _ ∧ _); first | refine s_fI (by rfl) (by rfl) (by rfl) ?_ | refine s_fR (by rfl) (by rfl) (by rfl) ?_ | refine s_pV (by rfl) (by rfl) (Nat.le_of_ble_eq_true rfl) (by rfl) ?_) | ((with_reducible show xcls _ _ _ ∧ _); refine s_cls (by rfl) (by rfl) ?_))
  refine s_aI (i := bq (Nx K) (Wn K) t f) (by rfl) (by rfl) (by rfl) (by rfl) (by exact hp4) (by decide) ?_
  rw [up_k (by decide), hB.2.2.1 _ hp4, if_neg hd0, show Int32.ofNat (bd (Nx K) (Wn K) t (bq (Nx K) (Wn K) t f) - 1) + 1 = Int32.ofNat (bd (Nx K) (Wn K) t (bq (Nx K) (Wn K) t f)) by rw [n_lit, n_add]; congr 1; omega]
  repeat (first | ((with_reducible show ∃ _, _ ∧ _); first | refine s_fI (by rfl) (by rfl) (by rfl) ?_ | refine s_fR (by rfl) (by rfl) (by rfl) ?_ | refine s_pV (by rfl) (by rfl) (Nat.le_of_ble_eq_true rfl) (by rfl) ?_) | ((with_reducible show xcls _ _ _ ∧ _); refine s_cls (by rfl) (by rfl) ?_))
  rw [up_i, if_pos rfl]
  refine s_sI (i := bd (Nx K) (Wn K) t (bq (Nx K) (Wn K) t f) - 1) (by rfl) (by rfl) (by rfl) (by rfl) (by rw [n_lit, n_sub (by omega)]) (by omega) (by decide) ?_
  repeat (first | ((with_reducible show ∃ _, _ ∧ _); first | refine s_fI (by rfl) (by rfl) (by rfl) ?_ | refine s_fR (by rfl) (by rfl) (by rfl) ?_ | refine s_pV (by rfl) (by rfl) (Nat.le_of_ble_eq_true rfl) (by rfl) ?_) | ((with_reducible show xcls _ _ _ ∧ _); refine s_cls (by rfl) (by rfl) ?_))
  refine v_traceBack hM ?_ hf (fun F' k1 k2 k3 => ?_)
  · exact WB.kept (by rw [up_k (by decide), up_i, if_neg (by decide), up_i, if_neg (by decide)]) (by rw [up_k (by decide), up_k (by decide), up_k (by decide)]) (by rw [up_k (by decide), up_k (by decide), up_k (by decide)]) (by rw [up_k (by decide), up_k (by decide), up_k (by decide)]) hB
  refine h1 F' x b ⟨x, hxW, hTx⟩ (fun k q1 q2 => by rw [k1 k q2, up_k q2, up_k q1, up_k q1]) (fun j hj => by rw [k1 170 (by decide), up_k (by decide), up_i, if_neg (by omega), up_i, if_neg (by omega)]) ⟨⟨hxW, hTx, fun x' hx' => by rw [← hy x' (by omega)]; exact hlow x' hx'⟩, ⟨hb1, hb2, hb3⟩, ?_, ?_, ?_, k3⟩
  · rw [k1 170 (by decide), up_k (by decide), up_i, if_pos rfl]
  · rw [k1 170 (by decide), up_k (by decide), up_i, if_neg (by decide), up_i, if_pos rfl]
  · rw [k2 _ (by omega), up_i, if_pos rfl]
/-- what the first i pairs of the queue told -/
def TL (F : Nat → Nat → Int32) (K : Nat → Nat → Nat → Nat) (t i : Nat) : Prop :=
  (F 170 6 = 0 ∧ F 170 7 = -1 ∧ ∀ j, j < i → ¬ tls K (bq (Nx K) (Wn K) t j)) ∨ (∃ f x b, f < i ∧ (∀ j, j < f → ¬ tls K (bq (Nx K) (Wn K) t j)) ∧ tls K (bq (Nx K) (Wn K) t f) ∧ WV F K (bd (Nx K) (Wn K) t) (ba (Nx K) (Wn K) t) (bq (Nx K) (Wn K) t f) x b)
theorem back_keep (hM : MK K) {t u f : Nat} (htu : t ≤ u) (hf : f < bn (Nx K) (Wn K) t) : ∀ k, k < bd (Nx K) (Wn K) t (bq (Nx K) (Wn K) t f) → back (ba (Nx K) (Wn K) u) (bq (Nx K) (Wn K) t f) k = back (ba (Nx K) (Wn K) t) (bq (Nx K) (Wn K) t f) k
  | 0, _ => rfl
  | k + 1, hk => by
    have hWn := Wn_le hM
    have hN := Nx_lt hM
    obtain ⟨i, hi, hb, hd⟩ := b_back hN hWn.1 hWn.2 hf k (by omega)
    show ba (Nx K) (Wn K) u (back (ba (Nx K) (Wn K) u) (bq (Nx K) (Wn K) t f) k) / 32 = ba (Nx K) (Wn K) t (back (ba (Nx K) (Wn K) t) (bq (Nx K) (Wn K) t f) k) / 32
    rw [back_keep hM htu hf k (by omega), hb, ba_keep (Nx K) (Wn K) htu ((b_inv (Nx K) (Wn K) hN t).2.1 i hi).1]
theorem TL.on {F' : Nat → Nat → Int32} (hM : MK K) {t u i : Nat} (htu : t ≤ u) (hi : i ≤ bn (Nx K) (Wn K) t) (hF : F' 174 = F 174 ∧ ∀ j, j ≠ 5 → F' 170 j = F 170 j) (h : TL F K t i) : TL F' K u i := by
  have hWn := Wn_le hM
  have hN := Nx_lt hM
  have inv := b_inv (Nx K) (Wn K) hN t
  rcases h with ⟨h1, h2, h3⟩ | ⟨f, x, b, hf, h1, h2, h3⟩
  · left
    refine ⟨by rw [hF.2 6 (by decide)]; exact h1, by rw [hF.2 7 (by decide)]; exact h2, fun j hj => ?_⟩
    rw [bq_keep (Nx K) (Wn K) htu (by omega)]; exact h3 j hj
  · right
    have hf' : f < bn (Nx K) (Wn K) t := by omega
    refine ⟨f, x, b, hf, fun j hj => ?_, ?_, ?_⟩
    · rw [bq_keep (Nx K) (Wn K) htu (by omega)]; exact h1 j hj
    · rw [bq_keep (Nx K) (Wn K) htu hf']; exact h2
    · rw [bq_keep (Nx K) (Wn K) htu hf']
      obtain ⟨p1, p2, p3, p4, p5, p6⟩ := h3
      have ed := bd_keep (Nx K) (Wn K) htu (inv.2.1 f hf').1
      refine ⟨p1, p2, ?_, ?_, ?_, fun k hk => ?_⟩
      · rw [hF.2 6 (by decide), ed]; exact p3
      · rw [hF.2 7 (by decide)]; exact p4
      · rw [hF.1, ed]; exact p5
      · rw [ed] at hk
        obtain ⟨i', hi', hb, hd⟩ := b_back hN hWn.1 hWn.2 hf' k (by omega)
        rw [hF.1, ed, back_keep hM htu hf' k (by omega), hb, ba_keep (Nx K) (Wn K) htu (inv.2.1 i' hi').1, ← hb]
        exact p6 k hk
/-- the walk as it is when it has been done -/
def WK (F : Nat → Nat → Int32) (K : Nat → Nat → Nat → Nat) : Prop := ∃ t, bn (Nx K) (Wn K) t * Wn K = t ∧ WB F K t ∧ TL F K t (bn (Nx K) (Wn K) t)
theorem v_wexplore {Q : xh → Prop} (hM : MK K) (hT : TB F K) (h : ∀ F', (∀ k, k < 170 ∨ 174 < k → F' k = F k) → WK F' K → Q (mem e true F' L g)) : wp_Walk_explore z Q (ad e 170) (mem e true F L g) := by
  have hWn := Wn_le hM
  have hN := Nx_lt hM
  unfold wp_Walk_explore
  repeat (first | ((with_reducible show ∃ _, _ ∧ _); first | refine s_fI (by rfl) (by rfl) (by rfl) ?_ | refine s_fR (by rfl) (by rfl) (by rfl) ?_ | refine s_pV (by rfl) (by rfl) (Nat.le_of_ble_eq_true rfl) (by rfl) ?_) | ((with_reducible show xcls _ _ _ ∧ _); refine s_cls (by rfl) (by rfl) ?_))
  refine v_fill1 (n := 4096) (by rfl) (fun _ => rfl) (by decide) (fun F0 k0 z0 => ?_)
  repeat (first | ((with_reducible show ∃ _, _ ∧ _); first | refine s_fI (by rfl) (by rfl) (by rfl) ?_ | refine s_fR (by rfl) (by rfl) (by rfl) ?_ | refine s_pV (by rfl) (by rfl) (Nat.le_of_ble_eq_true rfl) (by rfl) ?_) | ((with_reducible show xcls _ _ _ ∧ _); refine s_cls (by rfl) (by rfl) ?_))
  refine s_sI (i := 0) (by rfl) (by rfl) (by rfl) (by rfl) (by rfl) (by decide) (by decide) ?_
  repeat (first | ((with_reducible show ∃ _, _ ∧ _); first | refine s_fI (by rfl) (by rfl) (by rfl) ?_ | refine s_fR (by rfl) (by rfl) (by rfl) ?_ | refine s_pV (by rfl) (by rfl) (Nat.le_of_ble_eq_true rfl) (by rfl) ?_) | ((with_reducible show xcls _ _ _ ∧ _); refine s_cls (by rfl) (by rfl) ?_))
  refine s_sI (i := 0) (by rfl) (by rfl) (by rfl) (by rfl) (by rfl) (by decide) (by decide) ?_
  repeat (first | ((with_reducible show ∃ _, _ ∧ _); first | refine s_fI (by rfl) (by rfl) (by rfl) ?_ | refine s_fR (by rfl) (by rfl) (by rfl) ?_ | refine s_pV (by rfl) (by rfl) (Nat.le_of_ble_eq_true rfl) (by rfl) ?_) | ((with_reducible show xcls _ _ _ ∧ _); refine s_cls (by rfl) (by rfl) ?_))
  unfold wp_Walk_explore_39
  refine xloop_dn (fun m a => ∃ i F', m = 4096 - i ∧ i ≤ bn (Nx K) (Wn K) (i * Wn K) ∧ a = (ad e 170, Int32.ofNat i, mem e true F' L g) ∧ (∀ k, k < 170 ∨ 174 < k → F' k = F k) ∧ WB F' K (i * Wn K) ∧ TL F' K (i * Wn K) i) ?_ 4096 _ ⟨0, _, rfl, Nat.zero_le _, rfl, fun k hk => ?_, ?_, ?_⟩
  rotate_left
  · rw [up_k (by omega), up_k (by omega), up_k (by omega), up_k (by omega), up_k (by omega), k0 k (by omega)]
  · rw [Nat.zero_mul]
    refine ⟨?_, fun i hi => ?_, fun p hp => ?_, fun p hp hd0 hp0 => ?_⟩
    · rw [up_i, if_neg (by decide), up_i, if_neg (by decide), up_i, if_pos rfl]; rfl
    · have hi : i < 1 := hi
      rw [up_k (by decide), up_k (by decide), up_k (by decide), up_i, if_pos (by omega)]; rfl
    · rw [up_k (by decide), up_k (by decide), up_k (by decide), up_k (by decide), up_i]
      by_cases e0 : p = 0
      · have hb : bd (Nx K) (Wn K) 0 p = 1 := by show (if p = 0 then 1 else 0) = 1; rw [if_pos e0]
        rw [if_pos e0, hb]; rfl
      · have hb : bd (Nx K) (Wn K) 0 p = 0 := by show (if p = 0 then 1 else 0) = 0; rw [if_neg e0]
        rw [if_neg e0, hb, if_pos rfl, z0 p hp]
    · have hd0 : (if p = 0 then 1 else 0) ≠ 0 := hd0
      rw [if_neg hp0] at hd0
      exact absurd rfl hd0
  · rw [Nat.zero_mul]
    left
    refine ⟨?_, ?_, fun j hj => by omega⟩
    · rw [up_i, if_neg (by decide), up_i, if_pos rfl]
    · rw [up_i, if_pos rfl]
  rintro m a cc ⟨i, F', rfl, hi1, rfl, g1, g2, g3⟩ hk
  have hn4 := bn_le (Nx K) (Wn K) hN (i * Wn K)
  unfold wp_Walk_explore_39_b; dsimp only
  repeat (first | ((with_reducible show ∃ _, _ ∧ _); first | refine s_fI (by rfl) (by rfl) (by rfl) ?_ | refine s_fR (by rfl) (by rfl) (by rfl) ?_ | refine s_pV (by rfl) (by rfl) (Nat.le_of_ble_eq_true rfl) (by rfl) ?_) | ((with_reducible show xcls _ _ _ ∧ _); refine s_cls (by rfl) (by rfl) ?_))
  rw [g2.1]
  refine ⟨fun hc => ?_, fun hc => ?_⟩ <;> rw [n_le (by omega) (by omega)] at hc
  · have : i = bn (Nx K) (Wn K) (i * Wn K) := by omega
    refine h F' g1 ⟨i * Wn K, by rw [← this], g2, by rw [← this]; exact g3⟩
  refine ⟨fun hc => ?_, fun hc => ?_⟩ <;> rw [n_lit, n_le (by decide) (by omega)] at hc
  · exact absurd hc (by omega)
  have hin : i < bn (Nx K) (Wn K) (i * Wn K) := by omega
  have hT' : TB F' K := TB.kept (fun k q1 q2 => g1 k (by omega)) hT
  have key : ∀ F2, (∀ k, k < 170 ∨ 174 < k → F2 k = F k) → WB F2 K (i * Wn K) → TL F2 K (i * Wn K) (i + 1) → wp_Walk_explore_71 z Q cc (ad e 170) (Int32.ofNat i) (mem e true F2 L g) := by
    intro F2 p1 p2 p3
    unfold wp_Walk_explore_71
    repeat (first | ((with_reducible show ∃ _, _ ∧ _); first | refine s_fI (by rfl) (by rfl) (by rfl) ?_ | refine s_fR (by rfl) (by rfl) (by rfl) ?_ | refine s_pV (by rfl) (by rfl) (Nat.le_of_ble_eq_true rfl) (by rfl) ?_) | ((with_reducible show xcls _ _ _ ∧ _); refine s_cls (by rfl) (by rfl) ?_))
    refine s_aI (i := i) (by rfl) (by rfl) (by rfl) (by rfl) (by omega) (by decide) ?_
    rw [p2.2.1 i hin]
    repeat (first | ((with_reducible show ∃ _, _ ∧ _); first | refine s_fI (by rfl) (by rfl) (by rfl) ?_ | refine s_fR (by rfl) (by rfl) (by rfl) ?_ | refine s_pV (by rfl) (by rfl) (Nat.le_of_ble_eq_true rfl) (by rfl) ?_) | ((with_reducible show xcls _ _ _ ∧ _); refine s_cls (by rfl) (by rfl) ?_))
    refine v_expand hM (TB.kept (fun k q1 q2 => p1 k (by omega)) hT) hin p2 (fun F3 r1 r2 r3 => ?_)
    have hstep : i * Wn K ≤ (i + 1) * Wn K := Nat.mul_le_mul_right _ (by omega)
    refine hk (4096 - (i + 1)) _ (by omega) ⟨i + 1, F3, rfl, Nat.le_trans hin (bn_mono (Nx K) (Wn K) hstep), by rw [n_lit, n_add], fun k hk => by rw [r1 k (by omega)]; exact p1 k hk, r3, ?_⟩
    exact TL.on hM hstep hin ⟨r1 174 (by decide), r2⟩ p3
  repeat (first | ((with_reducible show ∃ _, _ ∧ _); first | refine s_fI (by rfl) (by rfl) (by rfl) ?_ | refine s_fR (by rfl) (by rfl) (by rfl) ?_ | refine s_pV (by rfl) (by rfl) (Nat.le_of_ble_eq_true rfl) (by rfl) ?_) | ((with_reducible show xcls _ _ _ ∧ _); refine s_cls (by rfl) (by rfl) ?_))
  rcases g3 with ⟨q1, q2, q3⟩ | ⟨f, x, b, q1, q2, q3, q4⟩
  · rw [q1]
    refine ⟨fun h => absurd rfl h, fun _ => ?_⟩
    repeat (first | ((with_reducible show ∃ _, _ ∧ _); first | refine s_fI (by rfl) (by rfl) (by rfl) ?_ | refine s_fR (by rfl) (by rfl) (by rfl) ?_ | refine s_pV (by rfl) (by rfl) (Nat.le_of_ble_eq_true rfl) (by rfl) ?_) | ((with_reducible show xcls _ _ _ ∧ _); refine s_cls (by rfl) (by rfl) ?_))
    refine s_aI (i := i) (by rfl) (by rfl) (by rfl) (by rfl) (by omega) (by decide) ?_
    rw [g2.2.1 i hin]
    repeat (first | ((with_reducible show ∃ _, _ ∧ _); first | refine s_fI (by rfl) (by rfl) (by rfl) ?_ | refine s_fR (by rfl) (by rfl) (by rfl) ?_ | refine s_pV (by rfl) (by rfl) (Nat.le_of_ble_eq_true rfl) (by rfl) ?_) | ((with_reducible show xcls _ _ _ ∧ _); refine s_cls (by rfl) (by rfl) ?_))
    refine v_tryToTell hM hT' g2 hin (fun hno => key F' g1 g2 ?_) (fun F2 x b ht r1 r2 r3 => key F2 (fun k hk => ?_) ?_ ?_)
    · left
      refine ⟨q1, q2, fun j hj => ?_⟩
      by_cases e0 : j = i
      · rw [e0]; exact hno
      · exact q3 j (by omega)
    · rw [r1 k (by omega) (by omega)]; exact g1 k hk
    · unfold WB
      rw [r1 171 (by decide) (by decide), r1 172 (by decide) (by decide), r1 173 (by decide) (by decide), r2 5 (by decide)]
      exact g2
    · right
      exact ⟨i, x, b, by omega, q3, ht, r3⟩
  · have hd := ((b_inv (Nx K) (Wn K) hN (i * Wn K)).2.1 f (by omega)).1
    have hd4 := b_d4 hN (t := i * Wn K) (W := Wn K) f (by omega)
    refine ⟨fun _ => key F' g1 g2 (Or.inr ⟨f, x, b, by omega, q2, q3, q4⟩), fun h => ?_⟩
    rw [q4.2.2.1] at h
    exact absurd (n_inj (b := 0) (by omega) (by decide) h) hd
end
