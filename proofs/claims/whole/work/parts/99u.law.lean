/-! The loop of the law. -/
section
variable {e : xenv} {w : Bool} {F : Nat → Nat → Int32} {L : Nat → Nat → Int64} {g : xh} {z : Nat → Nat} {D : Nat → Option (Nat → Nat → Nat)} {sc : Nat → Int32} {mc ms kk nn i : Nat} {Q : Int32 → xh → Prop}
theorem v_law_b {k23 : Nat × Nat × Nat × Nat × Int32 × xh × Nat × Nat → Prop} (hI : INV z sc e w F L D) (h6 : 6 ≤ e.1.2) (hn : e.1.2 < 2 ^ 31) (hi : i < 2 ^ 31) (hmc : kk + 29 ≤ mc) (hms : nn + 58894 ≤ ms) (hQ : Q 1 (mem e w F L g))
    (hX : i + 5 < e.1.2 → NXT z sc e w g kk nn (fun h kk nn => k23 (ad e 80, ad e 60, ad e 100, ad e 83, Int32.ofNat (i + 6), h, kk, nn))) : wp_Law_law_23_b z mc ms Q k23 (ad e 80) (ad e 60) (ad e 100) (ad e 83) (Int32.ofNat i) (mem e w F L g) kk nn := by
  unfold wp_Law_law_23_b
  refine s_aN (k := 80) (t := 0) (by rfl) (by rfl) (by rfl) (by rfl) ?_
  rintro v1 rfl
  refine ⟨fun _ => hQ, fun hc0 => ?_⟩
  rw [show (6 : Int32) = Int32.ofNat 6 from rfl, n_sub h6, n_lt (by omega) hi] at hc0
  have hi5 : i + 5 < e.1.2 := by omega
  have hX2 : NXT z sc e w g kk nn (fun h kk nn => wp_Law_law_1074 z mc ms Q k23 (ad e 80) (ad e 60) (ad e 100) (ad e 83) (Int32.ofNat i) h kk nn) := by
    intro e' w' F' L' D' kk' nn' a1 a2 a3
    have := hX hi5 e' w' F' L' D' kk' nn' a1 a2 a3
    unfold wp_Law_law_1074
    rw [show (6 : Int32) = Int32.ofNat 6 from rfl, n_add]
    exact this
  have h80 := hI.2.2.2.2.2.2.2.2.2.2
  refine rd8 (sc := sc) (i := i) h80 rfl (by omega) hn ?_
  refine ⟨fun _ => st_0 hI hi5 hn hX2, fun _ => ⟨fun _ => st_1 hI hi5 hn hX2, fun _ => ⟨fun _ => st_2 hI hi5 hn hX2 hmc hms, fun _ => ⟨fun _ => st_3 hI hi5 hn hX2, fun _ => ⟨fun _ => st_4 hI hi5 hn hX2, fun _ => ⟨fun _ => st_5 hI hi5 hn hX2, fun _ => ⟨fun _ => st_6 hI hi5 hn hX2, fun _ => ⟨fun _ => st_7 hI hi5 hn hX2, fun _ => ⟨fun _ => st_8 hI hi5 hn hX2, fun _ => ⟨fun _ => st_9 hI hi5 hn hX2, fun _ => ?_⟩⟩⟩⟩⟩⟩⟩⟩⟩⟩
  refine ⟨fun _ => st_10 hI hi5 hn hX2 hmc hms, fun _ => ⟨fun _ => st_11 hI hi5 hn hX2 hmc hms, fun _ => ⟨fun _ => st_12 hI hi5 hn hX2 hmc hms, fun _ => ⟨fun _ => st_13 hI hi5 hn hX2 hmc hms, fun _ => ⟨fun _ => st_14 hI hi5 hn hX2 hmc hms, fun _ => ⟨fun _ => st_15 hI hi5 hn hX2 hmc hms, fun _ => ⟨fun _ => st_16 hI hi5 hn hX2 hmc hms, fun _ => ⟨fun _ => st_17 hI hi5 hn hX2 hmc hms, fun _ => ⟨fun _ => st_18 hI hi5 hn hX2 hmc hms, fun _ => ⟨fun _ => st_19 hI hi5 hn hX2 hmc hms, fun _ => ?_⟩⟩⟩⟩⟩⟩⟩⟩⟩⟩
  exact ⟨fun _ => st_20 hI hi5 hn hX2 hmc hms, fun _ => hX2 e w F L D kk nn (eQ.refl e) hI bud_0⟩
/-- what has been spent when i ints have been read -/
def spent (w : Bool) (i a b kk nn : Nat) : Prop := kk ≤ a + i + (if w then 29 else 0) ∧ nn ≤ b + i + (if w then 58894 else 0)
theorem v_law {a b : Nat} (hI : INV z sc e w F L D) (hn : e.1.2 ≤ 3072) (h6 : 6 ≤ e.1.2) (hkk : spent w 0 a b kk nn) (ha : a + 3200 ≤ mc) (hb : b + 130000 ≤ ms) (hQ : ∀ h, Q 1 h) : wp_Law_law_23 z mc ms Q (ad e 80) (ad e 60) (ad e 100) (ad e 83) 0 (mem e w F L g) kk nn := by
  unfold wp_Law_law_23
  refine xloop_dn (fun m q => ∃ i e' w' F' L' D' kk nn, m = 3072 - i ∧ q = (ad e' 80, ad e' 60, ad e' 100, ad e' 83, Int32.ofNat i, mem e' w' F' L' g, kk, nn) ∧ e'.1.2 = e.1.2 ∧ INV z sc e' w' F' L' D' ∧ i ≤ 3072 ∧ spent w' i a b kk nn) ?_ 3072 _ ⟨0, e, w, F, L, D, kk, nn, rfl, rfl, rfl, hI, by decide, hkk⟩
  rintro m q k ⟨i, e', w', F', L', D', kk, nn, rfl, rfl, hen, hI', hi, hsp⟩ hk
  dsimp only
  have hsp' := hsp
  obtain ⟨s1, s2⟩ := hsp'
  have l1 : kk ≤ a + i + 29 := by cases w' <;> simp at s1 <;> omega
  have l2 : nn ≤ b + i + 58894 := by cases w' <;> simp at s2 <;> omega
  refine v_law_b hI' (by omega) (by omega) (by omega) (by omega) (by omega) (hQ _) (fun hi5 e2 w2 F2 L2 D2 kk2 nn2 a1 a2 a3 => ?_)
  refine hk (3072 - (i + 6)) _ (by omega) ⟨i + 6, e2, w2, F2, L2, D2, kk2, nn2, rfl, ?_, by rw [a1.1, hen], a2, by omega, ?_⟩
  · rw [a1.2.1, a1.2.2.1, a1.2.2.2.2.2.1, a1.2.2.2.2.2.2]
  · rcases a3 with ⟨rfl, b1, b2⟩ | ⟨rfl, rfl, b1, b2⟩
    · exact ⟨by omega, by omega⟩
    · simp only [Bool.false_eq_true, if_false] at s1 s2
      exact ⟨by simp only [if_true]; omega, by simp only [if_true]; omega⟩
end
