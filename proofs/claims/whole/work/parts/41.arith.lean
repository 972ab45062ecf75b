/-! Ints that are numbers: Int32.ofNat as the normal form. -/
theorem n_lit (n : Nat) : (OfNat.ofNat n : Int32) = Int32.ofNat (OfNat.ofNat n : Nat) := rfl
theorem n_add (a b : Nat) : Int32.ofNat a + Int32.ofNat b = Int32.ofNat (a + b) := (Int32.ofNat_add a b).symm
theorem n_mul (a b : Nat) : Int32.ofNat a * Int32.ofNat b = Int32.ofNat (a * b) := (Int32.ofNat_mul a b).symm
theorem n_sub {a b : Nat} (h : b ≤ a) : Int32.ofNat a - Int32.ofNat b = Int32.ofNat (a - b) := (Int32.ofNat_sub a b h).symm
theorem n_le {a b : Nat} (ha : a < 2147483648) (hb : b < 2147483648) : Int32.ofNat a ≤ Int32.ofNat b ↔ a ≤ b := Int32.ofNat_le_iff_le ha hb
theorem n_lt {a b : Nat} (ha : a < 2147483648) (hb : b < 2147483648) : Int32.ofNat a < Int32.ofNat b ↔ a < b := Int32.ofNat_lt_iff_lt ha hb
theorem n_inj {a b : Nat} (ha : a < 4294967296) (hb : b < 4294967296) (h : Int32.ofNat a = Int32.ofNat b) : a = b := by
  have h2 : (Int32.ofNat a).toBitVec.toNat = (Int32.ofNat b).toBitVec.toNat := by rw [h]
  have e1 : (Int32.ofNat a).toBitVec.toNat = a % 2 ^ 32 := rfl
  have e2 : (Int32.ofNat b).toBitVec.toNat = b % 2 ^ 32 := rfl
  rw [e1, e2] at h2
  omega
theorem n_eq {a b : Nat} (ha : a < 4294967296) (hb : b < 4294967296) : Int32.ofNat a = Int32.ofNat b ↔ a = b := ⟨n_inj ha hb, fun h => by rw [h]⟩
theorem n_and (a b : Nat) : Int32.ofNat a &&& Int32.ofNat b = Int32.ofNat (a &&& b) := by
  apply Int32.toBitVec.inj
  show BitVec.ofNat 32 a &&& BitVec.ofNat 32 b = BitVec.ofNat 32 (a &&& b)
  exact (BitVec.ofNat_and ..).symm
theorem n_or (a b : Nat) : Int32.ofNat a ||| Int32.ofNat b = Int32.ofNat (a ||| b) := by
  apply Int32.toBitVec.inj
  show BitVec.ofNat 32 a ||| BitVec.ofNat 32 b = BitVec.ofNat 32 (a ||| b)
  exact (BitVec.ofNat_or ..).symm
theorem n_xor (a b : Nat) : Int32.ofNat a ^^^ Int32.ofNat b = Int32.ofNat (a ^^^ b) := by
  apply Int32.toBitVec.inj
  show BitVec.ofNat 32 a ^^^ BitVec.ofNat 32 b = BitVec.ofNat 32 (a ^^^ b)
  exact (BitVec.ofNat_xor ..).symm
theorem n_div {a b : Nat} (ha : a < 2147483648) (hb : b < 2147483648) : Int32.ofNat a / Int32.ofNat b = Int32.ofNat (a / b) := (Int32.ofNat_div ha hb).symm
theorem n_mod {a b : Nat} (ha : a < 2147483648) (hb : b < 2147483648) : Int32.ofNat a % Int32.ofNat b = Int32.ofNat (a % b) := (Int32.ofNat_mod ha hb).symm
theorem n_toNat (a : Nat) : (Int32.ofNat a).toBitVec.toNat = a % 4294967296 := rfl
theorem n_bv (a : Nat) : (Int32.ofNat a).toBitVec = BitVec.ofNat 32 a := rfl
theorem n_smod {s : Nat} (hs : s < 32) : ((Int32.ofNat s &&& 31).toBitVec.smod 32).toNat = s := by
  have h : ∀ s : Fin 32, ((Int32.ofNat s.1 &&& 31).toBitVec.smod 32).toNat = s.1 := by decide +kernel
  exact h ⟨s, hs⟩
theorem n_shr {a s : Nat} (ha : a < 2147483648) (hs : s < 32) : Int32.ofNat a >>> (Int32.ofNat s &&& 31) = Int32.ofNat (a / 2 ^ s) := by
  apply Int32.toBitVec.inj
  show (BitVec.ofNat 32 a).sshiftRight ((Int32.ofNat s &&& 31).toBitVec.smod 32).toNat = BitVec.ofNat 32 (a / 2 ^ s)
  rw [n_smod hs]
  apply BitVec.eq_of_toNat_eq
  have hm : (BitVec.ofNat 32 a).msb = false := by
    rw [BitVec.msb_eq_decide, decide_eq_false_iff_not, BitVec.toNat_ofNat]
    omega
  rw [BitVec.toNat_sshiftRight_of_msb_false hm, BitVec.toNat_ofNat, BitVec.toNat_ofNat, Nat.shiftRight_eq_div_pow]
  have h1 : a / 2 ^ s ≤ a := Nat.div_le_self a _
  rw [Nat.mod_eq_of_lt (by omega), Nat.mod_eq_of_lt (by omega)]
theorem n_shl {a s : Nat} (hs : s < 32) : Int32.ofNat a <<< (Int32.ofNat s &&& 31) = Int32.ofNat (a * 2 ^ s) := by
  apply Int32.toBitVec.inj
  show (BitVec.ofNat 32 a) <<< ((Int32.ofNat s &&& 31).toBitVec.smod 32) = BitVec.ofNat 32 (a * 2 ^ s)
  rw [BitVec.shiftLeft_eq', n_smod hs]
  apply BitVec.eq_of_toNat_eq
  rw [BitVec.toNat_shiftLeft, BitVec.toNat_ofNat, BitVec.toNat_ofNat, Nat.shiftLeft_eq, Nat.mod_mul_mod]
/-- a bit of a word -/
def bt (x : Int32) (i : Nat) : Bool := x.toBitVec.getLsbD i
theorem bt_and (x y : Int32) (i : Nat) : bt (x &&& y) i = (bt x i && bt y i) := BitVec.getLsbD_and
theorem bt_or (x y : Int32) (i : Nat) : bt (x ||| y) i = (bt x i || bt y i) := BitVec.getLsbD_or
theorem bt_xor (x y : Int32) (i : Nat) : bt (x ^^^ y) i = (bt x i ^^ bt y i) := BitVec.getLsbD_xor
theorem bt_zero (i : Nat) : bt 0 i = false := BitVec.getLsbD_zero
theorem bt_neg1 {b i : Nat} (hb : b < 2) (hi : i < 32) : bt (-(Int32.ofNat b)) i = decide (b = 1) := by
  have h : ∀ b : Fin 2, ∀ i : Fin 32, bt (-(Int32.ofNat b.1)) i.1 = decide (b.1 = 1) := by decide +kernel
  exact h ⟨b, hb⟩ ⟨i, hi⟩
theorem bt_ext {x y : Int32} (h : ∀ i, i < 32 → bt x i = bt y i) : x = y := Int32.toBitVec.inj (BitVec.eq_of_getLsbD_eq (fun i hi => h i hi))
theorem bt_nat (a i : Nat) (hi : i < 32) : bt (Int32.ofNat a) i = a.testBit i := by
  show (BitVec.ofNat 32 a).getLsbD i = _
  rw [BitVec.getLsbD_ofNat]
  simp [hi]
theorem bt_shr1 (x : Int32) {s : Nat} (hs : s < 32) : (x >>> (Int32.ofNat s &&& 31)) &&& 1 = Int32.ofNat (bt x s).toNat := by
  apply bt_ext
  intro i hi
  rw [bt_and, bt_nat _ _ hi, show (1 : Int32) = Int32.ofNat 1 from rfl, bt_nat _ _ hi]
  by_cases h0 : i = 0
  · subst h0
    show ((x.toBitVec.sshiftRight ((Int32.ofNat s &&& 31).toBitVec.smod 32).toNat).getLsbD 0 && _) = _
    rw [n_smod hs, BitVec.getLsbD_sshiftRight]
    show _ = (Bool.toNat (x.toBitVec.getLsbD s)).testBit 0
    cases hb : x.toBitVec.getLsbD s <;> rw [BitVec.getLsbD_eq_getElem hs] at hb <;> simp [hb, hs]
  · have h1 : Nat.testBit 1 i = false := Bool.eq_false_iff.mpr (fun h => h0 (Nat.testBit_one_eq_true_iff_self_eq_zero.mp h))
    cases bt x s <;> simp [h1, h0]
