/-! Numbers: ranges of ints, their sums and products; small sets as bits. (fb_ rows: out of the kit's laws/COUNTS.to-paste.) -/
theorem fb_rng (x : Int32) : -2147483648 ≤ x.toInt ∧ x.toInt < 2147483648 := by
  have h1 := Int32.le_toInt x
  have h2 := Int32.toInt_lt x
  omega
theorem fb_bmod {z : Int} (h1 : -2147483648 ≤ z) (h2 : z < 2147483648) : z.bmod (2 ^ 32) = z := by
  rw [Int.bmod_eq_of_le (by omega) (by omega)]
theorem fb_addI {x y : Int32} (h1 : -2147483648 ≤ x.toInt + y.toInt) (h2 : x.toInt + y.toInt < 2147483648) : (x + y).toInt = x.toInt + y.toInt := by
  rw [Int32.toInt_add, fb_bmod h1 h2]
theorem fb_subI {x y : Int32} (h1 : -2147483648 ≤ x.toInt - y.toInt) (h2 : x.toInt - y.toInt < 2147483648) : (x - y).toInt = x.toInt - y.toInt := by
  rw [Int32.toInt_sub, fb_bmod h1 h2]
theorem fb_mulI {x y : Int32} (h1 : -2147483648 ≤ x.toInt * y.toInt) (h2 : x.toInt * y.toInt < 2147483648) : (x * y).toInt = x.toInt * y.toInt := by
  rw [Int32.toInt_mul, fb_bmod h1 h2]
theorem fb_negI {x : Int32} (h : x.toInt ≠ -2147483648) : (-x).toInt = -x.toInt := by
  have := fb_rng x
  rw [Int32.toInt_neg, fb_bmod (by omega) (by omega)]
theorem fb_ofI {z : Int} (h1 : -2147483648 ≤ z) (h2 : z < 2147483648) : (Int32.ofInt z).toInt = z := by
  rw [Int32.toInt_ofInt, fb_bmod h1 h2]
theorem fb_asI (x : Int32) : Int32.ofInt x.toInt = x := Int32.ofInt_toInt x
theorem fb_rngL (x : Int64) : -9223372036854775808 ≤ x.toInt ∧ x.toInt < 9223372036854775808 := by
  have h1 := Int64.le_toInt x
  have h2 := Int64.toInt_lt x
  omega
theorem fb_bmodL {z : Int} (h1 : -9223372036854775808 ≤ z) (h2 : z < 9223372036854775808) : z.bmod (2 ^ 64) = z := by
  rw [Int.bmod_eq_of_le (by omega) (by omega)]
theorem fb_addL {x y : Int64} (h1 : -9223372036854775808 ≤ x.toInt + y.toInt) (h2 : x.toInt + y.toInt < 9223372036854775808) : (x + y).toInt = x.toInt + y.toInt := by
  rw [Int64.toInt_add, fb_bmodL h1 h2]
theorem fb_subL {x y : Int64} (h1 : -9223372036854775808 ≤ x.toInt - y.toInt) (h2 : x.toInt - y.toInt < 9223372036854775808) : (x - y).toInt = x.toInt - y.toInt := by
  rw [Int64.toInt_sub, fb_bmodL h1 h2]
theorem fb_mulL {x y : Int64} (h1 : -9223372036854775808 ≤ x.toInt * y.toInt) (h2 : x.toInt * y.toInt < 9223372036854775808) : (x * y).toInt = x.toInt * y.toInt := by
  rw [Int64.toInt_mul, fb_bmodL h1 h2]
abbrev Rg (x : Int32) (a b : Int) : Prop := a ≤ x.toInt ∧ x.toInt ≤ b
theorem gI_le (a b : Int32) : a ≤ b ↔ a.toInt ≤ b.toInt := Int32.le_iff_toInt_le
theorem gI_lt (a b : Int32) : a < b ↔ a.toInt < b.toInt := Int32.lt_iff_toInt_lt
theorem gI_eq (a b : Int32) : a = b ↔ a.toInt = b.toInt := ⟨fun h => by rw [h], fun h => Int32.toInt_inj.mp h⟩
theorem gmul_bd {a b A B : Int} (h1 : -A ≤ a) (h2 : a ≤ A) (h3 : -B ≤ b) (h4 : b ≤ B) : -(A * B) ≤ a * b ∧ a * b ≤ A * B := by
  have hA : 0 ≤ A := by omega
  have hB : 0 ≤ B := by omega
  have e1 : a.natAbs ≤ A.natAbs := by omega
  have e2 : b.natAbs ≤ B.natAbs := by omega
  have e3 : (a * b).natAbs ≤ (A * B).natAbs := by
    rw [Int.natAbs_mul, Int.natAbs_mul]
    exact Nat.mul_le_mul e1 e2
  have e4 : 0 ≤ A * B := Int.mul_nonneg hA hB
  omega
theorem Rg.add {x y : Int32} {a b c d : Int} (hx : Rg x a b) (hy : Rg y c d) (h1 : -2147483648 ≤ a + c) (h2 : b + d < 2147483648) : (x + y).toInt = x.toInt + y.toInt ∧ Rg (x + y) (a + c) (b + d) := by
  have e := fb_addI (x := x) (y := y) (by omega) (by omega)
  exact ⟨e, by omega, by omega⟩
theorem Rg.sub {x y : Int32} {a b c d : Int} (hx : Rg x a b) (hy : Rg y c d) (h1 : -2147483648 ≤ a - d) (h2 : b - c < 2147483648) : (x - y).toInt = x.toInt - y.toInt ∧ Rg (x - y) (a - d) (b - c) := by
  have e := fb_subI (x := x) (y := y) (by omega) (by omega)
  exact ⟨e, by omega, by omega⟩
theorem Rg.mul {x y : Int32} {A B : Int} (hx : Rg x (-A) A) (hy : Rg y (-B) B) (h : A * B < 2147483648) : (x * y).toInt = x.toInt * y.toInt ∧ Rg (x * y) (-(A * B)) (A * B) := by
  obtain ⟨b1, b2⟩ := gmul_bd hx.1 hx.2 hy.1 hy.2
  have e := fb_mulI (x := x) (y := y) (by omega) (by omega)
  exact ⟨e, by omega, by omega⟩
theorem Rg.wide {x : Int32} {a b c d : Int} (h : Rg x a b) (h1 : c ≤ a) (h2 : b ≤ d) : Rg x c d := ⟨Int.le_trans h1 h.1, Int.le_trans h.2 h2⟩
theorem nI_rg {n : Nat} {b : Int} (h : (n : Int) ≤ b) (hb : b < 2147483648) : Rg (nI n) 0 b := by
  have e := nI_toInt (n := n) (by omega)
  exact ⟨by omega, by omega⟩
theorem nI_lit (n : Nat) : (OfNat.ofNat n : Int32) = nI n := rfl
/-- a set of numbers below n as bits -/
def bset (p : Nat → Bool) : Nat → Nat
  | 0 => 0
  | n + 1 => bset p n ||| (if p n then 2 ^ n else 0)
theorem bset_test (p : Nat → Bool) : ∀ (n i : Nat), (bset p n).testBit i = (decide (i < n) && p i)
  | 0, i => by simp [bset]
  | n + 1, i => by
    rw [bset, Nat.testBit_or, bset_test p n i]
    by_cases h : p n = true
    · rw [if_pos h, Nat.testBit_two_pow]
      by_cases hi : n = i
      · subst hi
        simp [h]
      · have h1 : (i < n + 1) ↔ (i < n) := by omega
        simp [hi, h1]
    · rw [if_neg h, Nat.zero_testBit]
      by_cases hi : n = i
      · subst hi
        simp [h]
      · have h1 : (i < n + 1) ↔ (i < n) := by omega
        simp [h1]
theorem bset_lt (p : Nat → Bool) (n : Nat) : bset p n < 2 ^ n := by
  apply Nat.lt_pow_two_of_testBit
  intro i hi
  rw [bset_test]
  simp
  omega
theorem nI_or (a b : Nat) : nI a ||| nI b = nI (a ||| b) := by
  unfold nI
  rw [← Int32.toBitVec_inj]
  simp only [Int32.toBitVec_or, Int32.toBitVec_ofNat]
  apply BitVec.eq_of_toNat_eq
  simp [BitVec.toNat_or, BitVec.toNat_ofNat, Nat.or_mod_two_pow]
theorem nI_and (a b : Nat) : nI a &&& nI b = nI (a &&& b) := by
  unfold nI
  rw [← Int32.toBitVec_inj]
  simp only [Int32.toBitVec_and, Int32.toBitVec_ofNat]
  apply BitVec.eq_of_toNat_eq
  simp [BitVec.toNat_and, BitVec.toNat_ofNat, Nat.and_mod_two_pow]
/-- 1 << t, as the machine has it, for small t -/
theorem nI_shl1 : ∀ t : Nat, t < 31 → (1 : Int32) <<< (nI t &&& 31) = nI (2 ^ t) := by decide +kernel
theorem nI_bit {s t : Nat} (hs : s < 1024) (ht : t < 16) : ((nI s >>> (nI t &&& 31)) &&& 1 = 1) ↔ s.testBit t = true := by
  have key : ∀ s : Fin 1024, ∀ t : Fin 16, decide ((nI s.val >>> (nI t.val &&& 31)) &&& 1 = 1) = s.val.testBit t.val := by decide +kernel
  have h := key ⟨s, hs⟩ ⟨t, ht⟩
  rw [← h]
  simp
