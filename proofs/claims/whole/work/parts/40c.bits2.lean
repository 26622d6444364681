/-! BITS, further: a bit read, a bit set, a set without another -/
theorem tbI {a k : Nat} (ha : a < 2147483648) (hk : k < 32) : andI (ushrI a k) 1 = if a.testBit k then 1 else 0 := by
  rw [ushrI_n ha hk, show andI ((a / 2 ^ k : Nat) : Int) 1 = ((a / 2 ^ k &&& 1 : Nat) : Int) from andI_n 1 (Nat.lt_of_le_of_lt (Nat.div_le_self ..) ha), bit_n]
  split <;> rfl
theorem tbIs {a k : Nat} (ha : a < 2147483648) (hk : k < 32) : andI (shrI a k) 1 = if a.testBit k then 1 else 0 := by
  rw [shrI_n ha hk, show andI ((a / 2 ^ k : Nat) : Int) 1 = ((a / 2 ^ k &&& 1 : Nat) : Int) from andI_n 1 (Nat.lt_of_le_of_lt (Nat.div_le_self ..) ha), bit_n]
  split <;> rfl
theorem tbL {a k : Nat} (ha : a < 9223372036854775808) (hk : k < 64) : andL (ushrL a k) 1 = if a.testBit k then 1 else 0 := by
  rw [ushrL_n ha hk, show andL ((a / 2 ^ k : Nat) : Int) 1 = ((a / 2 ^ k &&& 1 : Nat) : Int) from andL_n 1 (Nat.lt_of_le_of_lt (Nat.div_le_self ..) ha), bit_n]
  split <;> rfl
theorem sbI {a k : Nat} (ha : a < 2147483648) (hk : k < 31) : orI a (shlI 1 k) = ((a ||| 2 ^ k : Nat) : Int) := by
  have h2 : 2 ^ k < 2147483648 := Nat.pow_lt_pow_right (a := 2) (n := 31) (by decide) hk
  have e : shlI 1 k = ((1 * 2 ^ k : Nat) : Int) := shlI_n (a := 1) (by omega) (by omega)
  rw [e, Nat.one_mul, orI_n ha h2]
theorem sbL {a k : Nat} (ha : a < 9223372036854775808) (hk : k < 63) : orL a (shlL 1 k) = ((a ||| 2 ^ k : Nat) : Int) := by
  have h2 : 2 ^ k < 9223372036854775808 := Nat.pow_lt_pow_right (a := 2) (n := 63) (by decide) hk
  have e : shlL 1 k = ((1 * 2 ^ k : Nat) : Int) := shlL_n (a := 1) (by omega) (by omega)
  rw [e, Nat.one_mul, orL_n ha h2]
theorem orI_0 {a : Nat} (ha : a < 2147483648) : orI a 0 = (a : Int) := by
  rw [show orI (a : Int) 0 = ((a ||| 0 : Nat) : Int) from orI_n (b := 0) ha (by decide), Nat.or_zero]
theorem or_tb (a k j : Nat) : (a ||| 2 ^ k).testBit j = (a.testBit j || decide (k = j)) := by
  rw [Nat.testBit_or, Nat.testBit_two_pow]
theorem or_bd {a k n : Nat} (ha : a < 2 ^ n) (hk : k < n) : a ||| 2 ^ k < 2 ^ n := Nat.or_lt_two_pow ha (Nat.pow_lt_pow_right (by decide) hk)
theorem andn_tb (a c j : Nat) : (a ^^^ (a &&& c)).testBit j = (a.testBit j && !c.testBit j) := by
  rw [Nat.testBit_xor, Nat.testBit_and]
  cases a.testBit j <;> cases c.testBit j <;> rfl
theorem andn_le (a c : Nat) : a ^^^ (a &&& c) ≤ a := by
  apply Nat.le_of_testBit
  intro i
  rw [andn_tb]
  cases a.testBit i <;> simp
theorem andnI {a : Nat} (c : Nat) (ha : a < 2147483648) : andI a (xorI c (-1)) = ((a ^^^ (a &&& c) : Nat) : Int) := by
  unfold andI xorI
  rw [Int32.ofInt_toInt, z_I, z_I]
  have e : nI a &&& (nI c ^^^ Int32.ofInt (-1)) = nI (a ^^^ (a &&& c)) := by
    apply Int32.toBitVec_inj.mp
    rw [Int32.toBitVec_and, Int32.toBitVec_xor, z_bI, z_bI, z_bI, show (Int32.ofInt (-1)).toBitVec = BitVec.allOnes 32 from rfl]
    apply BitVec.eq_of_getLsbD_eq
    intro i hi
    simp only [BitVec.getLsbD_and, BitVec.getLsbD_xor, BitVec.getLsbD_ofNat, BitVec.getLsbD_allOnes, Nat.testBit_xor, Nat.testBit_and, hi, decide_true, Bool.true_and]
    cases a.testBit i <;> cases c.testBit i <;> rfl
  rw [e, z_tI (Nat.lt_of_le_of_lt (andn_le a c) ha)]
theorem andnL {a : Nat} (c : Nat) (ha : a < 9223372036854775808) : andL a (xorL c (-1)) = ((a ^^^ (a &&& c) : Nat) : Int) := by
  unfold andL xorL
  rw [Int64.ofInt_toInt, z_L, z_L]
  have e : lN a &&& (lN c ^^^ Int64.ofInt (-1)) = lN (a ^^^ (a &&& c)) := by
    apply Int64.toBitVec_inj.mp
    rw [Int64.toBitVec_and, Int64.toBitVec_xor, z_bL, z_bL, z_bL, show (Int64.ofInt (-1)).toBitVec = BitVec.allOnes 64 from rfl]
    apply BitVec.eq_of_getLsbD_eq
    intro i hi
    simp only [BitVec.getLsbD_and, BitVec.getLsbD_xor, BitVec.getLsbD_ofNat, BitVec.getLsbD_allOnes, Nat.testBit_xor, Nat.testBit_and, hi, decide_true, Bool.true_and]
    cases a.testBit i <;> cases c.testBit i <;> rfl
  rw [e, z_tL (Nat.lt_of_le_of_lt (andn_le a c) ha)]
theorem andn_lt {a k : Nat} (h : a.testBit k = true) : a ^^^ (a &&& 2 ^ k) < a := by
  refine Nat.lt_of_le_of_ne (andn_le _ _) fun e => ?_
  have := andn_tb a (2 ^ k) k
  rw [e, h, Nat.testBit_two_pow_self] at this
  cases this
theorem clI {a k : Nat} (ha : a < 2147483648) (hk : k < 31) : andI a (xorI (shlI 1 k) (-1)) = ((a ^^^ (a &&& 2 ^ k) : Nat) : Int) := by
  have h2 : 2 ^ k < 2147483648 := Nat.pow_lt_pow_right (a := 2) (n := 31) (by decide) hk
  have e : shlI 1 k = ((1 * 2 ^ k : Nat) : Int) := shlI_n (a := 1) (by omega) (by omega)
  rw [e, Nat.one_mul, andnI _ ha]
