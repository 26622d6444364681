/-! BITS: the pure machine's bit operations over natural numbers; sets of places as numbers -/
theorem z_sl : ∀ n, n < 32 → ((nI n &&& 31).toBitVec.smod 32).toNat = n := by decide +kernel
theorem z_su : ∀ n, n < 32 → (((nI n).toUInt32 &&& Int32.toUInt32 31).toBitVec % 32).toNat = n := by decide +kernel
theorem z_ll : ∀ k, k < 64 → ((nI k).toInt64 &&& 63) = lN k := by decide +kernel
theorem z_lu : ∀ k, k < 64 → ((nI k).toInt64.toUInt64 &&& Int64.toUInt64 63) = UInt64.ofNat k := by decide +kernel
theorem z_sm : ∀ k, k < 64 → (BitVec.ofNat 64 k).smod 64 = BitVec.ofNat 64 k := by decide +kernel
theorem z_I (a : Nat) : Int32.ofInt (a : Int) = nI a := Int32.ofInt_eq_ofNat
theorem z_L (a : Nat) : Int64.ofInt (a : Int) = lN a := Int64.ofInt_eq_ofNat
theorem z_bI (a : Nat) : (nI a).toBitVec = BitVec.ofNat 32 a := rfl
theorem z_bL (a : Nat) : (lN a).toBitVec = BitVec.ofNat 64 a := rfl
theorem z_tI {n : Nat} (h : n < 2147483648) : (nI n).toInt = (n : Int) := nI_toInt h
theorem z_tL {n : Nat} (h : n < 9223372036854775808) : (lN n).toInt = (n : Int) := pk_lT h
theorem z_andI (a b : Nat) : nI a &&& nI b = nI (a &&& b) := by
  apply Int32.toBitVec_inj.mp
  rw [Int32.toBitVec_and, z_bI, z_bI, z_bI]
  exact (BitVec.ofNat_and ..).symm
theorem z_orI (a b : Nat) : nI a ||| nI b = nI (a ||| b) := by
  apply Int32.toBitVec_inj.mp
  rw [Int32.toBitVec_or, z_bI, z_bI, z_bI]
  exact (BitVec.ofNat_or ..).symm
theorem z_xorI (a b : Nat) : nI a ^^^ nI b = nI (a ^^^ b) := by
  apply Int32.toBitVec_inj.mp
  rw [Int32.toBitVec_xor, z_bI, z_bI, z_bI]
  exact (BitVec.ofNat_xor ..).symm
theorem z_andL (a b : Nat) : lN a &&& lN b = lN (a &&& b) := by
  apply Int64.toBitVec_inj.mp
  rw [Int64.toBitVec_and, z_bL, z_bL, z_bL]
  exact (BitVec.ofNat_and ..).symm
theorem z_orL (a b : Nat) : lN a ||| lN b = lN (a ||| b) := by
  apply Int64.toBitVec_inj.mp
  rw [Int64.toBitVec_or, z_bL, z_bL, z_bL]
  exact (BitVec.ofNat_or ..).symm
theorem z_xorL (a b : Nat) : lN a ^^^ lN b = lN (a ^^^ b) := by
  apply Int64.toBitVec_inj.mp
  rw [Int64.toBitVec_xor, z_bL, z_bL, z_bL]
  exact (BitVec.ofNat_xor ..).symm
theorem andI_n {a : Nat} (b : Nat) (ha : a < 2147483648) : andI a b = ((a &&& b : Nat) : Int) := by
  unfold andI
  rw [z_I, z_I, z_andI, z_tI (Nat.lt_of_le_of_lt Nat.and_le_left ha)]
theorem orI_n {a b : Nat} (ha : a < 2147483648) (hb : b < 2147483648) : orI a b = ((a ||| b : Nat) : Int) := by
  unfold orI
  rw [z_I, z_I, z_orI, z_tI (Nat.or_lt_two_pow (n := 31) ha hb)]
theorem andL_n {a : Nat} (b : Nat) (ha : a < 9223372036854775808) : andL a b = ((a &&& b : Nat) : Int) := by
  unfold andL
  rw [z_L, z_L, z_andL, z_tL (Nat.lt_of_le_of_lt Nat.and_le_left ha)]
theorem orL_n {a b : Nat} (ha : a < 9223372036854775808) (hb : b < 9223372036854775808) : orL a b = ((a ||| b : Nat) : Int) := by
  unfold orL
  rw [z_L, z_L, z_orL, z_tL (Nat.or_lt_two_pow (n := 63) ha hb)]
theorem shlI_n {a k : Nat} (hk : k < 32) (h : a * 2 ^ k < 2147483648) : shlI a k = ((a * 2 ^ k : Nat) : Int) := by
  unfold shlI
  rw [z_I, z_I, pk_shlN (nI k &&& 31) k (z_sl k hk) (by omega), z_tI h]
theorem shrI_n {a k : Nat} (ha : a < 2147483648) (hk : k < 32) : shrI a k = ((a / 2 ^ k : Nat) : Int) := by
  unfold shrI
  rw [z_I, z_I, pk_shrN (by omega) (nI k &&& 31) k (z_sl k hk), z_tI (Nat.lt_of_le_of_lt (Nat.div_le_self ..) ha)]
theorem ushrI_n {a k : Nat} (ha : a < 2147483648) (hk : k < 32) : ushrI a k = ((a / 2 ^ k : Nat) : Int) := by
  unfold ushrI
  rw [z_I, z_I, pk_ushrN (by omega) (nI k) k (z_su k hk), z_tI (Nat.lt_of_le_of_lt (Nat.div_le_self ..) ha)]
theorem z_shlL (n : Nat) {k : Nat} (hk : k < 64) : lN n <<< ((nI k).toInt64 &&& 63) = lN (n * 2 ^ k) := by
  rw [z_ll k hk]
  apply Int64.toBitVec_inj.mp
  rw [Int64.toBitVec_shiftLeft, z_bL, z_bL, z_bL, z_sm k hk]
  apply BitVec.eq_of_toNat_eq
  rw [BitVec.shiftLeft_eq', BitVec.toNat_shiftLeft, BitVec.toNat_ofNat, BitVec.toNat_ofNat, BitVec.toNat_ofNat, Nat.shiftLeft_eq, Nat.mod_eq_of_lt (show k < 2 ^ 64 by omega), Nat.mod_mul_mod]
theorem z_shrL {n k : Nat} (hn : n < 2 ^ 64) (hk : k < 64) : ((lN n).toUInt64 >>> ((nI k).toInt64.toUInt64 &&& Int64.toUInt64 63)).toInt64 = lN (n / 2 ^ k) := by
  rw [z_lu k hk]
  apply Int64.toBitVec_inj.mp
  apply BitVec.eq_of_toNat_eq
  show ((lN n).toUInt64 >>> UInt64.ofNat k).toNat = (BitVec.ofNat 64 _).toNat
  have h1 : (UInt64.ofNat k).toNat = k := by
    show (BitVec.ofNat 64 k).toNat = k
    rw [BitVec.toNat_ofNat, Nat.mod_eq_of_lt (by omega)]
  have h2 : (lN n).toUInt64.toNat = n := by
    show (BitVec.ofNat 64 n).toNat = n
    rw [BitVec.toNat_ofNat, Nat.mod_eq_of_lt hn]
  rw [UInt64.toNat_shiftRight, h1, h2, Nat.mod_eq_of_lt hk, Nat.shiftRight_eq_div_pow, BitVec.toNat_ofNat, Nat.mod_eq_of_lt (Nat.lt_of_le_of_lt (Nat.div_le_self _ _) hn)]
theorem shlL_n {a k : Nat} (hk : k < 64) (h : a * 2 ^ k < 9223372036854775808) : shlL a k = ((a * 2 ^ k : Nat) : Int) := by
  unfold shlL
  rw [z_L, z_I, z_shlL a hk, z_tL h]
theorem ushrL_n {a k : Nat} (ha : a < 9223372036854775808) (hk : k < 64) : ushrL a k = ((a / 2 ^ k : Nat) : Int) := by
  unfold ushrL
  rw [z_L, z_I, z_shrL (by omega) hk, z_tL (Nat.lt_of_le_of_lt (Nat.div_le_self ..) ha)]
theorem bit_n (a k : Nat) : a / 2 ^ k &&& 1 = if a.testBit k then 1 else 0 := by
  rw [Nat.and_one_is_mod, Nat.testBit_eq_decide_div_mod_eq]
  by_cases h : a / 2 ^ k % 2 = 1
  · rw [h]
    simp
  · have : a / 2 ^ k % 2 = 0 := by omega
    rw [this]
    simp
/-- a set of places, as a number -/
def mset (p : Int → Bool) : Nat → Nat
  | 0 => 0
  | n + 1 => mset p n + (if p n then 2 ^ n else 0)
theorem mset_lt (p : Int → Bool) : ∀ n, mset p n < 2 ^ n
  | 0 => Nat.one_pos
  | n + 1 => by
    have := mset_lt p n
    unfold mset
    rw [Nat.pow_succ]
    split <;> omega
theorem mset_le (p : Int → Bool) {m n : Nat} (h : m ≤ n) : mset p m < 2 ^ n := Nat.lt_of_lt_of_le (mset_lt p m) (Nat.pow_le_pow_right (by decide) h)
theorem mset_or (p : Int → Bool) (n : Nat) : mset p n ||| 2 ^ n = mset p n + 2 ^ n := by
  have h := Nat.two_pow_add_eq_or_of_lt (mset_lt p n) 1
  rw [Nat.mul_one] at h
  rw [Nat.or_comm, ← h, Nat.add_comm]
theorem mset_tb (p : Int → Bool) (k : Nat) : ∀ n, (mset p n).testBit k = (decide (k < n) && p k)
  | 0 => by simp [mset]
  | n + 1 => by
    have ih := mset_tb p k n
    unfold mset
    split
    · rename_i hp
      rw [← mset_or, Nat.testBit_or, ih, Nat.testBit_two_pow]
      by_cases h1 : k < n
      · simp [h1, show k < n + 1 by omega, show ¬ n = k by omega]
      · by_cases h2 : n = k
        · subst h2
          simp [hp]
        · simp [h1, h2, show ¬ k < n + 1 by omega]
    · rename_i hp
      rw [Nat.add_zero, ih]
      by_cases h1 : k < n
      · simp [h1, show k < n + 1 by omega]
      · by_cases h2 : k = n
        · subst h2
          simp [hp]
        · simp [h1, show ¬ k < n + 1 by omega]
theorem mset_cong {p q : Int → Bool} : ∀ {n : Nat}, (∀ k : Nat, k < n → p k = q k) → mset p n = mset q n
  | 0, _ => rfl
  | n + 1, h => by
    unfold mset
    rw [mset_cong (fun k hk => h k (by omega)), h n (by omega)]
/-- how many -/
def cntB (p : Int → Bool) : Nat → Nat
  | 0 => 0
  | n + 1 => cntB p n + (if p n then 1 else 0)
theorem cntB_le (p : Int → Bool) : ∀ n, cntB p n ≤ n
  | 0 => Nat.le_refl _
  | n + 1 => by
    have := cntB_le p n
    unfold cntB
    split <;> omega
theorem cntB_cong {p q : Int → Bool} : ∀ {n : Nat}, (∀ k : Nat, k < n → p k = q k) → cntB p n = cntB q n
  | 0, _ => rfl
  | n + 1, h => by
    unfold cntB
    rw [cntB_cong (fun k hk => h k (by omega)), h n (by omega)]
