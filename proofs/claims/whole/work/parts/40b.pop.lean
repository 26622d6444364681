/-! COUNTING BITS: what bitCount answers -/
def Vf (w : Nat) : Nat → (Nat → Nat) → Nat
  | 0, _ => 0
  | n + 1, f => f 0 + 2 ^ w * Vf w n (fun k => f (k + 1))
theorem Vf_top (w : Nat) : ∀ (n : Nat) (f : Nat → Nat), Vf w (n + 1) f = Vf w n f + 2 ^ (w * n) * f n
  | 0, f => by simp [Vf]
  | n + 1, f => by
    show f 0 + 2 ^ w * Vf w (n + 1) (fun k => f (k + 1)) = (f 0 + 2 ^ w * Vf w n (fun k => f (k + 1))) + _
    rw [Vf_top w n, Nat.mul_add, ← Nat.mul_assoc, ← Nat.pow_add, show w + w * n = w * (n + 1) by rw [Nat.mul_succ, Nat.add_comm], Nat.add_assoc]
theorem Vf_add (w : Nat) : ∀ (n : Nat) (f g : Nat → Nat), Vf w n f + Vf w n g = Vf w n (fun k => f k + g k)
  | 0, _, _ => rfl
  | n + 1, f, g => by
    show (f 0 + 2 ^ w * Vf w n _) + (g 0 + 2 ^ w * Vf w n _) = f 0 + g 0 + 2 ^ w * Vf w n _
    rw [← Vf_add w n (fun k => f (k + 1)) (fun k => g (k + 1)), Nat.mul_add]
    generalize 2 ^ w * Vf w n (fun k => f (k + 1)) = p
    generalize 2 ^ w * Vf w n (fun k => g (k + 1)) = q
    omega
theorem Vf_cong (w : Nat) : ∀ (n : Nat) (f g : Nat → Nat), (∀ k, f k = g k) → Vf w n f = Vf w n g := fun n f g h => by
  rw [show f = g from funext h]
theorem Vf_div (w n : Nat) (f : Nat → Nat) (h : f 0 < 2 ^ w) (hz : f n = 0) : Vf w n f / 2 ^ w = Vf w n (fun k => f (k + 1)) := by
  cases n with
  | zero => exact Nat.zero_div _
  | succ n =>
    have e : Vf w (n + 1) (fun k => f (k + 1)) = Vf w n (fun k => f (k + 1)) := by
      rw [Vf_top w n (fun k => f (k + 1))]
      simp [hz]
    rw [e]
    show (f 0 + 2 ^ w * Vf w n (fun k => f (k + 1))) / 2 ^ w = _
    rw [Nat.add_mul_div_left _ _ (Nat.two_pow_pos w), Nat.div_eq_of_lt h, Nat.zero_add]
theorem Vf_divm (w n : Nat) (f : Nat → Nat) (h : ∀ k, f k < 2 ^ w) (hz : ∀ k, n ≤ k → f k = 0) : ∀ m, Vf w n f / 2 ^ (w * m) = Vf w n (fun k => f (k + m))
  | 0 => by rw [Nat.mul_zero, Nat.pow_zero, Nat.div_one]; rfl
  | m + 1 => by
    rw [Nat.mul_succ, Nat.pow_add, ← Nat.div_div_eq_div_mul, Vf_divm w n f h hz m, Vf_div w n (fun k => f (k + m)) (h _) (hz _ (by omega))]
    apply Vf_cong
    intro k
    show f (k + 1 + m) = f (k + (m + 1))
    rw [show k + 1 + m = k + (m + 1) by omega]
theorem and_split {w a c : Nat} (b d : Nat) (ha : a < 2 ^ w) (hc : c < 2 ^ w) : (a + 2 ^ w * b) &&& (c + 2 ^ w * d) = (a &&& c) + 2 ^ w * (b &&& d) := by
  apply Nat.eq_of_testBit_eq
  intro i
  rw [Nat.testBit_and, Nat.add_comm a, Nat.add_comm c, Nat.add_comm (a &&& c), Nat.testBit_two_pow_mul_add _ ha, Nat.testBit_two_pow_mul_add _ hc, Nat.testBit_two_pow_mul_add _ (Nat.lt_of_le_of_lt Nat.and_le_left ha)]
  split
  · rw [Nat.testBit_and]
  · rw [Nat.testBit_and]
theorem Vf_and (w : Nat) : ∀ (n : Nat) (f g : Nat → Nat), (∀ k, f k < 2 ^ w) → (∀ k, g k < 2 ^ w) → Vf w n f &&& Vf w n g = Vf w n (fun k => f k &&& g k)
  | 0, _, _, _, _ => by simp [Vf]
  | n + 1, f, g, hf, hg => by
    show (f 0 + 2 ^ w * Vf w n _) &&& (g 0 + 2 ^ w * Vf w n _) = (f 0 &&& g 0) + 2 ^ w * Vf w n _
    rw [and_split _ _ (hf 0) (hg 0), Vf_and w n _ _ (fun k => hf (k + 1)) (fun k => hg (k + 1))]
theorem Vf_dbl (w : Nat) : ∀ (n : Nat) (f : Nat → Nat), Vf w (2 * n) f = Vf (2 * w) n (fun k => f (2 * k) + 2 ^ w * f (2 * k + 1))
  | 0, _ => rfl
  | n + 1, f => by
    show f 0 + 2 ^ w * (f 1 + 2 ^ w * Vf w (2 * n) (fun k => f (k + 1 + 1))) = f 0 + 2 ^ w * f 1 + 2 ^ (2 * w) * Vf (2 * w) n _
    rw [Vf_dbl w n, Nat.mul_add, ← Nat.mul_assoc, ← Nat.pow_add, ← Nat.add_assoc, show w + w = 2 * w by omega]
    rfl
theorem Vf_bits : ∀ (n x : Nat), x < 2 ^ n → Vf 1 n (fun k => if x.testBit k then 1 else 0) = x
  | 0, x, h => by
    have : x = 0 := by simpa using h
    subst this
    rfl
  | n + 1, x, h => by
    show (if x.testBit 0 then 1 else 0) + 2 ^ 1 * Vf 1 n (fun k => if x.testBit (k + 1) then 1 else 0) = x
    have e : (fun k => if x.testBit (k + 1) then 1 else 0) = fun k => if (x / 2).testBit k then 1 else 0 := funext fun k => by rw [Nat.testBit_succ]
    rw [e, Vf_bits n (x / 2) (by rw [Nat.pow_succ] at h; omega), Nat.testBit_zero]
    by_cases hx : x % 2 = 1
    · simp only [hx, decide_true, if_true]
      omega
    · simp only [hx, decide_false]
      have : x % 2 = 0 := by omega
      simp only [Bool.false_eq_true, if_false]
      omega
def smF (f : Nat → Nat) : Nat → Nat
  | 0 => 0
  | n + 1 => smF f n + f n
theorem smF_dbl (f : Nat → Nat) : ∀ n, smF f (2 * n) = smF (fun k => f (2 * k) + f (2 * k + 1)) n
  | 0 => rfl
  | n + 1 => by
    show smF f (2 * n) + f (2 * n) + f (2 * n + 1) = smF _ n + (f (2 * n) + f (2 * n + 1))
    rw [smF_dbl f n, Nat.add_assoc]
theorem and3 : ∀ u, u < 4 → ∀ v, v < 4 → (u + 4 * v) &&& 3 = u := by decide +kernel
theorem and1 : ∀ u, u < 2 → ∀ v, v < 2 → (u + 2 * v) &&& 1 = u := by decide +kernel
theorem and15 : ∀ u, u < 16 → ∀ v, v < 16 → (u + 16 * v) &&& 15 = u := by decide +kernel
set_option maxHeartbeats 8000000 in
theorem pop64 {x : Nat} (hx : x < 9223372036854775808) : ∃ a c c2 d e f g : Nat, (x / 2 &&& 6148914691236517205) + a = x ∧ (a &&& 3689348814741910323) + (a / 4 &&& 3689348814741910323) = c ∧ c + c / 16 = c2 ∧ c2 &&& 1085102592571150095 = d ∧ d + d / 256 = e ∧ e + e / 65536 = f ∧ f + f / 4294967296 = g ∧ c < 9223372036854775808 ∧ c2 < 9223372036854775808 ∧ d < 9223372036854775808 ∧ e < 9223372036854775808 ∧ f < 9223372036854775808 ∧ g < 9223372036854775808 ∧ g % 128 = smF (fun k => if x.testBit k then 1 else 0) 64 := by
  obtain ⟨b, hb⟩ : ∃ b : Nat → Nat, b = fun k => if x.testBit k then 1 else 0 := ⟨_, rfl⟩
  have hb1 : ∀ k, b k ≤ 1 := fun k => by rw [hb]; show (if _ then 1 else 0) ≤ 1; split <;> omega
  have hbz : ∀ k, 63 ≤ k → b k = 0 := fun k hk => by
    rw [hb]
    show (if _ then 1 else 0) = 0
    rw [Nat.testBit_lt_two_pow (Nat.lt_of_lt_of_le hx (Nat.pow_le_pow_right (n := 2) (by decide) hk))]
    rfl
  have e0 : Vf 1 64 b = x := by rw [hb]; exact Vf_bits 64 x (by omega)
  obtain ⟨p1, hp1⟩ : ∃ p : Nat → Nat, p = fun k => b (2 * k) + b (2 * k + 1) := ⟨_, rfl⟩
  obtain ⟨p2, hp2⟩ : ∃ p : Nat → Nat, p = fun k => p1 (2 * k) + p1 (2 * k + 1) := ⟨_, rfl⟩
  obtain ⟨p3, hp3⟩ : ∃ p : Nat → Nat, p = fun k => p2 (2 * k) + p2 (2 * k + 1) := ⟨_, rfl⟩
  obtain ⟨q1, hq1⟩ : ∃ p : Nat → Nat, p = fun k => p3 k + p3 (k + 1) := ⟨_, rfl⟩
  obtain ⟨q2, hq2⟩ : ∃ p : Nat → Nat, p = fun k => q1 k + q1 (k + 2) := ⟨_, rfl⟩
  obtain ⟨q3, hq3⟩ : ∃ p : Nat → Nat, p = fun k => q2 k + q2 (k + 4) := ⟨_, rfl⟩
  have i1 : ∀ k, p1 k = b (2 * k) + b (2 * k + 1) := fun k => by rw [hp1]
  have i2 : ∀ k, p2 k = p1 (2 * k) + p1 (2 * k + 1) := fun k => by rw [hp2]
  have i3 : ∀ k, p3 k = p2 (2 * k) + p2 (2 * k + 1) := fun k => by rw [hp3]
  have j1 : ∀ k, q1 k = p3 k + p3 (k + 1) := fun k => by rw [hq1]
  have j2 : ∀ k, q2 k = q1 k + q1 (k + 2) := fun k => by rw [hq2]
  have j3 : ∀ k, q3 k = q2 k + q2 (k + 4) := fun k => by rw [hq3]
  have u1 : ∀ k, p1 k ≤ 2 := fun k => by have := hb1 (2 * k); have := hb1 (2 * k + 1); have := i1 k; omega
  have u2 : ∀ k, p2 k ≤ 4 := fun k => by have := u1 (2 * k); have := u1 (2 * k + 1); have := i2 k; omega
  have u3 : ∀ k, p3 k ≤ 8 := fun k => by have := u2 (2 * k); have := u2 (2 * k + 1); have := i3 k; omega
  have v1 : ∀ k, q1 k ≤ 16 := fun k => by have := u3 k; have := u3 (k + 1); have := j1 k; omega
  have v2 : ∀ k, q2 k ≤ 32 := fun k => by have := v1 k; have := v1 (k + 2); have := j2 k; omega
  have v3 : ∀ k, q3 k ≤ 64 := fun k => by have := v2 k; have := v2 (k + 4); have := j3 k; omega
  have z1 : ∀ k, 32 ≤ k → p1 k = 0 := fun k hk => by rw [i1, hbz _ (by omega), hbz _ (by omega)]
  have z2 : ∀ k, 16 ≤ k → p2 k = 0 := fun k hk => by rw [i2, z1 _ (by omega), z1 _ (by omega)]
  have z3 : ∀ k, 8 ≤ k → p3 k = 0 := fun k hk => by rw [i3, z2 _ (by omega), z2 _ (by omega)]
  have y1 : ∀ k, 8 ≤ k → q1 k = 0 := fun k hk => by rw [j1, z3 _ (by omega), z3 _ (by omega)]
  have y2 : ∀ k, 8 ≤ k → q2 k = 0 := fun k hk => by rw [j2, y1 _ (by omega), y1 _ (by omega)]
  have s1 : x / 2 &&& 6148914691236517205 = Vf 2 32 (fun k => b (2 * k + 1)) := by
    have h1 : x / 2 = Vf 2 32 (fun k => b (2 * k + 1) + 2 * b (2 * k + 1 + 1)) := by
      rw [← e0]
      exact (Vf_div 1 64 b (by have := hb1 0; omega) (hbz _ (by omega))).trans (Vf_dbl 1 32 (fun k => b (k + 1)))
    have h2 : 6148914691236517205 = Vf 2 32 (fun _ => 1) := by decide +kernel
    rw [h1, h2, Vf_and 2 32 _ _ (fun k => by have := hb1 (2 * k + 1); have := hb1 (2 * k + 1 + 1); omega) (fun _ => by decide)]
    exact Vf_cong _ _ _ _ fun k => and1 _ (by have := hb1 (2 * k + 1); omega) _ (by have := hb1 (2 * k + 1 + 1); omega)
  have s0 : x = Vf 2 32 (fun k => b (2 * k + 1)) + Vf 2 32 p1 := by
    rw [Vf_add, ← e0, show (64 : Nat) = 2 * 32 from rfl, Vf_dbl 1 32 b]
    exact Vf_cong _ _ _ _ fun k => by rw [i1]; omega
  have a3 : ∀ f : Nat → Nat, (∀ k, f k ≤ 2) → Vf 2 32 f &&& 3689348814741910323 = Vf 4 16 (fun k => f (2 * k)) := fun f hf => by
    have h2 : 3689348814741910323 = Vf 4 16 (fun _ => 3) := by decide +kernel
    rw [show (32 : Nat) = 2 * 16 from rfl, Vf_dbl 2 16 f, h2, Vf_and 4 16 _ _ (fun k => by have := hf (2 * k); have := hf (2 * k + 1); omega) (fun _ => by decide)]
    exact Vf_cong _ _ _ _ fun k => and3 _ (by have := hf (2 * k); omega) _ (by have := hf (2 * k + 1); omega)
  have s2 : (Vf 2 32 p1 &&& 3689348814741910323) + (Vf 2 32 p1 / 4 &&& 3689348814741910323) = Vf 4 16 p2 := by
    have h1 : Vf 2 32 p1 / 4 = Vf 2 32 (fun k => p1 (k + 1)) := Vf_div 2 32 p1 (by have := u1 0; omega) (z1 _ (by omega))
    rw [h1, a3 p1 u1, a3 (fun k => p1 (k + 1)) (fun k => u1 _), Vf_add]
    exact Vf_cong _ _ _ _ fun k => (i2 k).symm
  have s3 : Vf 4 16 p2 + Vf 4 16 p2 / 16 = Vf 4 16 (fun k => p2 k + p2 (k + 1)) := by
    have h1 : Vf 4 16 p2 / 16 = Vf 4 16 (fun k => p2 (k + 1)) := Vf_div 4 16 p2 (by have := u2 0; omega) (z2 _ (by omega))
    rw [h1, Vf_add]
  have s4 : Vf 4 16 (fun k => p2 k + p2 (k + 1)) &&& 1085102592571150095 = Vf 8 8 p3 := by
    have h2 : 1085102592571150095 = Vf 8 8 (fun _ => 15) := by decide +kernel
    rw [show (16 : Nat) = 2 * 8 from rfl, Vf_dbl 4 8, h2, Vf_and 8 8 _ _ (fun k => by have := u2 (2 * k); have := u2 (2 * k + 1); have := u2 (2 * k + 1 + 1); omega) (fun _ => by decide)]
    exact Vf_cong _ _ _ _ fun k => (and15 _ (by have := u2 (2 * k); have := u2 (2 * k + 1); omega) _ (by have := u2 (2 * k + 1); have := u2 (2 * k + 1 + 1); omega)).trans (i3 k).symm
  have s5 : Vf 8 8 p3 + Vf 8 8 p3 / 256 = Vf 8 8 q1 := by
    have h1 : Vf 8 8 p3 / 256 = Vf 8 8 (fun k => p3 (k + 1)) := Vf_div 8 8 p3 (by have := u3 0; omega) (z3 _ (by omega))
    rw [h1, Vf_add]
    exact Vf_cong _ _ _ _ fun k => (j1 k).symm
  have s6 : Vf 8 8 q1 + Vf 8 8 q1 / 65536 = Vf 8 8 q2 := by
    have h1 : Vf 8 8 q1 / 65536 = Vf 8 8 (fun k => q1 (k + 2)) := Vf_divm 8 8 q1 (fun k => by have := v1 k; omega) y1 2
    rw [h1, Vf_add]
    exact Vf_cong _ _ _ _ fun k => (j2 k).symm
  have s7 : Vf 8 8 q2 + Vf 8 8 q2 / 4294967296 = Vf 8 8 q3 := by
    have h1 : Vf 8 8 q2 / 4294967296 = Vf 8 8 (fun k => q2 (k + 4)) := Vf_divm 8 8 q2 (fun k => by have := v2 k; omega) y2 4
    rw [h1, Vf_add]
    exact Vf_cong _ _ _ _ fun k => (j3 k).symm
  have bd : ∀ (f : Nat → Nat), (∀ k, f k ≤ 64) → Vf 8 8 f < 9223372036854775808 := fun f hf => by
    have h0 := hf 0; have h1 := hf 1; have h2 := hf 2; have h3 := hf 3; have h4 := hf 4; have h5 := hf 5; have h6 := hf 6; have h7 := hf 7
    show f 0 + 2 ^ 8 * (f 1 + 2 ^ 8 * (f 2 + 2 ^ 8 * (f 3 + 2 ^ 8 * (f 4 + 2 ^ 8 * (f 5 + 2 ^ 8 * (f 6 + 2 ^ 8 * (f 7 + 2 ^ 8 * 0))))))) < _
    omega
  have b4 : ∀ (f : Nat → Nat), (∀ k, f k < 16) → Vf 4 16 f < 18446744073709551616 := fun f hf => by
    rw [show (16 : Nat) = 2 * 8 from rfl, Vf_dbl 4 8]
    have h0 := hf 0; have h1 := hf 1; have h2 := hf 2; have h3 := hf 3; have h4 := hf 4; have h5 := hf 5; have h6 := hf 6; have h7 := hf 7
    have h8 := hf 8; have h9 := hf 9; have h10 := hf 10; have h11 := hf 11; have h12 := hf 12; have h13 := hf 13; have h14 := hf 14; have h15 := hf 15
    show (f 0 + 2 ^ 4 * f 1) + 2 ^ 8 * ((f 2 + 2 ^ 4 * f 3) + 2 ^ 8 * ((f 4 + 2 ^ 4 * f 5) + 2 ^ 8 * ((f 6 + 2 ^ 4 * f 7) + 2 ^ 8 * ((f 8 + 2 ^ 4 * f 9) + 2 ^ 8 * ((f 10 + 2 ^ 4 * f 11) + 2 ^ 8 * ((f 12 + 2 ^ 4 * f 13) + 2 ^ 8 * ((f 14 + 2 ^ 4 * f 15) + 2 ^ 8 * 0))))))) < _
    omega
  have b4' : ∀ (f : Nat → Nat), (∀ k, f k ≤ 8) → f 15 ≤ 4 → Vf 4 16 f < 9223372036854775808 := fun f hf h15 => by
    rw [show (16 : Nat) = 2 * 8 from rfl, Vf_dbl 4 8]
    have h0 := hf 0; have h1 := hf 1; have h2 := hf 2; have h3 := hf 3; have h4 := hf 4; have h5 := hf 5; have h6 := hf 6; have h7 := hf 7
    have h8 := hf 8; have h9 := hf 9; have h10 := hf 10; have h11 := hf 11; have h12 := hf 12; have h13 := hf 13; have h14 := hf 14
    show (f 0 + 2 ^ 4 * f 1) + 2 ^ 8 * ((f 2 + 2 ^ 4 * f 3) + 2 ^ 8 * ((f 4 + 2 ^ 4 * f 5) + 2 ^ 8 * ((f 6 + 2 ^ 4 * f 7) + 2 ^ 8 * ((f 8 + 2 ^ 4 * f 9) + 2 ^ 8 * ((f 10 + 2 ^ 4 * f 11) + 2 ^ 8 * ((f 12 + 2 ^ 4 * f 13) + 2 ^ 8 * ((f 14 + 2 ^ 4 * f 15) + 2 ^ 8 * 0))))))) < _
    omega
  refine ⟨Vf 2 32 p1, Vf 4 16 p2, Vf 4 16 (fun k => p2 k + p2 (k + 1)), Vf 8 8 p3, Vf 8 8 q1, Vf 8 8 q2, Vf 8 8 q3, ?_, s2, s3, s4, s5, s6, s7, ?_, ?_, ?_, ?_, ?_, ?_, ?_⟩
  · rw [s1]
    exact s0.symm
  · exact b4' p2 (fun k => by have := u2 k; omega) (u2 15)
  · exact b4' _ (fun k => by have := u2 k; have := u2 (k + 1); omega) (show p2 15 + p2 16 ≤ 4 by have := u2 15; have := z2 16 (by omega); omega)
  · exact bd p3 fun k => by have := u3 k; omega
  · exact bd q1 fun k => by have := v1 k; omega
  · exact bd q2 fun k => by have := v2 k; omega
  · exact bd q3 v3
  · rw [← hb, show (64 : Nat) = 2 * (2 * (2 * 8)) from rfl, smF_dbl, ← hp1, smF_dbl, ← hp2, smF_dbl, ← hp3]
    show (q3 0 + 2 ^ 8 * Vf 8 7 (fun k => q3 (k + 1))) % 128 = 0 + p3 0 + p3 1 + p3 2 + p3 3 + p3 4 + p3 5 + p3 6 + p3 7
    have w := v3 0
    have k1 := j3 0; have k2 := j2 0; have k3 := j2 4; have k4 := j1 0; have k5 := j1 2; have k6 := j1 4; have k7 := j1 6
    simp only [Nat.zero_add, Nat.reduceAdd] at k1 k2 k3 k4 k5 k6 k7
    omega
theorem smF_cnt (p : Nat → Bool) : ∀ n, smF (fun k => if p k then 1 else 0) n = cntB (fun k => p k.toNat) n
  | 0 => rfl
  | n + 1 => by
    show smF _ n + _ = cntB _ n + _
    rw [smF_cnt p n]
    rfl
theorem cntB_ext {p : Int → Bool} {n : Nat} : ∀ {N : Nat}, n ≤ N → (∀ k : Nat, n ≤ k → k < N → p k = false) → cntB p N = cntB p n
  | 0, h, _ => by rw [show n = 0 by omega]
  | N + 1, h, g => by
    by_cases e : n = N + 1
    · rw [e]
    · show cntB p N + _ = _
      rw [g N (by omega) (by omega), cntB_ext (by omega) (fun k h1 h2 => g k h1 (by omega))]
      rfl
theorem cntB_mset (p : Int → Bool) {n N : Nat} (h : n ≤ N) : cntB (fun k => (mset p n).testBit k.toNat) N = cntB p n := by
  rw [cntB_ext h (fun k h1 h2 => by rw [Int.toNat_natCast, mset_tb]; simp [show ¬ k < n by omega])]
  exact cntB_cong fun k hk => by rw [Int.toNat_natCast, mset_tb]; simp [hk]
theorem l2i_and {g : Nat} : andI (l2iI g) 127 = ((g % 128 : Nat) : Int) := by
  unfold andI l2iI
  rw [Int32.ofInt_toInt, z_L]
  have e : (lN g).toInt32 = nI g := by
    apply Int32.toBitVec_inj.mp
    rw [Int64.toBitVec_toInt32, z_bL, z_bI, BitVec.signExtend_eq_setWidth_of_le _ (by decide)]
    apply BitVec.eq_of_toNat_eq
    rw [BitVec.toNat_setWidth, BitVec.toNat_ofNat, BitVec.toNat_ofNat]
    omega
  rw [e]
  have e2 : nI g &&& Int32.ofInt 127 = nI (g &&& 127) := z_andI g 127
  rw [e2, z_tI (Nat.lt_of_le_of_lt Nat.and_le_right (by decide))]
  have e3 : g &&& 127 = g % 128 := Nat.and_two_pow_sub_one_eq_mod g 7
  rw [e3]
section BC
variable {P : Jg_} {Q : Qp_} {M : Mm_}
theorem s_bitL (hP : Clo P) {x : Nat} (hx : x < 9223372036854775808) (k : Q (some (0, (cntB (fun k => x.testBit k.toNat) 64 : Int))) WF M) : P 30 0 [some (1, (x : Int)), none] [] WF M (0, 0) Q := by
  obtain ⟨a, c, c2, d, e, f, g, h1, h2, h3, h4, h5, h6, h7, b1, b2, b3, b4, b5, b6, h8⟩ := pop64 hx
  have E1 : (x : Int) - andL (ushrL x 1) 6148914691236517205 = (a : Int) := by
    rw [show ushrL (x : Int) 1 = ((x / 2 : Nat) : Int) from ushrL_n (k := 1) hx (by decide), show andL ((x / 2 : Nat) : Int) 6148914691236517205 = ((x / 2 &&& 6148914691236517205 : Nat) : Int) from andL_n 6148914691236517205 (by omega)]
    omega
  have ha : a < 9223372036854775808 := by omega
  have E2 : andL a 3689348814741910323 + andL (ushrL a 2) 3689348814741910323 = (c : Int) := by
    rw [show ushrL (a : Int) 2 = ((a / 4 : Nat) : Int) from ushrL_n (k := 2) ha (by decide), show andL ((a / 4 : Nat) : Int) 3689348814741910323 = ((a / 4 &&& 3689348814741910323 : Nat) : Int) from andL_n 3689348814741910323 (by omega), show andL (a : Int) 3689348814741910323 = ((a &&& 3689348814741910323 : Nat) : Int) from andL_n 3689348814741910323 ha]
    omega
  have E3 : (c : Int) + ushrL c 4 = (c2 : Int) := by
    rw [show ushrL (c : Int) 4 = ((c / 2 ^ 4 : Nat) : Int) from ushrL_n (k := 4) b1 (by decide)]
    omega
  have E4 : andL c2 1085102592571150095 = (d : Int) := by
    rw [show andL (c2 : Int) 1085102592571150095 = ((c2 &&& 1085102592571150095 : Nat) : Int) from andL_n 1085102592571150095 b2, h4]
  have E5 : (d : Int) + ushrL d 8 = (e : Int) := by
    rw [show ushrL (d : Int) 8 = ((d / 2 ^ 8 : Nat) : Int) from ushrL_n (k := 8) b3 (by decide)]
    omega
  have E6 : (e : Int) + ushrL e 16 = (f : Int) := by
    rw [show ushrL (e : Int) 16 = ((e / 2 ^ 16 : Nat) : Int) from ushrL_n (k := 16) b4 (by decide)]
    omega
  have E7 : (f : Int) + ushrL f 32 = (g : Int) := by
    rw [show ushrL (f : Int) 32 = ((f / 2 ^ 32 : Nat) : Int) from ushrL_n (k := 32) b5 (by decide)]
    omega
  refine t_Long_bitCount_0 hP ?_ ?_ ?_ ?_ ?_ ?_ ?_
  · rw [E1, E2, E3, E4, E5, E6, E7, l2i_and, h8, smF_cnt]
    exact k
  · rw [E1]
    omega
  · rw [E1, E2]
    omega
  · rw [E1, E2, E3]
    omega
  · rw [E1, E2, E3, E4, E5]
    omega
  · rw [E1, E2, E3, E4, E5, E6]
    omega
  · rw [E1, E2, E3, E4, E5, E6, E7]
    omega
theorem s_bitM (hP : Clo P) {p : Int → Bool} {n : Nat} (hn : n ≤ 63) (k : Q (some (0, (cntB p n : Int))) WF M) : P 30 0 [some (1, (mset p n : Int)), none] [] WF M (0, 0) Q := by
  refine s_bitL hP (x := mset p n) (mset_le p (n := 63) hn) ?_
  rw [cntB_mset p (by omega)]
  exact k
end BC
