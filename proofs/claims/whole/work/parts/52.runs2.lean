/-! RUNS: extend, sizesAt, lookAt -/
def alp (B : Mm_) (mean sl x y i : Int) (n : Nat) (s j : Int) : Bool := decide (s ≤ sl) && (lkP B mean x y i j && decide ((slE B mean x y i j n : Int) = s))
def AL (B : Mm_) (mean sl x y i : Int) (n : Nat) (M : Mm_) : Prop := ∀ s, 0 ≤ s ∧ s ≤ 3 → M 63 s = (mset (alp B mean sl x y i n s) 60 : Int)
theorem mset_zero {p : Int → Bool} {n : Nat} (h : ∀ k : Nat, k < n → p k = false) : mset p n = 0 := mset_ext (n := 0) (Nat.zero_le _) fun k _ hk => h k hk
theorem slE_s (B : Mm_) (mean x y i j : Int) (n : Nat) : slE B mean x y i j (n + 1) = slE B mean x y i j n + (if lkP B mean x y (i + n) (j + n) = true then 0 else 1) := by
  show slE B mean x y i j n + _ = _
  cases h : lkP B mean x y (i + n) (j + n) <;> simp [h]
theorem tb_div (x k j : Nat) : (x / 2 ^ k).testBit j = x.testBit (k + j) := by
  rw [← Nat.shiftRight_eq_div_pow, Nat.testBit_shiftRight]
section RX
variable {P : Jg_} {L : Nat} {xs : Nat → Int32} {B : Mm_}
theorem AL_1 {M : Mm_} {mean sl x y i : Int} (hs : 0 ≤ sl) (h0 : M 63 0 = (mset (lkP B mean x y i) 60 : Int)) (h1 : M 63 1 = 0) (h2 : M 63 2 = 0) (h3 : M 63 3 = 0) : AL B mean sl x y i 1 M := by
  have one : ∀ j, lkP B mean x y i j = true → slE B mean x y i j 1 = 0 := fun j h => by
    rw [slE_s, show slE B mean x y i j 0 = 0 from rfl, show i + ((0 : Nat) : Int) = i from Int.add_zero _, show j + ((0 : Nat) : Int) = j from Int.add_zero _, if_pos h]
  have zer : ∀ s : Int, 0 < s → mset (alp B mean sl x y i 1 s) 60 = 0 := fun s hs => mset_zero fun j _ => by
    unfold alp
    cases h : lkP B mean x y i j
    · simp
    · rw [one j h, decide_eq_false (show ¬ ((0 : Nat) : Int) = s by omega)]
      simp
  intro s hs4
  have : s = 0 ∨ s = 1 ∨ s = 2 ∨ s = 3 := by omega
  rcases this with rfl | rfl | rfl | rfl
  · rw [h0]
    have : mset (lkP B mean x y i) 60 = mset (alp B mean sl x y i 1 0) 60 := mset_cong fun j _ => by
      unfold alp
      cases h : lkP B mean x y i j
      · simp
      · rw [one j h, decide_eq_true hs]
        simp
    rw [this]
  · rw [h1, zer 1 (by decide)]
    rfl
  · rw [h2, zer 2 (by decide)]
    rfl
  · rw [h3, zer 3 (by decide)]
    rfl
theorem s_extend (hP : Clo P) {Q : Qp_} {M : Mm_} {mean sl x y i : Int} {m : Nat} (hy : B 115 y ≤ 60) (hsl : 0 ≤ sl ∧ sl ≤ 3) (h12 : M 47 12 = sl) (hi : 0 ≤ i ∧ i + m < 60) (h62 : M 62 (i + m) = (mset (lkP B mean x y (i + m)) 60 : Int)) (hA : AL B mean sl x y i m M) (k : ∀ (M' : Mm_) (E : Nat), Fr 63 63 M M' → AL B mean sl x y i (m + 1) M' → E < 2 ^ 60 → (∀ j : Nat, E.testBit j = true ↔ j < 60 ∧ lkP B mean x y i j = true ∧ lkP B mean x y (i + m) (j + m) = true ∧ (slE B mean x y i j (m + 1) : Int) ≤ sl) → Q (some (1, (E : Int))) WF M') : P 123 0 [some (2, 47), some (0, i), some (0, (m : Int) + 1), none, none, none, none, none, none, none, none, none] [] WF M (0, 0) Q := by
  obtain ⟨LK, hLK⟩ : ∃ LK : Nat, LK = mset (lkP B mean x y (i + m)) 60 / 2 ^ m := ⟨_, rfl⟩
  have lkt : ∀ j : Nat, LK.testBit j = lkP B mean x y (i + m) (j + m) := fun j => by
    rw [hLK, tb_div, mset_tb]
    by_cases h : m + j < 60
    · rw [decide_eq_true h, Bool.true_and, show ((m + j : Nat) : Int) = (j : Int) + m by omega]
    · rw [decide_eq_false h, Bool.false_and]
      unfold lkP
      rw [decide_eq_false (by omega)]
      rfl
  have lkb : LK < 9223372036854775808 := by
    rw [hLK]
    exact Nat.lt_of_le_of_lt (Nat.div_le_self _ _) (mset_le _ (n := 63) (by decide))
  have e0 : ushrL (M 62 (i + ((m : Int) + 1) - 1)) ((m : Int) + 1 - 1) = (LK : Int) := by
    rw [show i + ((m : Int) + 1) - 1 = i + m by omega, show (m : Int) + 1 - 1 = m by omega, h62, ushrL_n (mset_le _ (n := 63) (by decide)) (by omega), hLK]
  refine t_Runs_extend_0 hP ?_
  rw [e0, h12]
  have ob : ∀ s, mset (alp B mean sl x y i m s) 60 < 9223372036854775808 := fun s => mset_le _ (n := 63) (by decide)
  have lp := lpD (n := -1) (hi := sl) (f := fun s => ∀ (M' : Mm_) (E : Nat), Fr 63 63 M M' → (∀ t, 0 ≤ t ∧ t ≤ 3 → M' 63 t = if s < t ∧ t ≤ sl then (mset (alp B mean sl x y i (m + 1) t) 60 : Int) else (mset (alp B mean sl x y i m t) 60 : Int)) → E < 2 ^ 60 → (∀ j : Nat, E.testBit j = true ↔ j < 60 ∧ lkP B mean x y i j = true ∧ lkP B mean x y (i + m) (j + m) = true ∧ s < (slE B mean x y i j m : Int) ∧ (slE B mean x y i j m : Int) ≤ sl) → P 123 18 [some (2, 47), none, none, some (1, (LK : Int)), none, some (1, (E : Int)), none, some (0, s), none, none, none, none] [] WF M' (0, 0) Q) ?_ ?_ sl (by omega) (by omega)
  · refine lp M 0 (Fr.refl _ _ _) (fun t ht => ?_) (by decide) (fun j => ?_)
    · rw [if_neg (by omega)]
      exact hA t ht
    · rw [Nat.zero_testBit]
      exact ⟨fun h => (by cases h), fun h => by omega⟩
  · intro M' E g1 g2 g3 g4
    refine t_Runs_extend_18 hP (fun _ => k M' E g1 (fun t ht => ?_) g3 fun j => ?_) (fun q => absurd (by decide) q) (fun q => absurd (by decide) q)
    · rw [g2 t ht]
      by_cases h : t ≤ sl
      · rw [if_pos ⟨by omega, h⟩]
      · rw [if_neg fun q => h q.2]
        have : ∀ n, mset (alp B mean sl x y i n t) 60 = 0 := fun n => mset_zero fun j _ => by
          unfold alp
          rw [decide_eq_false h]
          rfl
        rw [this, this]
    · rw [g4 j]
      refine and_congr_right fun h1 => and_congr_right fun h2 => and_congr_right fun h3 => ?_
      rw [slE_s, if_pos h3]
      omega
  · intro s s1 s2 ih M' E g1 g2 g3 g4
    have a1 := g2 s (by omega)
    rw [if_neg (by omega)] at a1
    have st : andL (M' 63 s) (LK : Int) = ((mset (alp B mean sl x y i m s) 60 &&& LK : Nat) : Int) := by rw [a1, andL_n _ (ob s)]
    have stb : mset (alp B mean sl x y i m s) 60 &&& LK < 2 ^ 60 := Nat.lt_of_le_of_lt Nat.and_le_left (mset_lt _ 60)
    have en : orL (E : Int) (andL (M' 63 s) (LK : Int)) = ((E ||| (mset (alp B mean sl x y i m s) 60 &&& LK) : Nat) : Int) := by rw [st, orL_n (by omega) (by omega)]
    have fin : ∀ v : Int, v = (mset (alp B mean sl x y i (m + 1) s) 60 : Int) → P 123 18 [some (2, 47), none, none, some (1, (LK : Int)), none, some (1, orL (E : Int) (andL (M' 63 s) (LK : Int))), none, some (0, s + (-1)), none, none, none, none] [] WF (updM M' 63 s v) (0, 0) Q := by
      intro v hv
      rw [en]
      refine ih _ _ (g1.u (by omega)) (fun t ht => ?_) (Nat.or_lt_two_pow g3 stb) (fun j => ?_)
      · by_cases e : t = s
        · rw [e, upd_s, hv, if_pos (by omega)]
        · rw [upd_i e, g2 t ht]
          by_cases h : s < t ∧ t ≤ sl
          · rw [if_pos h, if_pos (by omega)]
          · rw [if_neg h, if_neg (by omega)]
      · rw [Nat.testBit_or, Nat.testBit_and, Bool.or_eq_true, Bool.and_eq_true, g4 j, lkt, mset_tb]
        unfold alp
        rw [Bool.and_eq_true, Bool.and_eq_true, Bool.and_eq_true, decide_eq_true_iff, decide_eq_true_iff, decide_eq_true_iff]
        constructor
        · rintro (⟨q1, q2, q3, q4⟩ | ⟨⟨q1, q2, q3, q4⟩, q5⟩)
          · exact ⟨q1, q2, q3, by omega, q4.2⟩
          · exact ⟨q1, q3, q5, by omega, by omega⟩
        · rintro ⟨q1, q2, q3, q4, q5⟩
          by_cases e : (slE B mean x y i j m : Int) = s
          · exact Or.inr ⟨⟨q1, by omega, q2, e⟩, q3⟩
          · exact Or.inl ⟨q1, q2, q3, by omega, q5⟩
    refine t_Runs_extend_18 hP (fun q => by omega) (fun _ q => ?_) (fun _ q => ?_)
    · refine fin _ ?_
      have a2 := g2 (s - 1) (by omega)
      rw [if_neg (by omega)] at a2
      rw [st, a2, andnL _ (ob _), orL_n (by omega) (Nat.lt_of_le_of_lt (andn_le _ _) (ob _))]
      refine congrArg _ (mset_eq fun j => ?_)
      rw [Nat.testBit_or, Nat.testBit_and, andn_tb, mset_tb, mset_tb, lkt]
      unfold alp
      rw [slE_s, decide_eq_true s2, decide_eq_true (show s - 1 ≤ sl by omega)]
      cases hl : lkP B mean x y (i + m) (j + m)
      · simp only [Bool.and_false, Bool.false_or, Bool.not_false, Bool.and_true, Bool.true_and, Bool.false_eq_true, if_false]
        have : decide ((slE B mean x y i j m : Int) = s - 1) = decide (((slE B mean x y i j m + 1 : Nat) : Int) = s) := by
          rw [decide_eq_decide]
          omega
        rw [this]
      · simp only [Bool.and_true, Bool.not_true, Bool.and_false, Bool.or_false, Bool.true_and, if_true, Nat.add_zero]
    · subst q
      refine fin _ ?_
      rw [st, show orL ((mset (alp B mean sl x y i m 0) 60 &&& LK : Nat) : Int) 0 = ((mset (alp B mean sl x y i m 0) 60 &&& LK ||| 0 : Nat) : Int) from orL_n (b := 0) (by omega) (by decide), Nat.or_zero]
      refine congrArg _ (mset_eq fun j => ?_)
      rw [Nat.testBit_and, mset_tb, lkt]
      unfold alp
      rw [slE_s]
      cases hl : lkP B mean x y (i + m) (j + m)
      · simp only [Bool.and_false, Bool.false_eq_true, if_false]
        rw [decide_eq_false (show ¬ ((slE B mean x y i j m + 1 : Nat) : Int) = 0 by omega)]
        simp
      · simp only [Bool.and_true, if_true, Nat.add_zero]
theorem AL_any {M : Mm_} {mean sl x y i : Int} {m : Nat} (hsl : 0 ≤ sl ∧ sl ≤ 3) (hA : AL B mean sl x y i m M) : orL (orL (orL (M 63 0) (M 63 1)) (M 63 2)) (M 63 3) = 0 → ∀ j : Nat, j < 60 → lkP B mean x y i j = true → ¬ (slE B mean x y i j m : Int) ≤ sl := by
  have b : ∀ s, mset (alp B mean sl x y i m s) 60 < 2 ^ 63 := fun s => mset_le _ (n := 63) (by decide)
  rw [hA 0 (by omega), hA 1 (by omega), hA 2 (by omega), hA 3 (by omega), orL_n (b 0) (b 1), orL_n (Nat.or_lt_two_pow (b 0) (b 1)) (b 2), orL_n (Nat.or_lt_two_pow (Nat.or_lt_two_pow (b 0) (b 1)) (b 2)) (b 3)]
  intro h j hj hl hs
  have h2 : (mset (alp B mean sl x y i m 0) 60 ||| mset (alp B mean sl x y i m 1) 60 ||| mset (alp B mean sl x y i m 2) 60 ||| mset (alp B mean sl x y i m 3) 60) = 0 := by omega
  have t : ∀ s, (0 ≤ s ∧ s ≤ 3) → (mset (alp B mean sl x y i m s) 60).testBit j = false := fun s hs => by
    have h3 := congrArg (fun z => Nat.testBit z j) h2
    simp only [Nat.testBit_or, Nat.zero_testBit, Bool.or_eq_false_iff] at h3
    have : s = 0 ∨ s = 1 ∨ s = 2 ∨ s = 3 := by omega
    rcases this with rfl | rfl | rfl | rfl
    · exact h3.1.1.1
    · exact h3.1.1.2
    · exact h3.1.2
    · exact h3.2
  have := t (slE B mean x y i j m : Int) (by omega)
  rw [mset_tb] at this
  unfold alp at this
  rw [decide_eq_true hj, decide_eq_true hs, hl] at this
  simp at this
theorem rnB_iff {x y i n : Int} (hn : 1 ≤ n) (hi : i + n ≤ B 115 x) : rnB B x i y n = true ↔ ∃ j : Nat, j < 60 ∧ lws B x 0 ≤ n ∧ (lws B x 3 = 1 ∨ n / 2 ≤ (rar B x i n.toNat : Int)) ∧ lkP B (lws B x 2) x y i j = true ∧ lkP B (lws B x 2) x y (i + n - 1) (j + n - 1) = true ∧ (slE B (lws B x 2) x y i j n.toNat : Int) ≤ lws B x 1 := by
  unfold rnB
  rw [anyB_iff]
  refine exists_congr fun j => and_congr_right fun _ => ?_
  exact isR_iff hn hi
theorem rnB_no {x y i n : Int} (h : n < lws B x 0 ∨ B 115 x < i + n) : rnB B x i y n = false := by
  rw [Bool.eq_false_iff]
  intro g
  unfold rnB at g
  rw [anyB_iff] at g
  obtain ⟨j, _, g⟩ := g
  unfold isR at g
  rw [decide_eq_true_iff] at g
  omega
theorem s_sizesAt (hP : Clo P) {Q : Qp_} {M : Mm_} {x y : Int} {i : Nat} (hR : WfR B) (hxb : B 115 x ≤ 60) (hyb : B 115 y ≤ 60) (hL : Lb B x M) (hi : (i : Int) < B 115 x) (h62 : ∀ q : Nat, (q : Int) < B 115 x → M 62 q = (mset (lkP B (lws B x 2) x y q) 60 : Int)) (k : ∀ M', Fr 63 63 M M' → Q (some (1, (mset (rnB B x i y) 61 : Int))) WF M') : P 125 0 [some (2, 47), some (0, (i : Int)), none, none, none] [] WF M (0, 0) Q := by
  have lb := lws_bd hR x
  obtain ⟨⟨f10, f11, f12, f13, f14⟩, hk, ho⟩ := hL
  refine t_Runs_sizesAt_0 hP (s_begin hP (by omega) fun M1 F1 b0 b1 b2 b3 => t_Runs_sizesAt_5 hP ?_)
  rw [h62 i hi] at b0
  have z2 : mset (rnB B x i y) 2 = 0 := mset_zero fun q hq => rnB_no (by omega)
  have lp := lpN (n := (B 115 x).toNat - i) (f := fun m : Nat => 1 ≤ m → ∀ M', Fr 63 63 M M' → AL B (lws B x 2) (lws B x 1) x y i m M' → P 125 7 [some (2, 47), some (0, (i : Int)), some (1, (mset (rnB B x i y) (m + 1) : Int)), none, some (0, (m : Int) + 1)] [] WF M' (0, 0) Q) ?_ ?_ 1 (by omega) (Nat.le_refl _) M1 F1 (AL_1 (by omega) b0 b1 b2 b3)
  · rw [z2] at lp
    exact lp
  · intro m1 M' F' hA
    have h10 : M' 47 10 = B 115 x := by rw [F' 47 (by omega)]; exact f10
    have e : mset (rnB B x i y) 61 = mset (rnB B x i y) ((B 115 x).toNat - i + 1) := mset_ext (by omega) fun q q1 q2 => rnB_no (by omega)
    refine t_Runs_sizesAt_7 hP (fun _ => ?_) (fun q => by omega) (fun q => by omega)
    rw [← e]
    exact k M' F'
  · intro m hm ih m1 M' F' hA
    have h10 : M' 47 10 = B 115 x := by rw [F' 47 (by omega)]; exact f10
    have h11 : M' 47 11 = lws B x 0 := by rw [F' 47 (by omega)]; exact f11
    have h12 : M' 47 12 = lws B x 1 := by rw [F' 47 (by omega)]; exact f12
    have h14 : M' 47 14 = if lws B x 3 = 1 then 1 else 0 := by rw [F' 47 (by omega)]; exact f14
    refine t_Runs_sizesAt_7 hP (fun q => by omega) (fun _ q => ?_) (fun _ q => ?_)
    · have e : mset (rnB B x i y) 61 = mset (rnB B x i y) (m + 1) := mset_ext (by omega) fun n n1 n2 => by
        by_cases hin : (i : Int) + n ≤ B 115 x
        · rw [Bool.eq_false_iff]
          intro g
          rw [rnB_iff (by omega) hin] at g
          obtain ⟨j, j1, j2, j3, j4, j5, j6⟩ := g
          have := AL_any (by omega) hA q j j1 j4
          have mo : slE B (lws B x 2) x y i j m ≤ slE B (lws B x 2) x y i j (n : Int).toNat := cntB_mono (by omega)
          omega
        · exact rnB_no (by omega)
      rw [← e]
      exact k M' F'
    · have h62' : M' 62 ((i : Int) + m) = (mset (lkP B (lws B x 2) x y ((i : Int) + m)) 60 : Int) := by
        rw [F' 62 (by omega)]
        exact h62 (i + m) (by omega)
      refine s_extend hP hyb (by omega) h12 (by omega) h62' hA fun M2 E F2 hA2 hE hEb => ?_
      have F3 : Fr 63 63 M M2 := F'.trans F2
      have g11 : M2 47 11 = lws B x 0 := by rw [F2 47 (by omega)]; exact h11
      have g14 : M2 47 14 = if lws B x 3 = 1 then 1 else 0 := by rw [F2 47 (by omega)]; exact h14
      have o1 := ho (i + (m + 1)) (by omega)
      have o2 := ho i (by omega)
      have o3 := rar_sub B x i (m + 1)
      have p1 : M2 60 ((i : Int) + ((m : Int) + 1)) = (rar B x 0 (i + (m + 1)) : Int) := by rw [F3 60 (by omega)]; exact o1
      have p2 : M2 60 (i : Int) = (rar B x 0 i : Int) := by rw [F3 60 (by omega)]; exact o2
      have rb1 : rar B x 0 (i + (m + 1)) ≤ i + (m + 1) := cntB_le _ _
      have rb2 : rar B x 0 i ≤ i := cntB_le _ _
      have key : rnB B x i y ((m + 1 : Nat) : Int) = true ↔ ¬ E = 0 ∧ lws B x 0 ≤ (m : Int) + 1 ∧ (lws B x 3 = 1 ∨ ((m : Int) + 1) / 2 ≤ (rar B x i (m + 1) : Int)) := by
        rw [rnB_iff (by omega) (by omega)]
        constructor
        · rintro ⟨j, j1, j2, j3, j4, j5, j6⟩
          refine ⟨fun h => ?_, j2, j3⟩
          have := (hEb j).mpr ⟨j1, j4, by rw [show (i : Int) + m = (i : Int) + ((m + 1 : Nat) : Int) - 1 by omega, show (j : Int) + m = (j : Int) + ((m + 1 : Nat) : Int) - 1 by omega]; exact j5, j6⟩
          rw [h, Nat.zero_testBit] at this
          cases this
        · rintro ⟨h1, h2, h3⟩
          obtain ⟨j, hj⟩ := Nat.exists_testBit_of_ne_zero h1
          obtain ⟨j1, j4, j5, j6⟩ := (hEb j).mp hj
          exact ⟨j, j1, h2, h3, j4, by rw [show (i : Int) + ((m + 1 : Nat) : Int) - 1 = (i : Int) + m by omega, show (j : Int) + ((m + 1 : Nat) : Int) - 1 = (j : Int) + m by omega]; exact j5, j6⟩
      have ih := ih (by omega) M2 F3 hA2
      rw [show ((m + 1 : Nat) : Int) + 1 = (m : Int) + 1 + 1 from rfl] at ih
      have no : ¬ rnB B x i y ((m + 1 : Nat) : Int) = true → P 125 7 [some (2, 47), some (0, (i : Int)), some (1, (mset (rnB B x i y) (m + 1) : Int)), none, some (0, (m : Int) + 1 + 1)] [] WF M2 (0, 0) Q := fun h => by
        rw [mset_skip h] at ih
        exact ih
      have ye : rnB B x i y ((m + 1 : Nat) : Int) = true → P 125 7 [some (2, 47), some (0, (i : Int)), some (1, orL (mset (rnB B x i y) (m + 1) : Int) (shlL 1 ((m : Int) + 1))), none, some (0, (m : Int) + 1 + 1)] [] WF M2 (0, 0) Q := fun h => by
        rw [show (m : Int) + 1 = ((m + 1 : Nat) : Int) from rfl, sbL (mset_le _ (n := 63) (by omega)) (by omega), mset_put h]
        exact ih
      have i31 : lws B x 3 = 1 → M2 47 14 = 1 := fun h => by rw [g14, if_pos h]
      have i30 : ¬ lws B x 3 = 1 → M2 47 14 = 0 := fun h => by rw [g14, if_neg h]
      refine t_Runs_sizesAt_20 hP (fun q => no ?_) (fun _ q => no ?_) (fun q1 q2 q3 => ye ?_) (fun q1 q2 q3 q4 => no ?_) (fun q1 q2 q3 q4 => ye ?_)
      · rw [key]
        omega
      · rw [key]
        omega
      · rw [key]
        exact ⟨by omega, by omega, Or.inl (by omega)⟩
      · rw [key]
        rw [p1, p2] at q4
        omega
      · rw [key]
        rw [p1, p2] at q4
        exact ⟨by omega, by omega, Or.inr (by omega)⟩
end RX
