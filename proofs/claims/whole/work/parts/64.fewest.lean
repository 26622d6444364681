/-! fewest -/
theorem sub_dec {p U : Nat} (h : p &&& U = p) : (p % 2 = 1 → U % 2 = 1) ∧ (p / 2) &&& (U / 2) = p / 2 := by
  have e : ∀ a : Nat, a = a % 2 + 2 ^ 1 * (a / 2) := fun a => by omega
  have h2 : (p % 2 + 2 ^ 1 * (p / 2)) &&& (U % 2 + 2 ^ 1 * (U / 2)) = p % 2 + 2 ^ 1 * (p / 2) := by rw [← e p, ← e U]; exact h
  rw [and_split _ _ (by omega) (by omega)] at h2
  have b : p % 2 &&& U % 2 ≤ U % 2 := Nat.and_le_right
  have b2 : p % 2 &&& U % 2 ≤ p % 2 := Nat.and_le_left
  omega
theorem sub_L2 : ∀ (w U s : Nat), U < 2 ^ w → s &&& U = s → (s + 2 ^ w - U - 1) &&& U = s
  | 0, U, s, h, hs => by
    have : U = 0 := by simpa using h
    subst this
    rw [Nat.and_zero] at hs ⊢
    exact hs
  | w + 1, U, s, h, hs => by
    obtain ⟨d1, d2⟩ := sub_dec hs
    have ih := sub_L2 w (U / 2) (s / 2) (by rw [Nat.pow_succ] at h; omega) d2
    have sl : s ≤ U := by rw [← hs]; exact Nat.and_le_right
    have sl2 : s / 2 ≤ U / 2 := by omega
    have hp : 2 ^ (w + 1) = 2 * 2 ^ w := by rw [Nat.pow_succ]; omega
    have hU : U / 2 < 2 ^ w := by omega
    obtain ⟨c, hc, hc2⟩ : ∃ c, c < 2 ∧ s + 2 ^ (w + 1) - U - 1 = c + 2 ^ 1 * (s / 2 + 2 ^ w - U / 2 - 1) ∧ c = (s + 1 + U) % 2 := by
      refine ⟨(s + 1 + U) % 2, by omega, ?_, rfl⟩
      rw [hp]
      have := d1
      generalize 2 ^ w = W at *
      omega
    rw [hc2.1]
    have e : U = U % 2 + 2 ^ 1 * (U / 2) := by omega
    rw [e, and_split _ _ (by omega) (by omega), ← e, ih]
    have k : c &&& U % 2 = s % 2 := by
      have : U % 2 = 0 ∨ U % 2 = 1 := by omega
      rcases this with u | u
      · rw [u, Nat.and_zero]
        omega
      · rw [u, Nat.and_one_is_mod]
        omega
    rw [k]
    omega
theorem sub_nx : ∀ (w U s : Nat), U < 2 ^ w → s &&& U = s → (s = U → (s + 2 ^ w - U) &&& U = 0) ∧ (s ≠ U → s < ((s + 2 ^ w - U) &&& U) ∧ ((s + 2 ^ w - U) &&& U) &&& U = (s + 2 ^ w - U) &&& U ∧ ∀ p, p &&& U = p → s < p → (s + 2 ^ w - U) &&& U ≤ p)
  | 0, U, s, h, hs => by
    have : U = 0 := by simpa using h
    subst this
    rw [Nat.and_zero] at hs
    exact ⟨fun _ => Nat.and_zero _, fun q => absurd hs.symm q⟩
  | w + 1, U, s, h, hs => by
    obtain ⟨d1, d2⟩ := sub_dec hs
    have hp : 2 ^ (w + 1) = 2 * 2 ^ w := by rw [Nat.pow_succ]; omega
    have hU : U / 2 < 2 ^ w := by omega
    obtain ⟨i1, i2⟩ := sub_nx w (U / 2) (s / 2) hU d2
    have sl : s ≤ U := by rw [← hs]; exact Nat.and_le_right
    have e : U = U % 2 + 2 ^ 1 * (U / 2) := by omega
    by_cases c : U % 2 = 1 ∧ s % 2 = 0
    · have v : (s + 2 ^ (w + 1) - U) &&& U = s + 1 := by
        have l := sub_L2 w (U / 2) (s / 2) hU d2
        have q : s + 2 ^ (w + 1) - U = 1 + 2 ^ 1 * (s / 2 + 2 ^ w - U / 2 - 1) := by
          rw [hp]
          generalize 2 ^ w = W at *
          omega
        rw [q, e, and_split _ _ (by omega) (by omega), ← e, l, c.1]
        show (1 &&& 1) + 2 ^ 1 * (s / 2) = s + 1
        rw [show (1 : Nat) &&& 1 = 1 from rfl]
        omega
      rw [v]
      refine ⟨fun q => by omega, fun _ => ⟨by omega, ?_, fun p _ hp => by omega⟩⟩
      have e2 : s + 1 = 1 + 2 ^ 1 * (s / 2) := by omega
      rw [e2, e, and_split _ _ (by omega) (by omega), d2, c.1]
      rfl
    · have v : (s + 2 ^ (w + 1) - U) &&& U = 2 * ((s / 2 + 2 ^ w - U / 2) &&& (U / 2)) := by
        have q : s + 2 ^ (w + 1) - U = 0 + 2 ^ 1 * (s / 2 + 2 ^ w - U / 2) := by
          rw [hp]
          generalize 2 ^ w = W at *
          omega
        rw [q, e, and_split _ _ (by omega) (by omega), ← e, Nat.zero_and, Nat.zero_add]
      rw [v]
      refine ⟨fun q => by rw [i1 (by omega)], fun q => ?_⟩
      obtain ⟨j1, j2, j3⟩ := i2 (by omega)
      obtain ⟨z, hz⟩ : ∃ z, z = (s / 2 + 2 ^ w - U / 2) &&& (U / 2) := ⟨_, rfl⟩
      rw [← hz] at j1 j2 j3 ⊢
      refine ⟨by omega, ?_, fun p hp1 hp2 => ?_⟩
      · have e2 : 2 * z = 0 + 2 ^ 1 * z := by omega
        rw [e2, e, and_split _ _ (by omega) (by omega), j2, Nat.zero_and]
      · obtain ⟨k1, k2⟩ := sub_dec hp1
        have := j3 (p / 2) k2 (by omega)
        omega
theorem subI {U s : Nat} (hU : U < 1024) (hs : s ≤ U) : andI ((s : Int) - U) U = (((s + 2 ^ 32 - U) &&& U : Nat) : Int) := by
  unfold andI
  have e : Int32.ofInt ((s : Int) - U) = nI (s + 2 ^ 32 - U) := by
    apply Int32.toBitVec_inj.mp
    rw [z_bI, Int32.toBitVec_ofInt]
    apply BitVec.eq_of_toNat_eq
    rw [BitVec.toNat_ofInt, BitVec.toNat_ofNat]
    omega
  rw [e, z_I, z_andI, z_tI (Nat.lt_of_le_of_lt Nat.and_le_right (by omega))]
def pc10 (p : Nat) : Nat := cntB (fun k => p.testBit k.toNat) 10
def bts (p : Nat) : Int → Bool := fun y => decide (0 ≤ y) && p.testBit y.toNat
theorem bts_n (p y : Nat) : bts p y = p.testBit y := by
  unfold bts
  rw [Int.toNat_natCast, decide_eq_true (by omega), Bool.true_and]
theorem bts_m {p : Nat} (h : p < 1024) : mset (bts p) 10 = p := (mset_eq fun j => by
  rw [bts_n]
  by_cases e : j < 10
  · rw [decide_eq_true e, Bool.true_and]
  · have w : 2 ^ 10 ≤ 2 ^ j := Nat.pow_le_pow_right (by decide) (by omega)
    rw [decide_eq_false e, Bool.false_and, Nat.testBit_lt_two_pow (Nat.lt_of_lt_of_le h w)]).symm
theorem pop32 : ∀ x, x < 1024 → (let a := x - (x / 2 &&& 1431655765); let c := (a &&& 858993459) + (a / 4 &&& 858993459); let d := (c + c / 16) &&& 252645135; let e := d + d / 256; let f := e + e / 65536; f &&& 63 = pc10 x ∧ (x / 2 &&& 1431655765) ≤ x ∧ c < 1000000 ∧ c + c / 16 < 1000000 ∧ e < 1000000 ∧ f < 1000000) := by decide +kernel
section FW
variable {P : Jg_} {L : Nat} {xs : Nat → Int32} {A B : Mm_}
theorem s_bit32 (hP : Clo P) {Q : Qp_} {M : Mm_} {x : Nat} (hx : x < 1024) (k : Q (some (0, (pc10 x : Int))) WF M) : P 158 0 [some (0, (x : Int))] [] WF M (0, 0) Q := by
  obtain ⟨h1, h2, h3, h4, h5, h6⟩ := pop32 x hx
  obtain ⟨a, ha⟩ : ∃ a, a = x - (x / 2 &&& 1431655765) := ⟨_, rfl⟩
  rw [← ha] at h1 h3 h4 h5 h6
  obtain ⟨c, hc⟩ : ∃ c, c = (a &&& 858993459) + (a / 4 &&& 858993459) := ⟨_, rfl⟩
  rw [← hc] at h1 h3 h4 h5 h6
  obtain ⟨d, hd⟩ : ∃ d, d = (c + c / 16) &&& 252645135 := ⟨_, rfl⟩
  rw [← hd] at h1 h5 h6
  obtain ⟨e, he⟩ : ∃ e, e = d + d / 256 := ⟨_, rfl⟩
  rw [← he] at h1 h5 h6
  have E1 : (x : Int) - andI (ushrI x 1) 1431655765 = (a : Int) := by
    rw [show ushrI (x : Int) 1 = ((x / 2 : Nat) : Int) from ushrI_n (k := 1) (by omega) (by decide), show andI ((x / 2 : Nat) : Int) 1431655765 = ((x / 2 &&& 1431655765 : Nat) : Int) from andI_n 1431655765 (by omega)]
    omega
  have E2 : andI a 858993459 + andI (ushrI a 2) 858993459 = (c : Int) := by
    rw [show ushrI (a : Int) 2 = ((a / 4 : Nat) : Int) from ushrI_n (k := 2) (by omega) (by decide), show andI ((a / 4 : Nat) : Int) 858993459 = ((a / 4 &&& 858993459 : Nat) : Int) from andI_n 858993459 (by omega), show andI (a : Int) 858993459 = ((a &&& 858993459 : Nat) : Int) from andI_n 858993459 (by omega)]
    omega
  have E3 : (c : Int) + ushrI c 4 = ((c + c / 16 : Nat) : Int) := by
    rw [show ushrI (c : Int) 4 = ((c / 16 : Nat) : Int) from ushrI_n (k := 4) (by omega) (by decide)]
    omega
  have E4 : andI ((c + c / 16 : Nat) : Int) 252645135 = (d : Int) := by
    rw [show andI ((c + c / 16 : Nat) : Int) 252645135 = ((c + c / 16 &&& 252645135 : Nat) : Int) from andI_n 252645135 (by omega), hd]
  have E5 : (d : Int) + ushrI d 8 = (e : Int) := by
    rw [show ushrI (d : Int) 8 = ((d / 256 : Nat) : Int) from ushrI_n (k := 8) (by omega) (by decide)]
    omega
  have E6 : (e : Int) + ushrI e 16 = ((e + e / 65536 : Nat) : Int) := by
    rw [show ushrI (e : Int) 16 = ((e / 65536 : Nat) : Int) from ushrI_n (k := 16) (by omega) (by decide)]
    omega
  have E7 : andI ((e + e / 65536 : Nat) : Int) 63 = (pc10 x : Int) := by
    rw [show andI ((e + e / 65536 : Nat) : Int) 63 = ((e + e / 65536 &&& 63 : Nat) : Int) from andI_n 63 (by omega), h1]
  refine t_Integer_bitCount_0 hP ?_ ?_ ?_ ?_ ?_ ?_
  · rw [E1, E2, E3, E4, E5, E6, E7]
    exact k
  · rw [E1]
    omega
  · rw [E1, E2]
    omega
  · rw [E1, E2, E3]
    omega
  · rw [E1, E2, E3, E4, E5]
    omega
  · rw [E1, E2, E3, E4, E5, E6]
    omega
theorem s_bitsM (hP : Clo P) {Q : Qp_} {M : Mm_} {x : Nat} (hx : x < 1024) (k : Q (some (0, (pc10 x : Int))) WF M) : P 161 0 [some (0, (x : Int)), none, none] [] WF M (0, 0) Q := by
  refine t_Mo_bits_0 hP ?_
  refine lpN (n := 10) (f := fun i : Nat => P 161 4 [some (0, (x : Int)), some (0, (cntB (fun k => x.testBit k.toNat) i : Int)), some (0, (i : Int))] [] WF M (0, 0) Q) ?_ ?_ 0 (Nat.zero_le _)
  · exact t_Mo_bits_4 hP (fun _ => k) (fun q => absurd (by decide) q)
  · intro i hi ih
    have c := cntB_le (fun k => x.testBit k.toNat) i
    have tb := tbIs (a := x) (k := i) (by omega) (by omega)
    have tb2 : 0 ≤ andI (shrI (x : Int) (i : Int)) 1 ∧ andI (shrI (x : Int) (i : Int)) 1 ≤ 1 := by rw [tb]; split <;> omega
    refine t_Mo_bits_4 hP (fun q => by omega) (fun _ => ?_)
    rw [tb]
    by_cases e : x.testBit i = true
    · rw [cntB_t (by rw [Int.toNat_natCast]; exact e)] at ih
      rw [if_pos e]
      exact ih
    · rw [cntB_f (by rw [Int.toNat_natCast]; exact e)] at ih
      rw [if_neg e, Int.add_zero]
      exact ih
noncomputable def usB (B : Mm_) (x y : Int) : Bool := anyB (fun i => anyB (fun n => rnB B x i y n) 61) (B 115 x).toNat
noncomputable def useU (B : Mm_) (x : Int) (S : Int → Bool) : Nat := mset (fun y => S y && usB B x y) 10
noncomputable def eT0 (B : Mm_) (x : Int) (p : Nat) : Int := (exF B x (bts p) 0).1
/-- the least part that takes as many words -/
def FWp (B : Mm_) (x : Int) (U : Nat) (want : Int) (a : Nat) : Prop := a &&& U = a ∧ eT0 B x a = want ∧ ∀ p, p &&& U = p → eT0 B x p = want → pc10 a < pc10 p ∨ pc10 a = pc10 p ∧ a ≤ p
theorem FWp_u {x : Int} {U : Nat} {want : Int} {a b : Nat} (h : FWp B x U want a) (g : FWp B x U want b) : a = b := by
  have h1 := h.2.2 b g.1 g.2.1
  have g1 := g.2.2 a h.1 h.2.1
  omega
theorem sub_tb {p U : Nat} (h : p &&& U = p) (j : Nat) (hj : p.testBit j = true) : U.testBit j = true := by
  rw [← h, Nat.testBit_and, Bool.and_eq_true] at hj
  exact hj.2
theorem pc10_lt {p U : Nat} (hU : U < 1024) (h : p &&& U = p) (hne : p ≠ U) : pc10 p < pc10 U ∧ p < U := by
  have hle : p ≤ U := by rw [← h]; exact Nat.and_le_right
  refine ⟨?_, by omega⟩
  have : ∃ j, p.testBit j ≠ U.testBit j := by
    apply Classical.byContradiction
    intro g
    exact hne (Nat.eq_of_testBit_eq fun j => Classical.byContradiction fun q => g ⟨j, q⟩)
  obtain ⟨j, hj⟩ := this
  have hj10 : j < 10 := by
    apply Classical.byContradiction
    intro g
    have w : 2 ^ 10 ≤ 2 ^ j := Nat.pow_le_pow_right (by decide) (by omega)
    rw [Nat.testBit_lt_two_pow (show p < 2 ^ j by omega), Nat.testBit_lt_two_pow (show U < 2 ^ j by omega)] at hj
    exact hj rfl
  refine cntB_lt (k := j) hj10 (fun i _ g => ?_) ?_ ?_
  · rw [Int.toNat_natCast] at g ⊢
    exact sub_tb h i g
  · rw [Int.toNat_natCast]
    cases e : p.testBit j
    · rfl
    · rw [e, sub_tb h j e] at hj
      exact absurd rfl hj
  · rw [Int.toNat_natCast]
    cases e : U.testBit j
    · cases e2 : p.testBit j
      · rw [e, e2] at hj
        exact absurd rfl hj
      · rw [sub_tb h j e2] at e
        cases e
    · rfl
theorem EX_cong {op op' : Int → Int → Bool} {least n : Int} {F : Int → Int × Int × Int} (h : EX op least n F) (g : ∀ i s, 0 ≤ i ∧ i < n → least ≤ s ∧ s ≤ n - i → op i s = op' i s) : EX op' least n F := by
  obtain ⟨h1, h2, h3⟩ := h
  refine ⟨h1, h2, fun i hi => ?_⟩
  obtain ⟨a, b, c⟩ := h3 i hi
  refine ⟨?_, b, fun s hs ho => c s hs (by rw [g i s hi hs]; exact ho)⟩
  rcases a with a | ⟨a1, a2, a3, a4⟩
  · exact Or.inl a
  · exact Or.inr ⟨a1, a2, by rw [← g i _ hi ⟨a1, a2⟩]; exact a3, a4⟩
theorem eT_use (hR : WfR B) {x : Int} (hx : 0 ≤ B 115 x ∧ B 115 x ≤ 60) (S : Int → Bool) : eT0 B x (useU B x S) = (exF B x S 0).1 := by
  have lb := lws_bd hR x
  have e1 := exF_EX hR hx.1 S
  have e2 := exF_EX hR hx.1 (bts (useU B x S))
  have e3 : EX (opn B x (bts (useU B x S))) (lws B x 0) (B 115 x) (exF B x S) := EX_cong e1 fun i s hi hs => by
    unfold opn
    rw [Bool.eq_iff_iff, anyB_iff, anyB_iff]
    refine exists_congr fun y => and_congr_right fun hy => ?_
    have bt : bts (useU B x S) y = (S y && usB B x y) := by
      unfold useU
      rw [bts_n, mset_tb, decide_eq_true hy, Bool.true_and]
    rw [bt, Bool.and_eq_true, Bool.and_eq_true, Bool.and_eq_true]
    refine ⟨fun g => ⟨⟨g.1, ?_⟩, g.2⟩, fun g => ⟨g.1.1, g.2⟩⟩
    unfold usB
    rw [anyB_iff]
    refine ⟨i.toNat, by omega, ?_⟩
    rw [anyB_iff]
    refine ⟨s.toNat, by omega, ?_⟩
    rw [Int.toNat_of_nonneg hi.1, Int.toNat_of_nonneg (by omega)]
    exact g.2
  have u := EX_u (by omega) e3 e2
  unfold eT0
  by_cases e : B 115 x = 0
  · rw [e] at u
    exact u.1.symm
  · rw [u.2.2 0 (by omega)]
theorem FWp_all {x : Int} {U : Nat} (hU : U < 1024) {want : Int} (hw : eT0 B x U = want) (h : ∀ p, p &&& U = p → eT0 B x p = want → p = U) : FWp B x U want U := ⟨Nat.and_self _, hw, fun p h1 h2 => by rw [h p h1 h2]; omega⟩
theorem s_withRuns (hP : Clo P) {Q : Qp_} {M : Mm_} {x : Int} {S : Int → Bool} (hI : IV L xs A B M) (hx : 0 ≤ x ∧ x < B 112 0) (hL : Lk B x M) (hSp : ∀ y, S y = true → alS B x y = true) (k : Q (some (0, (useU B x S : Int))) WF M) : P 157 0 [some (2, 47), some (0, (mset S 10 : Int)), none, none, none] [] WF M (0, 0) Q := by
  have hW := hI.2.1
  obtain ⟨t0, t1, t2⟩ := rdT hI.1 hW.2.1
  have X := (hW.2.1.2.1 x (by omega)).1
  have f10 := hL.1.1
  refine t_Runs_withRuns_0 hP ?_
  refine lpN (n := (B 112 0).toNat) (f := fun y : Nat => P 157 4 [some (2, 47), some (0, (mset S 10 : Int)), some (0, (mset (fun y => S y && usB B x y) y : Int)), some (0, (y : Int)), none] [] WF M (0, 0) Q) ?_ ?_ 0 (Nat.zero_le _)
  · refine t_Runs_withRuns_4 hP (fun _ => ?_) (fun q => by omega)
    have : useU B x S = mset (fun y => S y && usB B x y) (B 112 0).toNat := mset_ext (by omega) fun y y1 y2 => by
      rw [Bool.and_eq_false_iff]
      left
      rw [Bool.eq_false_iff]
      intro g
      have := alS_bd (hSp _ g)
      omega
    rw [this] at k
    exact k
  · intro y hy ih
    refine t_Runs_withRuns_4 hP (fun q => by omega) (fun _ => ?_)
    obtain ⟨q, hq⟩ : ∃ q : Int → Bool, q = fun i => anyB (fun n => rnB B x i y n) 61 := ⟨_, rfl⟩
    have lp := lpN (n := (B 115 x).toNat) (f := fun i : Nat => ∀ W : Nat, W < 1024 → (∀ z : Nat, W.testBit z = ((mset (fun y => S y && usB B x y) y).testBit z || (decide (z = y) && (S y && anyB q i)))) → P 157 11 [some (2, 47), some (0, (mset S 10 : Int)), some (0, (W : Int)), some (0, (y : Int)), some (0, (i : Int))] [] WF M (0, 0) Q) ?_ ?_ 0 (Nat.zero_le _) (mset (fun y => S y && usB B x y) y) (mset_le _ (n := 10) (by omega)) (fun z => by simp [anyB])
    · exact lp
    · intro W hW2 hWb
      refine t_Runs_withRuns_11 hP (fun _ => ?_) (fun q => by omega) (fun q => by omega) (fun q => by omega)
      have : W = mset (fun y => S y && usB B x y) (y + 1) := mset_eq fun z => by
        rw [hWb z, mset_tb]
        by_cases e : z = y
        · rw [e, decide_eq_false (show ¬ y < y by omega), decide_eq_true rfl, decide_eq_true (show y < y + 1 by omega), hq]
          rfl
        · rw [decide_eq_false e, Bool.false_and, Bool.or_false]
          have : decide (z < y) = decide (z < y + 1) := by rw [decide_eq_decide]; omega
          rw [this]
      rw [this]
      exact ih
    · intro i hi ihi W hW2 hWb
      have ts : andI (ushrI (mset S 10 : Int) (y : Int)) 1 = if S y = true then 1 else 0 := by
        rw [tbI (mset_le _ (n := 31) (by omega)) (by omega), mset_tb, decide_eq_true (show y < 10 by omega), Bool.true_and]
      have row := hL.2.2.2 y i (by omega) (by omega)
      refine t_Runs_withRuns_11 hP (fun q => by omega) (fun _ q1 => ihi W hW2 fun z => ?_) (fun _ q1 q2 => ihi W hW2 fun z => ?_) (fun _ q1 q2 => ?_)
      · rw [ts, iteB] at q1
        rw [hWb z, q1, Bool.false_and, Bool.false_and]
      · rw [ts, iteB, Bool.not_eq_false] at q1
        have qi : q i = false := by
          rw [hq, Bool.eq_false_iff]
          intro g
          rw [anyB_iff] at g
          obtain ⟨n, n1, n2⟩ := g
          rw [row] at q2
          have := mset_tb (fun n => alS B x y && rnB B x i y n) n 61
          rw [show mset (fun n => alS B x y && rnB B x i y n) 61 = 0 by omega, Nat.zero_testBit, decide_eq_true n1, hSp _ q1, n2] at this
          cases this
        rw [hWb z, anyB_s, qi, Bool.or_false]
      · rw [ts, iteB, Bool.not_eq_false] at q1
        have qi : q i = true := by
          rw [hq, anyB_iff]
          rw [row] at q2
          obtain ⟨n, hn⟩ := Nat.exists_testBit_of_ne_zero (x := mset (fun n => alS B x y && rnB B x i y n) 61) (by omega)
          rw [mset_tb, Bool.and_eq_true, decide_eq_true_iff, Bool.and_eq_true] at hn
          exact ⟨n, hn.1, hn.2.2⟩
        rw [sbI (by omega) (by omega)]
        refine ihi _ (or_bd (n := 10) hW2 (by omega)) fun z => ?_
        rw [or_tb, hWb z, anyB_s, qi, Bool.or_true, q1]
        have : decide (y = z) = decide (z = y) := by rw [decide_eq_decide]; omega
        rw [this]
        cases decide (z = y) <;> simp
theorem weigh_val (hR : WfR B) {x : Int} (hx : 0 ≤ B 115 x ∧ B 115 x ≤ 60) {S : Int → Bool} {M : Mm_} (hE : EX (opn B x S) (lws B x 0) (B 115 x) (fun j => (M 65 j, M 66 j, M 67 j))) : M 65 0 = (exF B x S 0).1 := by
  have lb := lws_bd hR x
  obtain ⟨e1, e2, e3, e4⟩ := exF_eq (by omega) hE
  by_cases e : B 115 x = 0
  · rw [e] at e3
    exact e3
  · exact congrArg (fun t => t.1) (e2 0 (by omega))
theorem s_smallest (hP : Clo P) {Q : Qp_} {M : Mm_} {x : Int} {S : Int → Bool} (hI : IV L xs A B M) (hx : 0 ≤ x ∧ x < B 112 0) (hL : Lk B x M) (hSp : ∀ y, S y = true → alS B x y = true) (k : ∀ M' (a : Nat), IV L xs A B M' → FWp B x (useU B x S) (eT0 B x (useU B x S)) a → Q (some (0, (a : Int))) WF M') : P 159 0 [some (2, 64), some (0, (mset S 10 : Int)), none, none, none, none, none, none] [] WF M (0, 0) Q := by
  have hW := hI.2.1
  have hT := hW.2.1.1.2.1
  have X := (hW.2.1.2.1 x (by omega)).1
  refine t_Explanation_smallestSet_0 hP (s_weigh hP hI.1 hW hx hL hSp fun M1 F1 hE => ?_)
  rw [weigh_val hW.2.2.2 X hE, ← eT_use hW.2.2.2 X S]
  have hI1 := hI.fr F1
  have hL1 : Lk B x M1 := Lk_c hT hL fun c hc => F1 c (by omega)
  refine t_Explanation_smallestSet_3 hP (s_withRuns hP hI1 hx hL1 hSp (t_Explanation_smallestSet_8 hP ?_))
  obtain ⟨U, hU⟩ : ∃ U, U = useU B x S := ⟨_, rfl⟩
  have Ub : U < 1024 := by rw [hU]; exact mset_lt _ 10
  have Ut : ∀ y : Nat, U.testBit y = true → S y = true := fun y h => by
    rw [hU] at h
    unfold useU at h
    rw [mset_tb, Bool.and_eq_true, Bool.and_eq_true] at h
    exact h.2.1
  rw [← hU] at k ⊢
  obtain ⟨w, hw⟩ : ∃ w, w = eT0 B x U := ⟨_, rfl⟩
  rw [← hw] at k ⊢
  refine s_bit32 hP Ub (t_Explanation_smallestSet_11 hP ?_)
  refine lpN (n := pc10 U) (f := fun sz : Nat => ∀ M2, IV L xs A B M2 → Lk B x M2 → (∀ p, p &&& U = p → eT0 B x p = w → sz ≤ pc10 p) → P 159 14 [some (2, 64), none, some (0, w), some (0, (U : Int)), some (0, (pc10 U : Int)), some (0, (sz : Int)), none, none] [] WF M2 (0, 0) Q) ?_ ?_ 0 (Nat.zero_le _) M1 hI1 hL1 (fun p _ _ => Nat.zero_le _)
  · intro M2 hI2 hL2 hn
    refine t_Explanation_smallestSet_14 hP (fun _ => k M2 U hI2 (FWp_all Ub hw.symm fun p p1 p2 => ?_)) (fun q => by omega)
    apply Classical.byContradiction
    intro g
    have := pc10_lt Ub p1 g
    have := hn p p1 p2
    omega
  · intro sz hsz ih M2 hI2 hL2 hn
    have pcU : pc10 U ≤ 10 := cntB_le _ _
    refine t_Explanation_smallestSet_14 hP (fun q => by omega) (fun _ => ?_)
    refine lpN (n := U) (f := fun p : Nat => ∀ M3, IV L xs A B M3 → Lk B x M3 → (∀ q, q &&& U = q → eT0 B x q = w → sz < pc10 q ∨ sz = pc10 q ∧ p ≤ q) → P 159 19 [some (2, 64), none, some (0, w), some (0, (U : Int)), some (0, (pc10 U : Int)), some (0, (sz : Int)), some (0, (p : Int)), none] [] WF M3 (0, 0) Q) ?_ ?_ 0 (Nat.zero_le _) M2 hI2 hL2 (fun q q1 q2 => by have := hn q q1 q2; omega)
    · intro M3 hI3 hL3 hm
      refine t_Explanation_smallestSet_19 hP (fun _ => ih M3 hI3 hL3 fun q q1 q2 => ?_) (fun q => by omega) (fun q => by omega)
      have := hm q q1 q2
      by_cases e : q = U
      · rw [e]
        omega
      · have := pc10_lt Ub q1 e
        omega
    · intro p hp ihp M3 hI3 hL3 hm
      have nx : (p &&& U = p → eT0 B x p = w → pc10 p = sz → False) → ∀ M4, IV L xs A B M4 → Lk B x M4 → P 159 19 [some (2, 64), none, some (0, w), some (0, (U : Int)), some (0, (pc10 U : Int)), some (0, (sz : Int)), some (0, (p : Int) + 1), none] [] WF M4 (0, 0) Q := fun g M4 hI4 hL4 => by
        refine ihp M4 hI4 hL4 fun q q1 q2 => ?_
        have := hm q q1 q2
        by_cases e : q = p ∧ pc10 q = sz
        · exact (g (e.1 ▸ q1) (e.1 ▸ q2) (e.1 ▸ e.2)).elim
        · by_cases e2 : q = p
          · rw [e2] at this e ⊢
            omega
          · omega
      have an := andnI U (a := p) (by omega)
      have sub : andI (p : Int) (xorI (U : Int) (-1)) = 0 ↔ p &&& U = p := by
        rw [an, Int.natCast_eq_zero]
        constructor
        · intro h
          apply Nat.eq_of_testBit_eq
          intro j
          have := andn_tb p U j
          rw [h, Nat.zero_testBit] at this
          rw [Nat.testBit_and]
          cases hj : p.testBit j <;> cases hu : U.testBit j <;> rw [hj, hu] at this <;> simp at this ⊢
        · intro h
          rw [h, Nat.xor_self]
      refine t_Explanation_smallestSet_19 hP (fun q => by omega) (fun _ q => nx (fun g _ _ => q (sub.mpr g)) M3 hI3 hL3) (fun _ q => ?_)
      have psub := sub.mp q
      refine s_bit32 hP (by omega) (t_Explanation_smallestSet_30 hP (fun q2 => nx (fun _ _ g => q2 (by omega)) M3 hI3 hL3) (fun q2 => ?_))
      have pm := bts_m (p := p) (by omega)
      have hSp2 : ∀ y, bts p y = true → alS B x y = true := by
        intro y hy
        unfold bts at hy
        rw [Bool.and_eq_true, decide_eq_true_iff] at hy
        have hy3 := hSp _ (Ut _ (sub_tb psub _ hy.2))
        rw [Int.toNat_of_nonneg hy.1] at hy3
        exact hy3
      have sw := s_weigh hP (Q := fun v w' M' => P 159 41 [some (2, 64), none, some (0, w), some (0, (U : Int)), some (0, (pc10 U : Int)), some (0, (sz : Int)), some (0, (p : Int)), none] (v.toList ++ []) w' M' (0, 0) Q) hI3.1 hW hx hL3 hSp2 fun M4 F4 hE4 => ?_
      · rw [pm] at sw
        exact sw
      · rw [weigh_val hW.2.2.2 X hE4]
        have hI4 := hI3.fr F4
        have hL4 : Lk B x M4 := Lk_c hT hL3 fun c hc => F4 c (by omega)
        refine t_Explanation_smallestSet_41 hP (fun q3 => nx (fun _ g _ => q3 g) M4 hI4 hL4) (fun q3 => k M4 p hI4 ⟨psub, q3, fun r r1 r2 => ?_⟩)
        have := hm r r1 r2
        omega
theorem tw_fewest (hP : Clo P) {x k : Int} : Two P L xs 160 [some (2, 0), some (0, x), some (0, k), none] 162 [some (2, 112), some (0, x), some (0, k), none, none, none, none, none] := by
  intro M hI
  have hI0 := hI
  obtain ⟨A, B, hI⟩ := hI
  have hI1 := hI
  obtain ⟨hS, hW, hC, hSn, hN⟩ := hI
  obtain ⟨t0, t1, t2⟩ := rdT hS hW.2.1
  have lb := lws_bd hW.2.2.2 x
  by_cases h1 : 0 ≤ x ∧ x < B 112 0
  · have X := rdX hS hW.2.1 (x := x) (by omega)
    by_cases h2 : 0 ≤ k ∧ k ≤ B 112 0
    · have hSp : ∀ y, srcB B x k y = true → alS B x y = true := fun y h => srcB_al h2.2 h
      obtain ⟨S, hS0⟩ : ∃ S, S = srcB B x k := ⟨_, rfl⟩
      have srm : (srS B x k : Int) = (mset S 10 : Int) := by rw [hS0]; rfl
      obtain ⟨U, hU⟩ : ∃ U, U = useU B x S := ⟨_, rfl⟩
      have Ub : U < 1024 := by rw [hU]; exact mset_lt _ 10
      obtain ⟨w, hw⟩ : ∃ w, w = eT0 B x U := ⟨_, rfl⟩
      have Ut : ∀ y : Nat, U.testBit y = true → S y = true := fun y h => by
        rw [hU] at h
        unfold useU at h
        rw [mset_tb, Bool.and_eq_true, Bool.and_eq_true] at h
        exact h.2.1
      refine ⟨fun r M1 => (∃ a : Nat, r = (a : Int) ∧ FWp B x U w a) ∧ IV L xs A B M1, fun Q kk => ?_, fun r M1 hR => ?_⟩
      · refine t_BW_fewest_0 hP (s_refusal hP hS hW.2.1 fun r _ _ hr => ?_)
        have := hr h1 h2
        subst this
        refine t_BW_fewest_4 hP (fun _ => ?_) (fun q => absurd rfl q)
        refine s_lookedAt hP hI1 h1 h2 fun M' hI' h9 hL => t_BW_fewest_15 hP ?_
        rw [srm]
        refine s_smallest hP hI' h1 hL (by rw [hS0]; exact hSp) fun M2 a hI2 ha => t_BW_fewest_16 hP (kk _ _ ⟨⟨a, rfl, ?_⟩, hI2⟩)
        rw [← hU, ← hw] at ha
        exact ha
      · obtain ⟨⟨a, rfl, ha⟩, hI2⟩ := hR
        refine ⟨hI2.ro, fun Q kk => ?_⟩
        obtain ⟨u0, u1, u2⟩ := rdT hI2.1 hW.2.1
        have fin : ∀ (b : Nat) M', IV L xs A B M' → FWp B x U w b → Q (some (0, (b : Int))) WF M' := fun b M' hI' hb => by
          rw [FWp_u hb ha]
          exact kk M' ⟨A, B, hI'⟩
        refine t_Mo_fewest_0 hP ?_ ?_ ?_ ?_ ?_ <;> intros <;> first | (exfalso; omega) | skip
        refine s_look2 hP hI2 h1 h2 fun M3 hI3 hL3 _ => t_Mo_fewest_16 hP ?_
        rw [hL3.1, srm]
        refine s_expM2 hP hI3 h1 hL3 (by rw [hS0]; exact fun y h => h) fun M4 hI4 hL4 hE4 _ => t_Mo_fewest_21 hP ?_
        have w4 : M4 132 0 = w := by rw [hE4.2.2.1, hw, hU, eT_use hW.2.2.2 X.1 S]
        rw [w4]
        -- the sizes
        have sizes : ∀ sz : Nat, sz ≤ pc10 U → ∀ M5, IV L xs A B M5 → LM B x k M5 → (∀ p, p &&& U = p → eT0 B x p = w → sz ≤ pc10 p) → P 162 44 [some (2, 112), some (0, x), none, some (0, w), some (0, (U : Int)), some (0, (sz : Int)), none, none] [] WF M5 (0, 0) Q := by
          have pcU : pc10 U ≤ 10 := cntB_le _ _
          have body : ∀ sz : Nat, sz ≤ pc10 U → (sz < pc10 U → ∀ M5, IV L xs A B M5 → LM B x k M5 → (∀ p, p &&& U = p → eT0 B x p = w → sz + 1 ≤ pc10 p) → P 162 44 [some (2, 112), some (0, x), none, some (0, w), some (0, (U : Int)), some (0, ((sz + 1 : Nat) : Int)), none, none] [] WF M5 (0, 0) Q) → ∀ M5, IV L xs A B M5 → LM B x k M5 → (∀ p, p &&& U = p → eT0 B x p = w → sz ≤ pc10 p) → P 162 44 [some (2, 112), some (0, x), none, some (0, w), some (0, (U : Int)), some (0, (sz : Int)), none, none] [] WF M5 (0, 0) Q := by
            intro sz hsz nxt M5 hI5 hL5 hn
            refine t_Mo_fewest_44 hP (s_bitsM hP Ub (t_Mo_fewest_47 hP (fun q => by omega) (fun _ => ?_)))
            have key : ∀ d s : Nat, U - s ≤ d → s &&& U = s → ∀ M6, IV L xs A B M6 → LM B x k M6 → (∀ q, q &&& U = q → eT0 B x q = w → sz < pc10 q ∨ sz = pc10 q ∧ s ≤ q) → P 162 52 [some (2, 112), some (0, x), none, some (0, w), some (0, (U : Int)), some (0, (sz : Int)), some (0, (s : Int)), some (0, 1)] [] WF M6 (0, 0) Q := by
              intro d
              induction d using Nat.strongRecOn with
              | _ d ihd =>
              intro s hd hs M6 hI6 hL6 hm
              have sl : s ≤ U := by rw [← hs]; exact Nat.and_le_right
              obtain ⟨n1, n2⟩ := sub_nx 32 U s (by omega) hs
              have nv := subI (U := U) (s := s) Ub sl
              obtain ⟨z, hz⟩ : ∃ z, z = (s + 2 ^ 32 - U) &&& U := ⟨_, rfl⟩
              rw [← hz] at n1 n2 nv
              have go : (eT0 B x s = w → pc10 s = sz → False) → ∀ M7, IV L xs A B M7 → LM B x k M7 → (andI ((s : Int) - U) U = 0 → P 162 52 [some (2, 112), some (0, x), none, some (0, w), some (0, (U : Int)), some (0, (sz : Int)), some (0, andI ((s : Int) - U) U), some (0, 0)] [] WF M7 (0, 0) Q) ∧ (¬ andI ((s : Int) - U) U = 0 → P 162 52 [some (2, 112), some (0, x), none, some (0, w), some (0, (U : Int)), some (0, (sz : Int)), some (0, andI ((s : Int) - U) U), some (0, 1)] [] WF M7 (0, 0) Q) := by
                intro g M7 hI7 hL7
                rw [nv]
                refine ⟨fun q => ?_, fun q => ?_⟩
                · have se : s = U := by
                    apply Classical.byContradiction
                    intro e
                    have := (n2 e).1
                    omega
                  have hn2 : ∀ p, p &&& U = p → eT0 B x p = w → sz < pc10 p := fun p p1 p2 => by
                    have := hm p p1 p2
                    by_cases e : p = U
                    · rw [e]
                      have g2 : pc10 U ≠ sz := fun h => g (by rw [se]; exact hw.symm) (by rw [se]; exact h)
                      omega
                    · have b := pc10_lt Ub p1 e
                      omega
                  have lt : sz < pc10 U := hn2 U (Nat.and_self _) hw.symm
                  refine t_Mo_fewest_52 hP (fun _ => nxt lt M7 hI7 hL7 fun p p1 p2 => ?_) (fun q => absurd rfl q)
                  have := hn2 p p1 p2
                  omega
                · have se : s ≠ U := fun e => by
                    have := n1 e
                    omega
                  obtain ⟨m1, m2, m3⟩ := n2 se
                  refine ihd (U - z) (by omega) z (Nat.le_refl _) m2 M7 hI7 hL7 fun r r1 r2 => ?_
                  have := hm r r1 r2
                  by_cases e : r = s
                  · by_cases e2 : pc10 r = sz
                    · exact (g (e ▸ r2) (e ▸ e2)).elim
                    · omega
                  · by_cases e3 : s < r
                    · have := m3 r r1 e3
                      omega
                    · omega
              refine t_Mo_fewest_52 hP (fun q => absurd q (by decide)) (fun _ => ?_)
              refine s_bitsM hP (by omega) (t_Mo_fewest_56 hP (fun q1 q2 => (go (fun _ h => q1 (by omega)) M6 hI6 hL6).1 q2) (fun q1 q2 => (go (fun _ h => q1 (by omega)) M6 hI6 hL6).2 q2) (fun q1 => ?_))
              have pm := bts_m (p := s) (by omega)
              have hSp2 : ∀ y, bts s y = true → srcB B x k y = true := by
                intro y hy
                unfold bts at hy
                rw [Bool.and_eq_true, decide_eq_true_iff] at hy
                have hy3 := Ut _ (sub_tb hs _ hy.2)
                rw [Int.toNat_of_nonneg hy.1, hS0] at hy3
                exact hy3
              have sw := s_expM2 hP (Q := fun v w' M' => P 162 62 [some (2, 112), some (0, x), none, some (0, w), some (0, (U : Int)), some (0, (sz : Int)), some (0, (s : Int)), none] (v.toList ++ []) w' M' (0, 0) Q) hI6 h1 hL6 hSp2 fun M7 hI7 hL7 hE7 _ => ?_
              · rw [pm] at sw
                exact sw
              · have e7 : M7 132 0 = eT0 B x s := hE7.2.2.1
                refine t_Mo_fewest_62 hP (fun q2 q3 => (go (fun h _ => q2 (by omega)) M7 hI7 hL7).1 q3) (fun q2 q3 => (go (fun h _ => q2 (by omega)) M7 hI7 hL7).2 q3) (fun q2 => fin s M7 hI7 ⟨hs, by omega, fun r r1 r2 => ?_⟩)
                have := hm r r1 r2
                omega
            refine key U 0 (by omega) (Nat.zero_and _) M5 hI5 hL5 fun r r1 r2 => ?_
            have := hn r r1 r2
            omega
          intro sz hsz
          exact lpN (n := pc10 U) (f := fun sz : Nat => ∀ M5, IV L xs A B M5 → LM B x k M5 → (∀ p, p &&& U = p → eT0 B x p = w → sz ≤ pc10 p) → P 162 44 [some (2, 112), some (0, x), none, some (0, w), some (0, (U : Int)), some (0, (sz : Int)), none, none] [] WF M5 (0, 0) Q) (body _ (Nat.le_refl _) fun h => by omega) (fun sz hsz ih => body sz (by omega) fun _ => ih) sz hsz
        -- the sources with runs
        refine lpI (lo := 0) (n := 3660) (f := fun q => ∀ W : Nat, W < 1024 → (∀ y : Nat, W.testBit y = true ↔ y < 10 ∧ S y = true ∧ ∃ i n : Int, (0 ≤ i ∧ i < 60) ∧ (0 ≤ n ∧ n ≤ 60) ∧ 61 * i + n < q ∧ rnB B x i y n = true) → P 162 30 [some (2, 112), some (0, x), none, some (0, w), some (0, (W : Int)), some (0, q), none, none] [] WF M4 (0, 0) Q) ?_ ?_ 0 (by omega) (by omega) 0 (by decide) (fun y => ⟨fun h => (by rw [Nat.zero_testBit] at h; cases h), fun h => by obtain ⟨_, _, i, n, a, b, c, _⟩ := h; omega⟩)
        · intro W hW2 hWb
          refine t_Mo_fewest_30 hP (fun _ => ?_) (fun q => by omega)
          have WU : W = U := by
            rw [hU]
            refine mset_eq fun y => ?_
            rw [Bool.eq_iff_iff, hWb y, Bool.and_eq_true, decide_eq_true_iff, Bool.and_eq_true]
            refine and_congr_right fun _ => and_congr_right fun _ => ?_
            unfold usB
            rw [anyB_iff]
            constructor
            · rintro ⟨i, n, a, b, c, d⟩
              have : i < B 115 x := by
                apply Classical.byContradiction
                intro g
                rw [rnB_no (by omega)] at d
                cases d
              refine ⟨i.toNat, by omega, ?_⟩
              rw [anyB_iff]
              refine ⟨n.toNat, by omega, ?_⟩
              rw [Int.toNat_of_nonneg a.1, Int.toNat_of_nonneg b.1]
              exact d
            · rintro ⟨i, i1, g⟩
              rw [anyB_iff] at g
              obtain ⟨n, n1, g⟩ := g
              exact ⟨i, n, by omega, by omega, by omega, g⟩
          rw [WU]
          exact sizes 0 (Nat.zero_le _) M4 hI4 hL4 fun p _ _ => Nat.zero_le _
        · intro q q0 q1 ih W hW2 hWb
          refine t_Mo_fewest_30 hP (fun q => by omega) (fun _ => ?_)
          obtain ⟨i, n, hi, hn, hq⟩ : ∃ i n : Int, (0 ≤ i ∧ i < 60) ∧ (0 ≤ n ∧ n ≤ 60) ∧ q = 61 * i + n := ⟨q / 61, q % 61, by omega, by omega, by omega⟩
          have v := hL4.2.2 i n hi hn
          have mb : mset (fun y => srcB B x k y && rnB B x i y n) 10 < 1024 := mset_lt _ 10
          rw [hq, v, orI_n (by omega) (by omega), ← hq]
          refine ih _ (Nat.or_lt_two_pow (n := 10) hW2 mb) fun y => ?_
          rw [Nat.testBit_or, Bool.or_eq_true, hWb y, mset_tb, Bool.and_eq_true, decide_eq_true_iff, Bool.and_eq_true, ← hS0]
          constructor
          · rintro (⟨a, b, i', n', c, d, e, f⟩ | ⟨a, b, c⟩)
            · exact ⟨a, b, i', n', c, d, by omega, f⟩
            · exact ⟨a, b, i, n, hi, hn, by omega, c⟩
          · rintro ⟨a, b, i', n', c, d, e, f⟩
            by_cases e2 : 61 * i' + n' = q
            · have e3 : i' = i := by omega
              have e4 : n' = n := by omega
              rw [e3, e4] at f
              exact Or.inr ⟨a, b, f⟩
            · exact Or.inl ⟨a, b, i', n', c, d, by omega, f⟩
    · refine ⟨fun r M1 => r = -1002 ∧ M1 = M, fun Q kk => ?_, fun r M1 hR => ?_⟩
      · refine t_BW_fewest_0 hP (s_refusal hP hS hW.2.1 fun r r1 r2 r3 => ?_)
        have := r2 h1 h2
        subst this
        exact t_BW_fewest_4 hP (fun q => by omega) (fun _ => t_BW_fewest_16 hP (kk _ _ ⟨rfl, rfl⟩))
      · obtain ⟨rfl, rfl⟩ := hR
        refine ⟨hI0.ro, fun Q kk => ?_⟩
        refine t_Mo_fewest_0 hP ?_ ?_ ?_ ?_ ?_ <;> intros <;> first | (exfalso; omega) | exact kk _ hI0
  · refine ⟨fun r M1 => r = -1001 ∧ M1 = M, fun Q kk => ?_, fun r M1 hR => ?_⟩
    · refine t_BW_fewest_0 hP (s_refusal hP hS hW.2.1 fun r r1 r2 r3 => ?_)
      have := r1 h1
      subst this
      exact t_BW_fewest_4 hP (fun q => by omega) (fun _ => t_BW_fewest_16 hP (kk _ _ ⟨rfl, rfl⟩))
    · obtain ⟨rfl, rfl⟩ := hR
      refine ⟨hI0.ro, fun Q kk => ?_⟩
      refine t_Mo_fewest_0 hP ?_ ?_ ?_ ?_ ?_ <;> intros <;> first | (exfalso; omega) | exact kk _ hI0
end FW
