/-! STOPS, MARKS: stop, mark, stands, about -/
theorem dec1 {z : Int} (h : z = 0 ∨ z = 1) : (decide (z = 1) = true ↔ ¬ z = 0) := by
  rw [decide_eq_true_iff]
  omega
def hasP (B : Mm_) (x i j y : Int) : Prop := ∃ f, 0 ≤ f ∧ f + (j - i) < B 115 y ∧ ∀ q, 0 ≤ q ∧ q ≤ j - i → B 116 (60 * x + (i + q)) = B 116 (60 * y + (f + q))
noncomputable def stn (A B : Mm_) (m : Int) : Int := if A 123 m = -1 then 1 else @ite Int ((B 114 (A 123 m) < B 114 (A 120 m) ∨ B 114 (A 123 m) = B 114 (A 120 m) ∧ A 123 m < A 120 m) ∧ hasP B (A 120 m) (A 121 m) (A 122 m) (A 123 m)) (Classical.propDecidable _) 0 2
theorem stn_1 {A B : Mm_} {m : Int} (h : A 123 m = -1) : stn A B m = 1 := if_pos h
theorem stn_0 {A B : Mm_} {m : Int} (h : ¬ A 123 m = -1) (g : B 114 (A 123 m) < B 114 (A 120 m) ∨ B 114 (A 123 m) = B 114 (A 120 m) ∧ A 123 m < A 120 m) (f : hasP B (A 120 m) (A 121 m) (A 122 m) (A 123 m)) : stn A B m = 0 := by
  unfold stn
  rw [if_neg h, if_pos ⟨g, f⟩]
theorem stn_2 {A B : Mm_} {m : Int} (h : ¬ A 123 m = -1) (g : ¬ ((B 114 (A 123 m) < B 114 (A 120 m) ∨ B 114 (A 123 m) = B 114 (A 120 m) ∧ A 123 m < A 120 m) ∧ hasP B (A 120 m) (A 121 m) (A 122 m) (A 123 m))) : stn A B m = 2 := by
  unfold stn
  rw [if_neg h, if_neg g]
section MK
variable {P : Jg_} {L : Nat} {xs : Nat → Int32} {A B : Mm_}
theorem s_stopMany (hP : Clo P) {Q : Qp_} {M : Mm_} {x : Int} {n : Nat} (hx : 0 ≤ x ∧ x < 10) (hn : M 115 x = n) (hn2 : n ≤ 60) (hs : ∀ j, M 117 j = 0 ∨ M 117 j = 1) (k : Q (some (0, (cntB (fun i => decide (M 117 (60 * x + i) = 1)) n : Int))) WF M) : P 32 0 [some (2, 112), some (0, x), none, none] [] WF M (0, 0) Q := by
  refine t_Mo_stopMany_0 hP ?_
  refine lpN (n := n) (f := fun i : Nat => P 32 4 [some (2, 112), some (0, x), some (0, (cntB (fun i => decide (M 117 (60 * x + i) = 1)) i : Int)), some (0, (i : Int))] [] WF M (0, 0) Q) ?_ ?_ 0 (Nat.zero_le _)
  · have c := cntB_le (fun i => decide (M 117 (60 * x + i) = 1)) n
    exact t_Mo_stopMany_4 hP (fun _ => k) (fun q => by omega) (fun q => by omega)
  · intro i hi ih
    have c := cntB_le (fun i => decide (M 117 (60 * x + i) = 1)) i
    refine t_Mo_stopMany_4 hP (fun q => by omega) (fun _ q => ?_) (fun _ q => ?_)
    · rw [cntB_f (by rw [dec1 (hs _)]; exact fun h => h q)] at ih
      rw [Int.add_zero]
      exact ih
    · rw [cntB_t (by rw [dec1 (hs _)]; exact q)] at ih
      exact ih
theorem s_repeats (hP : Clo P) {Q : Qp_} {M : Mm_} {y f x i j : Int} (hS : Sc B M) (hT : WfT B) (hy : 0 ≤ y ∧ y < 10) (hx : 0 ≤ x ∧ x < 10) (hi : 0 ≤ i ∧ i ≤ j ∧ j < B 115 x) (hf : 0 ≤ f ∧ f + j - i < B 115 y) (k1 : (∀ q, 0 ≤ q ∧ q ≤ j - i → B 116 (60 * x + (i + q)) = B 116 (60 * y + (f + q))) → Q (some (0, 1)) WF M) (k0 : ¬ (∀ q, 0 ≤ q ∧ q ≤ j - i → B 116 (60 * x + (i + q)) = B 116 (60 * y + (f + q))) → Q (some (0, 0)) WF M) : P 40 0 [some (2, 3 + 2 * y), some (0, f), some (2, 3 + 2 * x), some (0, i), some (0, j), none] [] WF M (0, 0) Q := by
  obtain ⟨x1, x2, x3, x4, -⟩ := rdX hS hT hx
  obtain ⟨y1, y2, y3, y4, -⟩ := rdX hS hT hy
  refine t_Text_repeats_0 hP (tx_of hy) (tx_of hx) (fun q => by omega) (fun _ _ => ?_) (fun _ q => by omega)
  refine lpI (lo := 0) (n := j - i + 1) (f := fun z => (∀ q, 0 ≤ q ∧ q < z → B 116 (60 * x + (i + q)) = B 116 (60 * y + (f + q))) → P 40 14 [some (2, 3 + 2 * y), some (0, f), some (2, 3 + 2 * x), some (0, i), some (0, j), some (0, z)] [] WF M (0, 0) Q) ?_ ?_ 0 (by omega) (by omega) (fun q h => by omega)
  · intro h
    refine t_Text_repeats_14 hP (tx_of hy) (tx_of hx) (fun _ => k1 fun q hq => h q (by omega)) (fun q => by omega) (fun q => by omega)
  · intro z z0 z1 ih h
    have w1 := (rdW hS hT hy (i := f + z) (by omega)).1
    have w2 := (rdW hS hT hx (i := i + z) (by omega)).1
    refine t_Text_repeats_14 hP (tx_of hy) (tx_of hx) (fun q => by omega) (fun _ q => ?_) (fun _ q => k0 fun h2 => ?_)
    · rw [w1, w2] at q
      refine ih fun p hp => ?_
      by_cases e : p = z
      · rw [e]
        exact q.symm
      · exact h p (by omega)
    · rw [w1, w2] at q
      exact q (h2 z (by omega)).symm
theorem s_hasPassage (hP : Clo P) {Q : Qp_} {M : Mm_} {y x i j : Int} (hS : Sc B M) (hT : WfT B) (hy : 0 ≤ y ∧ y < 10) (hx : 0 ≤ x ∧ x < 10) (hi : 0 ≤ i ∧ i ≤ j ∧ j < B 115 x) (k1 : hasP B x i j y → Q (some (0, 1)) WF M) (k0 : ¬ hasP B x i j y → Q (some (0, 0)) WF M) : P 41 0 [some (2, 3 + 2 * y), some (2, 3 + 2 * x), some (0, i), some (0, j), none] [] WF M (0, 0) Q := by
  obtain ⟨x1, x2, x3, x4, -⟩ := rdX hS hT hx
  obtain ⟨y1, y2, y3, y4, -⟩ := rdX hS hT hy
  refine t_Text_hasPassage_0 hP (tx_of hy) (tx_of hx) ?_
  have st : ∀ z, 0 ≤ z → B 115 y ≤ z + j - i → (∀ f, 0 ≤ f → f < z → ¬ (∀ q, 0 ≤ q ∧ q ≤ j - i → B 116 (60 * x + (i + q)) = B 116 (60 * y + (f + q)))) → z ≤ 60 → P 41 2 [some (2, 3 + 2 * y), some (2, 3 + 2 * x), some (0, i), some (0, j), some (0, z)] [] WF M (0, 0) Q := by
    intro z z0 z1 h hz
    refine t_Text_hasPassage_2 hP (tx_of hy) (tx_of hx) (fun _ => k0 ?_) (fun q => by omega)
    rintro ⟨f, f1, f2, f3⟩
    exact h f f1 (by omega) f3
  by_cases hh : B 115 y ≤ 0 + j - i
  · exact st 0 (by omega) hh (fun f _ _ => by omega) (by omega)
  refine lpI (lo := 0) (n := B 115 y - (j - i)) (f := fun z => (∀ f, 0 ≤ f → f < z → ¬ (∀ q, 0 ≤ q ∧ q ≤ j - i → B 116 (60 * x + (i + q)) = B 116 (60 * y + (f + q)))) → P 41 2 [some (2, 3 + 2 * y), some (2, 3 + 2 * x), some (0, i), some (0, j), some (0, z)] [] WF M (0, 0) Q) ?_ ?_ 0 (by omega) (by omega) (fun f _ _ => by omega)
  · exact fun h => st _ (by omega) (by omega) h (by omega)
  · intro z z0 z1 ih h
    refine t_Text_hasPassage_2 hP (tx_of hy) (tx_of hx) (fun q => by omega) (fun _ => ?_)
    refine s_repeats hP hS hT hy hx hi (by omega) (fun g => t_Text_hasPassage_16 hP (tx_of hy) (tx_of hx) (fun q => by omega) (fun _ => k1 ⟨z, z0, by omega, g⟩)) (fun g => t_Text_hasPassage_16 hP (tx_of hy) (tx_of hx) (fun _ => ih fun f f0 f1 => ?_) (fun q => absurd rfl q))
    by_cases e : f = z
    · rw [e]
      exact g
    · exact h f f0 (by omega)
theorem s_isThere (hP : Clo P) {Q : Qp_} {M : Mm_} {y x i j : Int} (hS : Sc B M) (hT : WfT B) (hy : 0 ≤ y ∧ y < 10) (hx : 0 ≤ x ∧ x < 10) (hi : 0 ≤ i ∧ i ≤ j ∧ j < B 115 x) (k1 : hasP B x i j y → Q (some (0, 1)) WF M) (k0 : ¬ hasP B x i j y → Q (some (0, 0)) WF M) : P 47 0 [some (2, 112), some (0, x), some (0, i), some (0, j), some (0, y), none, none] [] WF M (0, 0) Q := by
  obtain ⟨x1, x2, x3, x4, -⟩ := rdX hS hT hx
  obtain ⟨y1, y2, y3, y4, -⟩ := rdX hS hT hy
  refine t_Mo_isThere_0 hP ?_
  have st : ∀ z, 0 ≤ z → B 115 y ≤ z + j - i → (∀ f, 0 ≤ f → f < z → ¬ (∀ q, 0 ≤ q ∧ q ≤ j - i → B 116 (60 * x + (i + q)) = B 116 (60 * y + (f + q)))) → z ≤ 60 → P 47 2 [some (2, 112), some (0, x), some (0, i), some (0, j), some (0, y), some (0, z), none] [] WF M (0, 0) Q := by
    intro z z0 z1 h hz
    refine t_Mo_isThere_2 hP (fun _ => k0 ?_) (fun q => by omega)
    rintro ⟨f, f1, f2, f3⟩
    exact h f f1 (by omega) f3
  by_cases hh : B 115 y ≤ 0 + j - i
  · exact st 0 (by omega) hh (fun f _ _ => by omega) (by omega)
  refine lpI (lo := 0) (n := B 115 y - (j - i)) (f := fun z => (∀ f, 0 ≤ f → f < z → ¬ (∀ q, 0 ≤ q ∧ q ≤ j - i → B 116 (60 * x + (i + q)) = B 116 (60 * y + (f + q)))) → P 47 2 [some (2, 112), some (0, x), some (0, i), some (0, j), some (0, y), some (0, z), none] [] WF M (0, 0) Q) ?_ ?_ 0 (by omega) (by omega) (fun f _ _ => by omega)
  · exact fun h => st _ (by omega) (by omega) h (by omega)
  · intro z z0 z1 ih h
    refine t_Mo_isThere_2 hP (fun q => by omega) (fun _ => ?_)
    refine lpI (lo := i) (n := j + 1) (f := fun v => (∀ q, 0 ≤ q ∧ q < v - i → B 116 (60 * x + (i + q)) = B 116 (60 * y + (z + q))) → P 47 14 [some (2, 112), some (0, x), some (0, i), some (0, j), some (0, y), some (0, z), some (0, v)] [] WF M (0, 0) Q) ?_ ?_ i (by omega) (by omega) (fun q hq => by omega)
    · intro g
      refine t_Mo_isThere_14 hP (fun _ q => by omega) (fun _ _ => k1 ⟨z, z0, by omega, fun q hq => g q (by omega)⟩) (fun q => by omega) (fun q => by omega) (fun q => by omega)
    · intro v v0 v1 ihv g
      have w1 := (rdW hS hT hy (i := z + (v - i)) (by omega)).2.1
      have w2 := (rdW hS hT hx (i := v) (by omega)).2.1
      have e1 : z + v - i = z + (v - i) := by omega
      refine t_Mo_isThere_14 hP (fun q => by omega) (fun q => by omega) (fun _ q _ => ?_) (fun _ _ q => by omega) (fun _ q => ?_)
      · rw [e1, w1, w2] at q
        refine ih fun f f0 f1 => ?_
        by_cases e : f = z
        · rw [e]
          intro h2
          have := h2 (v - i) (by omega)
          rw [show i + (v - i) = v by omega] at this
          exact q this
        · exact h f f0 (by omega)
      · rw [e1, w1, w2] at q
        refine ihv fun p hp => ?_
        by_cases e : p = v - i
        · rw [e, show i + (v - i) = v by omega]
          exact q
        · exact g p (by omega)
theorem s_standing_c (hP : Clo P) {Q : Qp_} {M : Mm_} {m : Int} (hS : Sc B M) (hW : WfC L xs B) (hSn : Sn A M) (hN : WfN A B) (hm : 0 ≤ m ∧ m < A 112 9) (k : Q (some (0, stn A B m)) WF M) : P 42 0 [some (2, 27), some (0, m), none, none] [] WF M (0, 0) Q := by
  obtain ⟨t0, t1, t2⟩ := rdT hS hW.2.1
  have hm3 := hN.2.2.1
  obtain ⟨⟨a1, a2, a3, a4⟩, a5, a6, a7, a8⟩ := hN.2.2.2.1 m hm
  have m1 : M 28 m = A 120 m := (congrFun (hSn.r 28) m).trans a1
  have m2 : M 29 m = A 121 m := (congrFun (hSn.r 29) m).trans a2
  have m3 : M 30 m = A 122 m := (congrFun (hSn.r 30) m).trans a3
  have m4 : M 31 m = A 123 m := (congrFun (hSn.r 31) m).trans a4
  have X := rdX hS hW.2.1 (x := A 120 m) (by omega)
  by_cases h0 : A 123 m = -1
  · refine t_Marks_standing_0 hP (fun q => by omega) (fun q => by omega) (fun q => by omega) (fun q => by omega) (fun _ => ?_)
    rw [stn_1 h0] at k
    exact k
  · have Y := rdX hS hW.2.1 (x := A 123 m) (by omega)
    have fin : (B 114 (A 123 m) < B 114 (A 120 m) ∨ B 114 (A 123 m) = B 114 (A 120 m) ∧ A 123 m < A 120 m) → P 41 0 [some (2, 3 + 2 * A 123 m), some (2, 3 + 2 * A 120 m), some (0, A 121 m), some (0, A 122 m), none] [] WF M (0, 0) (fun v w' M' => P 42 42 [none, none, none, none] (v.toList ++ []) w' M' (0, 0) Q) := fun ho =>
      s_hasPassage hP hS hW.2.1 (by omega) (by omega) a6 (fun g => t_Marks_standing_42 hP (fun q => by omega) (fun _ => by rw [stn_0 h0 ho g] at k; exact k)) (fun g => t_Marks_standing_42 hP (fun _ => by rw [stn_2 h0 fun h => g h.2] at k; exact k) (fun q => absurd rfl q))
    have e5 : M (3 + 2 * M 28 m) 3 = B 114 (A 120 m) := by rw [m1]; exact X.2.2.2.2.2.1
    have e6 : M (3 + 2 * M 31 m) 3 = B 114 (A 123 m) := by rw [m4]; exact Y.2.2.2.2.2.1
    refine t_Marks_standing_0 hP (fun _ q => ?_) (fun _ q1 q2 => ?_) (fun _ q1 q2 q3 => ?_) (fun _ q1 q2 q3 => ?_) (fun q => by omega)
    · rw [m1, m2, m3, m4]
      exact fin (by omega)
    · rw [stn_2 h0 fun h => by omega] at k
      exact k
    · rw [stn_2 h0 fun h => by omega] at k
      exact k
    · rw [m1, m2, m3, m4]
      exact fin (by omega)
theorem s_standing_m (hP : Clo P) {Q : Qp_} {M : Mm_} {m : Int} (hS : Sc B M) (hW : WfC L xs B) (hSn : Sn A M) (hN : WfN A B) (hm : 0 ≤ m ∧ m < A 112 9) (k : Q (some (0, stn A B m)) WF M) : P 48 0 [some (2, 112), some (0, m)] [] WF M (0, 0) Q := by
  obtain ⟨t0, t1, t2⟩ := rdT hS hW.2.1
  have hm3 := hN.2.2.1
  obtain ⟨⟨a1, a2, a3, a4⟩, a5, a6, a7, a8⟩ := hN.2.2.2.1 m hm
  have m1 : M 120 m = A 120 m := congrFun (hSn.r 120) m
  have m2 : M 121 m = A 121 m := congrFun (hSn.r 121) m
  have m3 : M 122 m = A 122 m := congrFun (hSn.r 122) m
  have m4 : M 123 m = A 123 m := congrFun (hSn.r 123) m
  have d : M 114 = B 114 := hS.r 114
  by_cases h0 : A 123 m = -1
  · refine t_Mo_standing_0 hP (fun q => by omega) (fun q => by omega) (fun q => by omega) (fun q => by omega) (fun _ => ?_)
    rw [stn_1 h0] at k
    exact k
  · have fin : (B 114 (A 123 m) < B 114 (A 120 m) ∨ B 114 (A 123 m) = B 114 (A 120 m) ∧ A 123 m < A 120 m) → P 47 0 [some (2, 112), some (0, A 120 m), some (0, A 121 m), some (0, A 122 m), some (0, A 123 m), none, none] [] WF M (0, 0) (fun v w' M' => P 48 36 [none, none] (v.toList ++ []) w' M' (0, 0) Q) := fun ho =>
      s_isThere hP hS hW.2.1 (by omega) (by omega) a6 (fun g => t_Mo_standing_36 hP (fun q => by omega) (fun _ => by rw [stn_0 h0 ho g] at k; exact k)) (fun g => t_Mo_standing_36 hP (fun _ => by rw [stn_2 h0 fun h => g h.2] at k; exact k) (fun q => absurd rfl q))
    refine t_Mo_standing_0 hP (fun _ q => ?_) (fun _ q1 q2 => ?_) (fun _ q1 q2 q3 => ?_) (fun _ q1 q2 q3 => ?_) (fun q => by omega)
    · rw [m1, m2, m3, m4]
      rw [m1, m4, d] at q
      exact fin (by omega)
    · rw [m1, m4, d] at q1 q2
      rw [stn_2 h0 fun h => by omega] at k
      exact k
    · rw [m1, m4, d] at q1 q2
      rw [m1, m4] at q3
      rw [stn_2 h0 fun h => by omega] at k
      exact k
    · rw [m1, m2, m3, m4]
      rw [m1, m4, d] at q1 q2
      rw [m1, m4] at q3
      exact fin (by omega)
theorem s_howMany (hP : Clo P) {Q : Qp_} {M : Mm_} {x s : Int} (hS : Sc B M) (hW : WfC L xs B) (hSn : Sn A M) (hN : WfN A B) (k : Q (some (0, (cntB (fun m => decide (A 120 m = x ∧ stn A B m = s)) (A 112 9).toNat : Int))) WF M) : P 43 0 [some (2, 27), some (0, x), some (0, s), none, none] [] WF M (0, 0) Q := by
  have hm3 := hN.2.2.1
  have m0 : M 27 5 = A 112 9 := (congrFun (hSn.r 27) 5).trans hm3.2.2
  refine t_Marks_howMany_0 hP ?_
  refine lpN (n := (A 112 9).toNat) (f := fun i : Nat => P 43 4 [some (2, 27), some (0, x), some (0, s), some (0, (cntB (fun m => decide (A 120 m = x ∧ stn A B m = s)) i : Int)), some (0, (i : Int))] [] WF M (0, 0) Q) ?_ ?_ 0 (Nat.zero_le _)
  · exact t_Marks_howMany_4 hP (fun _ => k) (fun q => by omega) (fun q => by omega)
  · intro i hi ih
    have c := cntB_le (fun m => decide (A 120 m = x ∧ stn A B m = s)) i
    have m1 : M 28 i = A 120 i := (congrFun (hSn.r 28) i).trans (hN.2.2.2.1 i (by omega)).1.1
    refine t_Marks_howMany_4 hP (fun q => by omega) (fun _ q => ?_) (fun _ q => ?_)
    · rw [cntB_f (by simp only [decide_eq_true_iff]; omega)] at ih
      exact ih
    · refine s_standing_c hP hS hW hSn hN (by omega) (t_Marks_howMany_17 hP (fun q2 => ?_) (fun q2 => ?_))
      · rw [cntB_f (by simp only [decide_eq_true_iff]; exact fun h => q2 h.2)] at ih
        exact ih
      · rw [cntB_t (by simp only [decide_eq_true_iff]; exact ⟨by omega, q2⟩)] at ih
        exact ih
theorem s_marksThat (hP : Clo P) {Q : Qp_} {M : Mm_} {x s : Int} (hS : Sc B M) (hW : WfC L xs B) (hSn : Sn A M) (hN : WfN A B) (k : Q (some (0, (cntB (fun m => decide (A 120 m = x ∧ stn A B m = s)) (A 112 9).toNat : Int))) WF M) : P 49 0 [some (2, 112), some (0, x), some (0, s), none, none] [] WF M (0, 0) Q := by
  have hm3 := hN.2.2.1
  have m0 : M 112 9 = A 112 9 := hSn 112 9 (by unfold Pn; omega)
  refine t_Mo_marksThat_0 hP ?_
  refine lpN (n := (A 112 9).toNat) (f := fun i : Nat => P 49 4 [some (2, 112), some (0, x), some (0, s), some (0, (cntB (fun m => decide (A 120 m = x ∧ stn A B m = s)) i : Int)), some (0, (i : Int))] [] WF M (0, 0) Q) ?_ ?_ 0 (Nat.zero_le _)
  · have c := cntB_le (fun m => decide (A 120 m = x ∧ stn A B m = s)) (A 112 9).toNat
    exact t_Mo_marksThat_4 hP (fun _ => k) (fun q => by omega) (fun q => by omega)
  · intro i hi ih
    have c := cntB_le (fun m => decide (A 120 m = x ∧ stn A B m = s)) i
    have m1 : M 120 i = A 120 i := congrFun (hSn.r 120) i
    refine t_Mo_marksThat_4 hP (fun q => by omega) (fun _ q => ?_) (fun _ q => ?_)
    · rw [cntB_f (by simp only [decide_eq_true_iff]; omega)] at ih
      rw [Int.add_zero]
      exact ih
    · refine s_standing_m hP hS hW hSn hN (by omega) (t_Mo_marksThat_18 hP (fun q2 => ?_) (fun q2 => ?_))
      · rw [cntB_f (by simp only [decide_eq_true_iff]; exact fun h => q2 h.2)] at ih
        rw [Int.add_zero]
        exact ih
      · rw [cntB_t (by simp only [decide_eq_true_iff]; exact ⟨by omega, q2⟩)] at ih
        exact ih
theorem tw_stands (hP : Clo P) {a : Int} : Two P L xs 64 [some (2, 0), some (0, a)] 65 [some (2, 112), some (0, a)] := by
  intro M hI
  have hI0 := hI
  obtain ⟨A, B, hS, hW, hC, hSn, hN⟩ := hI
  have hm3 := hN.2.2.1
  have m0 : M 27 5 = A 112 9 := (congrFun (hSn.r 27) 5).trans hm3.2.2
  have m1 : M 112 9 = A 112 9 := hSn 112 9 (by unfold Pn; omega)
  by_cases h1 : 0 ≤ a ∧ a < A 112 9
  · refine ⟨fun r M1 => r = stn A B a ∧ M1 = M, fun Q k => ?_, fun r M1 hR => ?_⟩
    · refine t_BW_stands_0 hP ?_ ?_ ?_ <;> intros <;> first | (exfalso; omega) | skip
      exact s_standing_c hP hS hW hSn hN h1 (t_BW_stands_9 hP (k _ _ ⟨rfl, rfl⟩))
    · obtain ⟨rfl, rfl⟩ := hR
      refine ⟨hI0.ro, fun Q k => ?_⟩
      refine t_Mo_stands_0 hP ?_ ?_ ?_ <;> intros <;> first | (exfalso; omega) | skip
      exact s_standing_m hP hS hW hSn hN h1 (t_Mo_stands_13 hP (k _ hI0))
  · refine ⟨fun r M1 => r = -1001 ∧ M1 = M, fun Q k => ?_, fun r M1 hR => ?_⟩
    · refine t_BW_stands_0 hP ?_ ?_ ?_ <;> intros <;> first | (exfalso; omega) | exact k _ _ ⟨rfl, rfl⟩
    · obtain ⟨rfl, rfl⟩ := hR
      refine ⟨hI0.ro, fun Q k => ?_⟩
      refine t_Mo_stands_0 hP ?_ ?_ ?_ <;> intros <;> first | (exfalso; omega) | exact k _ hI0
theorem s_sentC (hP : Clo P) {Q : Qp_} {M : Mm_} {x : Int} (hS : Sc B M) (hW : WfC L xs B) (hSn : Sn A M) (hN : WfN A B) (hx : 0 ≤ x ∧ x < 10) (k : Q (some (0, (cntB (fun i => decide (A 117 (60 * x + i) = 1)) (B 115 x).toNat : Int) + (if 0 < B 115 x ∧ A 117 (60 * x + (B 115 x - 1)) = 0 then 1 else 0))) WF M) : P 38 0 [some (2, 3 + 2 * x), none] [] WF M (0, 0) Q := by
  obtain ⟨x1, x2, x3, x4, -⟩ := rdX hS hW.2.1 hx
  have e1 : M (3 + 2 * x) 1 = (mset (fun i => decide (A 117 (60 * x + i) = 1)) (B 115 x).toNat : Int) := (hSn _ _ (by unfold Pn; omega)).trans (hN.1 x hx)
  have c := cntB_le (fun i => decide (A 117 (60 * x + i) = 1)) (B 115 x).toNat
  have bt : 0 < B 115 x → andL (ushrL (M (3 + 2 * x) 1) (M (3 + 2 * x) 4 - 1)) 1 = if A 117 (60 * x + (B 115 x - 1)) = 1 then 1 else 0 := fun h => by
    have t := tbL (a := mset (fun i => decide (A 117 (60 * x + i) = 1)) (B 115 x).toNat) (k := (B 115 x - 1).toNat) (mset_le _ (n := 63) (by omega)) (by omega)
    rw [mset_tb, Int.toNat_of_nonneg (by omega)] at t
    rw [e1, x4, t]
    simp only [show (B 115 x - 1).toNat < (B 115 x).toNat by omega, decide_true, Bool.true_and, decide_eq_true_iff]
  have g2 := hN.2.1 (60 * x + (B 115 x - 1))
  refine t_Text_sentenceCount_0 hP (tx_of hx) (fun q => ?_) (fun q1 q2 => ?_) (fun q1 q2 => ?_)
  · rw [e1]
    refine s_bitM hP (by omega) (t_Text_sentenceCount_13 hP ?_)
    rw [if_neg (by omega)] at k
    exact k
  · rw [bt (by omega)] at q2
    have z : A 117 (60 * x + (B 115 x - 1)) = 0 := by
      rcases g2 with g2 | g2
      · exact g2
      · rw [if_pos g2] at q2
        exact absurd q2 (by decide)
    rw [e1]
    refine s_bitM hP (by omega) (t_Text_sentenceCount_13 hP ?_)
    rw [if_pos ⟨by omega, z⟩] at k
    exact k
  · rw [bt (by omega)] at q2
    have z : ¬ A 117 (60 * x + (B 115 x - 1)) = 0 := fun h => by
      rw [if_neg (by omega)] at q2
      exact absurd rfl q2
    rw [e1]
    refine s_bitM hP (by omega) (t_Text_sentenceCount_13 hP ?_)
    rw [if_neg fun h => z h.2] at k
    exact k
theorem s_sentM (hP : Clo P) {Q : Qp_} {M : Mm_} {x : Int} (hS : Sc B M) (hW : WfC L xs B) (hSn : Sn A M) (hN : WfN A B) (hx : 0 ≤ x ∧ x < 10) (k : Q (some (0, (cntB (fun i => decide (A 117 (60 * x + i) = 1)) (B 115 x).toNat : Int) + (if 0 < B 115 x ∧ A 117 (60 * x + (B 115 x - 1)) = 0 then 1 else 0))) WF M) : P 45 0 [some (2, 112), some (0, x), none] [] WF M (0, 0) Q := by
  obtain ⟨x1, x2, x3, x4, -⟩ := rdX hS hW.2.1 hx
  have m1 : M 117 = A 117 := hSn.r 117
  have c := cntB_le (fun i => decide (A 117 (60 * x + i) = 1)) (B 115 x).toNat
  have sm : ∀ Q' : Qp_, Q' (some (0, (cntB (fun i => decide (A 117 (60 * x + i) = 1)) (B 115 x).toNat : Int))) WF M → P 32 0 [some (2, 112), some (0, x), none, none] [] WF M (0, 0) Q' := fun Q' k' => by
    refine s_stopMany hP hx (n := (B 115 x).toNat) (by omega) (by omega) (by rw [m1]; exact hN.2.1) ?_
    rw [m1]
    exact k'
  have e : 60 * x + M 115 x - 1 = 60 * x + (B 115 x - 1) := by omega
  refine t_Mo_sentences_0 hP (fun q => sm _ (t_Mo_sentences_26 hP (fun _ => ?_) (fun q => absurd rfl q))) (fun q1 q2 => sm _ (t_Mo_sentences_26 hP (fun _ => ?_) (fun q => absurd rfl q))) (fun q1 q2 => sm _ (t_Mo_sentences_26 hP (fun q => by omega) (fun _ => ?_)))
  · rw [if_neg (by omega)] at k
    exact k
  · rw [m1, e] at q2
    rw [if_neg fun h => q2 h.2] at k
    exact k
  · rw [m1, e] at q2
    rw [if_pos ⟨by omega, q2⟩] at k
    exact k
theorem tw_about (hP : Clo P) {a b : Int} : Two P L xs 44 [some (2, 0), some (0, a), some (0, b), none] 50 [some (2, 112), some (0, a), some (0, b)] := by
  intro M hI
  have hI0 := hI
  obtain ⟨A, B, hS, hW, hC, hSn, hN⟩ := hI
  obtain ⟨t0, t1, t2⟩ := rdT hS hW.2.1
  by_cases h1 : 0 ≤ a ∧ a < B 112 0
  · obtain ⟨x1, x2, x3, x4, x5, x6, x7, x8⟩ := rdX hS hW.2.1 (x := a) (by omega)
    by_cases h2 : b < 0 ∨ 7 ≤ b
    · refine ⟨fun r M1 => r = -1002 ∧ M1 = M, fun Q k => ?_, fun r M1 hR => ?_⟩
      · refine t_BW_about_0 hP ?_ ?_ ?_ ?_ ?_ ?_ ?_ ?_ ?_ ?_ <;> intros <;> first | (exfalso; omega) | exact k _ _ ⟨rfl, rfl⟩
      · obtain ⟨rfl, rfl⟩ := hR
        refine ⟨hI0.ro, fun Q k => ?_⟩
        refine t_Mo_about_0 hP ?_ ?_ ?_ ?_ ?_ ?_ ?_ ?_ ?_ ?_ <;> intros <;> first | (exfalso; omega) | exact k _ hI0
    · refine ⟨fun r M1 => r = (if b = 0 then B 113 a else if b = 1 then B 114 a else if b = 2 then B 115 a else if b = 3 then (cntB (fun i => decide (A 117 (60 * a + i) = 1)) (B 115 a).toNat : Int) + (if 0 < B 115 a ∧ A 117 (60 * a + (B 115 a - 1)) = 0 then 1 else 0) else (cntB (fun m => decide (A 120 m = a ∧ stn A B m = b - 4)) (A 112 9).toNat : Int)) ∧ M1 = M, fun Q k => ?_, fun r M1 hR => ?_⟩
      · refine t_BW_about_0 hP (fun q => by omega) (fun _ q => by omega) (fun _ _ q => by omega) (fun _ _ q => ?_) (fun _ _ q => ?_) (fun _ _ q => ?_) (fun _ _ q => ?_) (fun _ _ q => ?_) (fun _ _ q => ?_) (fun _ _ q => ?_) <;> subst q
        · exact k _ _ ⟨x8, rfl⟩
        · exact k _ _ ⟨x6, rfl⟩
        · exact k _ _ ⟨x4, rfl⟩
        · exact s_sentC hP hS hW hSn hN (by omega) (t_BW_about_26 hP (k _ _ ⟨rfl, rfl⟩))
        · exact s_howMany hP hS hW hSn hN (t_BW_about_32 hP (k _ _ ⟨rfl, rfl⟩))
        · exact s_howMany hP hS hW hSn hN (t_BW_about_38 hP (k _ _ ⟨rfl, rfl⟩))
        · exact s_howMany hP hS hW hSn hN (t_BW_about_44 hP (k _ _ ⟨rfl, rfl⟩))
      · obtain ⟨rfl, rfl⟩ := hR
        refine ⟨hI0.ro, fun Q k => ?_⟩
        refine t_Mo_about_0 hP (fun q => by omega) (fun _ q => by omega) (fun _ _ q => by omega) (fun _ _ q => ?_) (fun _ _ q => ?_) (fun _ _ q => ?_) (fun _ _ q => ?_) (fun _ _ q => ?_) (fun _ _ q => ?_) (fun _ _ q => ?_) <;> subst q
        · rw [x7]
          exact k _ hI0
        · rw [x5]
          exact k _ hI0
        · rw [x3]
          exact k _ hI0
        · exact s_sentM hP hS hW hSn hN (by omega) (t_Mo_about_26 hP (k _ hI0))
        · exact t_Mo_about_27 hP (s_marksThat hP hS hW hSn hN (t_Mo_about_33 hP (k _ hI0)))
        · exact t_Mo_about_27 hP (s_marksThat hP hS hW hSn hN (t_Mo_about_33 hP (k _ hI0)))
        · exact t_Mo_about_27 hP (s_marksThat hP hS hW hSn hN (t_Mo_about_33 hP (k _ hI0)))
  · refine ⟨fun r M1 => r = -1001 ∧ M1 = M, fun Q k => ?_, fun r M1 hR => ?_⟩
    · refine t_BW_about_0 hP ?_ ?_ ?_ ?_ ?_ ?_ ?_ ?_ ?_ ?_ <;> intros <;> first | (exfalso; omega) | exact k _ _ ⟨rfl, rfl⟩
    · obtain ⟨rfl, rfl⟩ := hR
      refine ⟨hI0.ro, fun Q k => ?_⟩
      refine t_Mo_about_0 hP ?_ ?_ ?_ ?_ ?_ ?_ ?_ ?_ ?_ ?_ <;> intros <;> first | (exfalso; omega) | exact k _ hI0
end MK
