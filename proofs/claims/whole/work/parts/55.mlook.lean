/-! look, isRun, placeOf, fromOf, as the reference has them; reach -/
noncomputable def Rb (B : Mm_) (x k y i : Int) (j : Nat) (i' n z : Int) : Bool := (decide (z < y) && (srcB B x k z && rnB B x i' z n)) || (decide (z = y) && (srcB B x k y && ((decide (i' < i) && rnB B x i' y n) || (decide (i' = i) && anyB (fun q => isR B (lws B x) x i' y q n) j))))
section ML
variable {P : Jg_} {L : Nat} {xs : Nat → Int32} {B : Mm_}
theorem s_look (hP : Clo P) {Q : Qp_} {M : Mm_} {x k : Int} (hS : Sc B M) (hW : WfC L xs B) (hx : 0 ≤ x ∧ x < B 112 0) (hk : 0 ≤ k ∧ k ≤ B 112 0) (kk : ∀ M', Fm M M' → M' 112 30 = (srS B x k : Int) → (∀ what, 0 ≤ what ∧ what < 7 → M' 129 what = lws B x what) → (∀ i n, 0 ≤ i ∧ i < 60 → 0 ≤ n ∧ n ≤ 60 → M' 131 (61 * i + n) = (mset (fun y => srcB B x k y && rnB B x i y n) 10 : Int)) → Q none WF M') : P 140 0 [some (2, 112), some (0, x), some (0, k), none, none, none] [] WF M (0, 0) Q := by
  obtain ⟨t0, t1, t2⟩ := rdT hS hW.2.1
  have X := rdX hS hW.2.1 (x := x) (by omega)
  have lb := lws_bd hW.2.2.2 x
  refine t_Mo_look_0 hP ?_
  rw [X.2.2.2.2.1]
  refine s_findRules hP hS hW.2.2.2 fun M1 F1 h129 => t_Mo_look_6 hP ?_
  have hS1 := hS.fr F1
  refine s_sourcesOf hP hS1 hW (h129 4 (by decide)) hx hk (t_Mo_look_11 hP ?_)
  obtain ⟨M2, hM2⟩ : ∃ M2, M2 = updM M1 112 30 (srS B x k : Int) := ⟨_, rfl⟩
  rw [← hM2]
  have F2 : Fm M M2 := by rw [hM2]; exact ((Fm.refl M).fr F1).v
  have s30 : M2 112 30 = (srS B x k : Int) := by rw [hM2, upd_s]
  have l129 : ∀ what, 0 ≤ what ∧ what < 7 → M2 129 what = lws B x what := fun what hw => by rw [hM2, upd_c (by decide)]; exact h129 what hw
  clear hM2
  have Sb := srS_lt B x k
  -- the three loops
  have lp3 : ∀ y : Nat, (y : Int) ≤ k → ∀ M', Fr 131 131 M2 M' → (∀ i n, 0 ≤ i ∧ i < 60 → 0 ≤ n ∧ n ≤ 60 → M' 131 (61 * i + n) = (mset (Rb B x k y 0 0 i n) 10 : Int)) → P 140 26 [some (2, 112), some (0, x), some (0, k), some (0, (y : Int)), none, none] [] WF M' (0, 0) Q := by
    intro y hy
    refine lpN (n := k.toNat) (f := fun y : Nat => ∀ M', Fr 131 131 M2 M' → (∀ i n, 0 ≤ i ∧ i < 60 → 0 ≤ n ∧ n ≤ 60 → M' 131 (61 * i + n) = (mset (Rb B x k y 0 0 i n) 10 : Int)) → P 140 26 [some (2, 112), some (0, x), some (0, k), some (0, (y : Int)), none, none] [] WF M' (0, 0) Q) ?_ ?_ y (by omega)
    · intro M' F' h131
      refine t_Mo_look_26 hP (fun _ => kk M' (F2.fr F') (by rw [F' 112 (by omega)]; exact s30) (fun what hw => by rw [F' 129 (by omega)]; exact l129 what hw) fun i n hi hn => ?_) (fun q => by omega)
      rw [h131 i n hi hn]
      refine congrArg _ (mset_cong fun z hz => ?_)
      unfold Rb
      by_cases e : (z : Int) < (k.toNat : Int)
      · rw [decide_eq_true e, decide_eq_false (show ¬ (z : Int) = (k.toNat : Int) by omega), Bool.true_and, Bool.false_and, Bool.or_false]
      · have sf : ∀ q : Int, ¬ q < k → srcB B x k q = false := fun q hq => by unfold srcB; rw [decide_eq_false_iff_not]; omega
        rw [decide_eq_false e, Bool.false_and, Bool.false_or, sf (z : Int) (by omega), sf (k.toNat : Int) (by omega), Bool.false_and, Bool.false_and, Bool.and_false]
    · intro y hy ih M' F' h131
      have Y := rdX hS hW.2.1 (x := y) (by omega)
      refine t_Mo_look_26 hP (fun q => by omega) (fun _ => ?_)
      by_cases hsrc : srcB B x k y = true
      · refine lpN (n := (B 115 x).toNat) (f := fun i : Nat => ∀ M', Fr 131 131 M2 M' → (∀ i' n, 0 ≤ i' ∧ i' < 60 → 0 ≤ n ∧ n ≤ 60 → M' 131 (61 * i' + n) = (mset (Rb B x k y i 0 i' n) 10 : Int)) → P 140 31 [some (2, 112), some (0, x), some (0, k), some (0, (y : Int)), some (0, (i : Int)), none] [] WF M' (0, 0) Q) ?_ ?_ 0 (Nat.zero_le _) M' F' h131
        · intro M' F' h131
          have n1 : M' 115 x = B 115 x := by rw [F' 115 (by omega), F2.1 115 (by omega)]; exact X.2.2.1
          have n30 : M' 112 30 = (srS B x k : Int) := by rw [F' 112 (by omega)]; exact s30
          refine t_Mo_look_31 hP (fun _ => ?_) (fun q => by omega) (fun q => by omega)
          refine ih M' F' fun i n hi hn => ?_
          rw [h131 i n hi hn]
          refine congrArg _ (mset_cong fun z hz => ?_)
          unfold Rb
          have c1 : decide ((z : Int) < ((y + 1 : Nat) : Int)) = (decide ((z : Int) < y) || decide ((z : Int) = y)) := by
            rw [← Bool.decide_or, decide_eq_decide]
            omega
          have c2 : ∀ q : Int, decide (i < (0 : Int)) = false := fun _ => decide_eq_false (by omega)
          rw [c1, c2 0]
          have af : ∀ v : Int, anyB (fun q => isR B (lws B x) x i v q n) 0 = false := fun _ => rfl
          rw [af, af]
          simp only [Bool.false_and, Bool.and_false, Bool.or_false]
          by_cases e : (z : Int) = y
          · rw [e, decide_eq_false (show ¬ (y : Int) < y by omega), decide_eq_true rfl, hsrc]
            simp only [Bool.false_and, Bool.false_or, Bool.true_and]
            by_cases e2 : i < ((B 115 x).toNat : Int)
            · rw [decide_eq_true e2, Bool.true_and]
            · rw [decide_eq_false e2, Bool.false_and]
              cases hr : rnB B x i y n
              · rfl
              · rw [rnB_no (by omega)] at hr
                cases hr
          · rw [decide_eq_false e]
            simp only [Bool.false_and, Bool.or_false]
        · intro i hi ihi M' F' h131
          have n1 : M' 115 x = B 115 x := by rw [F' 115 (by omega), F2.1 115 (by omega)]; exact X.2.2.1
          have n30 : M' 112 30 = (srS B x k : Int) := by rw [F' 112 (by omega)]; exact s30
          have tb : andI (shrI (M' 112 30) (y : Int)) 1 = 1 := by
            rw [n30, tbIs (by omega) (by omega), srS_tb, decide_eq_true (show y < 10 by omega), hsrc]
            rfl
          refine t_Mo_look_31 hP (fun q => by omega) (fun _ q => absurd tb q) (fun _ _ => ?_)
          refine lpN (n := (B 115 y).toNat) (f := fun j : Nat => ∀ M', Fr 131 131 M2 M' → (∀ i' n, 0 ≤ i' ∧ i' < 60 → 0 ≤ n ∧ n ≤ 60 → M' 131 (61 * i' + n) = (mset (Rb B x k y i j i' n) 10 : Int)) → P 140 47 [some (2, 112), some (0, x), some (0, k), some (0, (y : Int)), some (0, (i : Int)), some (0, (j : Int))] [] WF M' (0, 0) Q) ?_ ?_ 0 (Nat.zero_le _) M' F' h131
          · intro M' F' h131
            have n2 : M' 115 y = B 115 y := by rw [F' 115 (by omega), F2.1 115 (by omega)]; exact Y.2.2.1
            refine t_Mo_look_47 hP (fun _ => ?_) (fun q => by omega)
            refine ihi M' F' fun i' n hi' hn => ?_
            rw [h131 i' n hi' hn]
            refine congrArg _ (mset_cong fun z hz => ?_)
            unfold Rb
            have c1 : decide (i' < ((i + 1 : Nat) : Int)) = (decide (i' < (i : Int)) || decide (i' = i)) := by
              rw [← Bool.decide_or, decide_eq_decide]
              omega
            have c2 : anyB (fun q => isR B (lws B x) x i' y q n) (B 115 y).toNat = rnB B x i' y n := by
              unfold rnB
              rw [anyB_ext (n := (B 115 y).toNat) (N := 60) (by omega) fun q q1 q2 => ?_]
              by_cases hl : n < lws B x 0
              · exact isR_no (by omega)
              · exact isR_no (by omega)
            rw [c1, c2, show anyB (fun q => isR B (lws B x) x i' y q n) 0 = false from rfl, Bool.and_false, Bool.or_false, Bool.and_or_distrib_right]
          · intro j hj ihj M' F' h131
            have n2 : M' 115 y = B 115 y := by rw [F' 115 (by omega), F2.1 115 (by omega)]; exact Y.2.2.1
            refine t_Mo_look_47 hP (fun q => by omega) (fun _ => ?_)
            refine s_runFrom hP ((hS.fm F2).fr F') hW (by omega) (by omega) (by omega) (by omega) (fun what hw => by rw [F' 129 (by omega)]; exact l129 what hw) fun M3 F3 h3 => t_Mo_look_60 hP ?_
            refine ihj M3 (F'.trans F3) fun i' n hi' hn => ?_
            rw [h3, h131 i' n hi' hn]
            have c0 : isR B (lws B x) x i y j (61 * i' + n - 61 * i) = (decide (i' = i) && isR B (lws B x) x i' y j n) := by
              by_cases e : i' = i
              · rw [e, decide_eq_true rfl, Bool.true_and, show 61 * (i : Int) + n - 61 * i = n by omega]
              · rw [decide_eq_false e, Bool.false_and]
                exact isR_no (by omega)
            have tgt : ∀ z : Nat, Rb B x k y i (j + 1) i' n z = (Rb B x k y i j i' n z || (decide ((z : Int) = y) && (decide (i' = i) && isR B (lws B x) x i' y j n))) := fun z => by
              unfold Rb
              rw [anyB_s, hsrc]
              cases decide ((z : Int) < y) <;> cases decide ((z : Int) = y) <;> cases decide (i' < (i : Int)) <;> cases decide (i' = (i : Int)) <;> cases anyB (fun q => isR B (lws B x) x i' y q n) j <;> cases isR B (lws B x) x i' y j n <;> simp
            rw [c0]
            by_cases hc : (decide (i' = i) && isR B (lws B x) x i' y j n) = true
            · rw [if_pos ⟨by decide, hc⟩, sbI (mset_le _ (n := 31) (by omega)) (by omega)]
              refine congrArg _ (mset_eq fun z => ?_)
              rw [or_tb, mset_tb, tgt, hc, Bool.and_true, Bool.and_or_distrib_left]
              by_cases e : z = y
              · rw [e, decide_eq_true (show y < 10 by omega)]
                simp
              · rw [decide_eq_false (show ¬ y = z by omega), decide_eq_false (show ¬ (z : Int) = y by omega), Bool.and_false]
            · rw [if_neg fun g => hc g.2]
              refine congrArg _ (mset_cong fun z hz => ?_)
              rw [tgt, Bool.eq_false_iff.mpr hc, Bool.and_false, Bool.or_false]
      · have nx : P 140 26 [some (2, 112), some (0, x), some (0, k), some (0, (y : Int) + 1), none, none] [] WF M' (0, 0) Q := by
          refine ih M' F' fun i n hi hn => ?_
          rw [h131 i n hi hn]
          refine congrArg _ (mset_cong fun z hz => ?_)
          unfold Rb
          have c1 : decide ((z : Int) < ((y + 1 : Nat) : Int)) = (decide ((z : Int) < y) || decide ((z : Int) = y)) := by
            rw [← Bool.decide_or, decide_eq_decide]
            omega
          have af : ∀ v : Int, anyB (fun q => isR B (lws B x) x i v q n) 0 = false := fun _ => rfl
          rw [c1, af, af, decide_eq_false (show ¬ i < (0 : Int) by omega)]
          simp only [Bool.false_and, Bool.and_false, Bool.or_false]
          by_cases e : (z : Int) = y
          · rw [e, Bool.eq_false_iff.mpr hsrc]
            simp
          · rw [decide_eq_false e, Bool.or_false]
        have n1 : M' 115 x = B 115 x := by rw [F' 115 (by omega), F2.1 115 (by omega)]; exact X.2.2.1
        have n30 : M' 112 30 = (srS B x k : Int) := by rw [F' 112 (by omega)]; exact s30
        have tb : ¬ andI (shrI (M' 112 30) (y : Int)) 1 = 1 := by
          rw [n30, tbIs (by omega) (by omega), srS_tb, Bool.eq_false_iff.mpr hsrc, Bool.and_false]
          decide
        exact t_Mo_look_31 hP (fun _ => nx) (fun _ _ => nx) (fun _ q => absurd q tb)
  refine lpI (lo := 0) (n := 3660) (f := fun a => ∀ M', Fr 131 131 M2 M' → (∀ q, 0 ≤ q ∧ q < a → M' 131 q = 0) → P 140 14 [some (2, 112), some (0, x), some (0, k), some (0, a), none, none] [] WF M' (0, 0) Q) ?_ ?_ 0 (by omega) (by omega) M2 (Fr.refl _ _ _) (fun q hq => by omega)
  · intro M' F' h0
    refine t_Mo_look_14 hP (fun _ => ?_) (fun q => by omega)
    refine lp3 0 (by omega) M' F' fun i n hi hn => ?_
    rw [h0 _ (by omega), mset_zero fun z hz => ?_]
    · rfl
    · unfold Rb
      rw [decide_eq_false (show ¬ (z : Int) < ((0 : Nat) : Int) by omega), decide_eq_false (show ¬ i < (0 : Int) by omega), show anyB (fun q => isR B (lws B x) x i ((0 : Nat) : Int) q n) 0 = false from rfl]
      simp
  · intro a a0 a1 ih M' F' h0
    refine t_Mo_look_14 hP (fun q => by omega) (fun _ => ih _ (F'.u (by omega)) fun q hq => ?_)
    by_cases e : q = a
    · rw [e, upd_s]
    · rw [upd_i e]
      exact h0 q (by omega)
theorem s_isRun (hP : Clo P) {Q : Qp_} {M : Mm_} {x i y j : Int} {n : Nat} (hS : Sc B M) (hW : WfC L xs B) (hx : 0 ≤ x ∧ x < 10) (hy : 0 ≤ y ∧ y < 10) (hi : 0 ≤ i ∧ i + n ≤ B 115 x) (hj : 0 ≤ j ∧ j ≤ 60) (hn : lws B x 0 ≤ n) (hM : ∀ what, 0 ≤ what ∧ what < 7 → M 129 what = lws B x what) (k1 : isR B (lws B x) x i y j n = true → Q (some (0, 1)) WF M) (k0 : isR B (lws B x) x i y j n = false → Q (some (0, 0)) WF M) : P 143 0 [some (2, 112), some (0, x), some (0, i), some (0, y), some (0, j), some (0, (n : Int)), none, none, none] [] WF M (0, 0) Q := by
  have X := rdX hS hW.2.1 hx
  have Y := rdX hS hW.2.1 hy
  have lb := lws_bd hW.2.2.2 x
  have m0 := hM 0 (by decide)
  have m1 := hM 1 (by decide)
  have m2 := hM 2 (by decide)
  have m3 := hM 3 (by decide)
  have m118 : M 118 = B 118 := hS.r 118
  have m119 : M 119 = B 119 := hS.r 119
  have wx := fun {q : Int} (hq : 0 ≤ q ∧ q < B 115 x) => rdW hS hW.2.1 hx hq
  have wy := fun {q : Int} (hq : 0 ≤ q ∧ q < B 115 y) => rdW hS hW.2.1 hy hq
  have lk1 : ∀ v w, (v = w) → lkB B (lws B x 2) v w = true := fun v w h => by unfold lkB; rw [decide_eq_true_iff]; exact Or.inl h
  have lk0 : ∀ v w, ¬ v = w → ¬ lws B x 2 = 1 → lkB B (lws B x 2) v w = false := fun v w h g => by unfold lkB; rw [decide_eq_false_iff_not]; rintro (q | q); exact h q; exact g q.1
  have lk2 : ∀ v w, ¬ v = w → ¬ B 118 v = B 118 w → lkB B (lws B x 2) v w = false := fun v w h g => by unfold lkB; rw [decide_eq_false_iff_not]; rintro (q | q); exact h q; exact g q.2
  have lk3 : ∀ v w, lws B x 2 = 1 → B 118 v = B 118 w → lkB B (lws B x 2) v w = true := fun v w h g => by unfold lkB; rw [decide_eq_true_iff]; exact Or.inr ⟨h, g⟩
  by_cases hjn : j + n ≤ B 115 y
  · have a1 := wx (q := i) (by omega)
    have a2 := wy (q := j) (by omega)
    have b1 := wx (q := i + n - 1) (by omega)
    have b2 := wy (q := j + n - 1) (by omega)
    have off : (lkB B (lws B x 2) (B 116 (60 * x + i)) (B 116 (60 * y + j)) = false ∨ lkB B (lws B x 2) (B 116 (60 * x + (i + n - 1))) (B 116 (60 * y + (j + n - 1))) = false) → P 143 38 [none, none, none, none, none, none, none, none, none] [] WF M (0, 0) Q := fun h => by
      refine t_Mo_isRun_38 hP (k0 ?_)
      rw [Bool.eq_false_iff]
      intro g
      unfold isR at g
      rw [decide_eq_true_iff] at g
      rcases h with h | h
      · rw [h] at g
        exact absurd g.2.2.2.1 (by decide)
      · rw [h] at g
        exact absurd g.2.2.2.2.1 (by decide)
    have on : lkB B (lws B x 2) (B 116 (60 * x + i)) (B 116 (60 * y + j)) = true → lkB B (lws B x 2) (B 116 (60 * x + (i + n - 1))) (B 116 (60 * y + (j + n - 1))) = true → P 143 46 [some (2, 112), some (0, x), some (0, i), some (0, y), some (0, j), some (0, (n : Int)), some (0, 0), some (0, 0), some (0, 0)] [] WF M (0, 0) Q := by
      intro f1 f2
      refine lpN (n := n) (f := fun m : Nat => P 143 46 [some (2, 112), some (0, x), some (0, i), some (0, y), some (0, j), some (0, (n : Int)), some (0, (slp B (lws B x 2) x i y j m : Int)), some (0, (rar B x i m : Int)), some (0, (m : Int))] [] WF M (0, 0) Q) ?_ ?_ 0 (Nat.zero_le _)
      · have key : isR B (lws B x) x i y j n = true ↔ (slp B (lws B x 2) x i y j n : Int) ≤ lws B x 1 ∧ (lws B x 3 = 1 ∨ (n : Int) / 2 ≤ (rar B x i n : Int)) := by
          unfold isR
          rw [decide_eq_true_iff, Int.toNat_natCast]
          exact ⟨fun g => ⟨g.2.2.2.2.2.1, g.2.2.2.2.2.2⟩, fun g => ⟨hn, hi.2, hjn, f1, f2, g.1, g.2⟩⟩
        refine t_Mo_isRun_46 hP (fun _ q => k0 ?_) (fun _ q1 q2 => k1 ?_) (fun _ q1 q2 q3 => k0 ?_) (fun _ q1 q2 q3 => k1 ?_) (fun q => absurd (Int.le_refl _) q) (fun q => absurd (Int.le_refl _) q) (fun q => absurd (Int.le_refl _) q) (fun q => absurd (Int.le_refl _) q)
        · rw [Bool.eq_false_iff, Ne, key]
          omega
        · rw [key]
          exact ⟨by omega, Or.inl (by omega)⟩
        · rw [Bool.eq_false_iff, Ne, key]
          omega
        · rw [key]
          exact ⟨by omega, Or.inr (by omega)⟩
      · intro m hm ih
        have c1 := wx (q := i + m) (by omega)
        have c2 := wy (q := j + m) (by omega)
        have sb : slp B (lws B x 2) x i y j m ≤ m := cntB_le _ _
        have rb : rar B x i m ≤ m := cntB_le _ _
        have nx : ∀ d : Int, (d = if lkB B (lws B x 2) (B 116 (60 * x + (i + m))) (B 116 (60 * y + (j + m))) = true then 0 else 1) → P 143 68 [some (2, 112), some (0, x), some (0, i), some (0, y), some (0, j), some (0, (n : Int)), none, some (0, (rar B x i m : Int)), some (0, (m : Int))] [(0, d), (0, (slp B (lws B x 2) x i y j m : Int))] WF M (0, 0) Q := by
          intro d hd
          have hs1 : (slp B (lws B x 2) x i y j m : Int) + d = (slp B (lws B x 2) x i y j (m + 1) : Int) := by
            rw [slp_s, hd]
            split <;> omega
          have db : 0 ≤ d ∧ d ≤ 1 := by rw [hd]; split <;> omega
          have wb : 1 ≤ M 116 (60 * x + (i + m)) ∧ M 116 (60 * x + (i + m)) ≤ 200 := by rw [c1.2.1]; exact c1.2.2
          refine t_Mo_isRun_68 hP (fun q => ?_) (fun q => ?_)
          · rw [c1.2.1, m119] at q
            rw [hs1]
            rw [rar_s, if_pos q] at ih
            exact ih
          · rw [c1.2.1, m119] at q
            rw [hs1, Int.add_zero]
            rw [rar_s, if_neg q, Nat.add_zero] at ih
            exact ih
        refine t_Mo_isRun_46 hP (fun q => by omega) (fun q => by omega) (fun q => by omega) (fun q => by omega) (fun _ q1 => ?_) (fun _ q1 q2 => ?_) (fun _ q1 q2 q3 => ?_) (fun _ q1 q2 q3 => ?_)
        · rw [c1.2.1, c2.2.1] at q1
          exact nx 0 (by rw [if_pos (lk1 _ _ q1)])
        · rw [c1.2.1, c2.2.1] at q1
          exact nx 1 (by rw [lk0 _ _ q1 (by omega)]; rfl)
        · rw [c1.2.1, c2.2.1] at q1
          rw [c1.2.1, c2.2.1, m118] at q3
          exact nx 1 (by rw [lk2 _ _ q1 q3]; rfl)
        · rw [c1.2.1, c2.2.1, m118] at q3
          exact nx 0 (by rw [if_pos (lk3 _ _ (by omega) q3)])
    refine t_Mo_isRun_0 hP (fun q => by omega) (fun _ q1 q2 => ?_) (fun _ q1 q2 q3 => ?_) (fun _ q1 q2 q3 q4 => ?_) (fun _ q1 q2 q3 q4 => ?_) (fun _ q1 q2 => ?_) (fun _ q1 q2 q3 => ?_) (fun _ q1 q2 q3 q4 => ?_) (fun _ q1 q2 q3 q4 q5 => ?_) (fun _ q1 q2 q3 q4 q5 => ?_)
    · rw [a1.2.1, a2.2.1] at q1
      rw [b1.2.1, b2.2.1] at q2
      exact on (lk1 _ _ q1) (lk1 _ _ q2)
    · rw [b1.2.1, b2.2.1] at q2
      exact off (Or.inr (lk0 _ _ q2 (by omega)))
    · rw [b1.2.1, b2.2.1] at q2
      rw [b1.2.1, b2.2.1, m118] at q4
      exact off (Or.inr (lk2 _ _ q2 q4))
    · rw [a1.2.1, a2.2.1] at q1
      rw [b1.2.1, b2.2.1, m118] at q4
      exact on (lk1 _ _ q1) (lk3 _ _ (by omega) q4)
    · rw [a1.2.1, a2.2.1] at q1
      exact off (Or.inl (lk0 _ _ q1 (by omega)))
    · rw [a1.2.1, a2.2.1] at q1
      rw [a1.2.1, a2.2.1, m118] at q3
      exact off (Or.inl (lk2 _ _ q1 q3))
    · rw [a1.2.1, a2.2.1, m118] at q3
      rw [b1.2.1, b2.2.1] at q4
      exact on (lk3 _ _ (by omega) q3) (lk1 _ _ q4)
    · rw [b1.2.1, b2.2.1] at q4
      rw [b1.2.1, b2.2.1, m118] at q5
      exact off (Or.inr (lk2 _ _ q4 q5))
    · rw [a1.2.1, a2.2.1, m118] at q3
      rw [b1.2.1, b2.2.1, m118] at q5
      exact on (lk3 _ _ (by omega) q3) (lk3 _ _ (by omega) q5)
  · refine t_Mo_isRun_0 hP (fun q => ?_) (fun q => by omega) (fun q => by omega) (fun q => by omega) (fun q => by omega) (fun q => by omega) (fun q => by omega) (fun q => by omega) (fun q => by omega) (fun q => by omega)
    exact t_Mo_isRun_38 hP (k0 (isR_no (by omega)))
theorem frJ_spec {x i y n : Int} (h : rnB B x i y n = true) : 0 ≤ frJ B x i y n ∧ frJ B x i y n < 60 ∧ isR B (lws B x) x i y (frJ B x i y n) n = true ∧ ∀ j : Int, 0 ≤ j → j < frJ B x i y n → isR B (lws B x) x i y j n = false := by
  rcases fstB_spec (fun j => isR B (lws B x) x i y j n) 60 with ⟨_, g⟩ | g
  · unfold rnB at h
    rw [anyB_iff] at h
    obtain ⟨j, j1, j2⟩ := h
    rw [g j j1] at j2
    cases j2
  · exact g
theorem frY_spec {x : Int} {S : Int → Bool} {i n : Int} (h : opn B x S i n = true) : 0 ≤ frY B x S i n ∧ frY B x S i n < 10 ∧ (S (frY B x S i n) && rnB B x i (frY B x S i n) n) = true ∧ ∀ y : Int, 0 ≤ y → y < frY B x S i n → (S y && rnB B x i y n) = false := by
  rcases fstB_spec (fun y => S y && rnB B x i y n) 10 with ⟨_, g⟩ | g
  · unfold opn at h
    rw [anyB_iff] at h
    obtain ⟨j, j1, j2⟩ := h
    rw [g j j1] at j2
    cases j2
  · exact g
theorem s_placeOf (hP : Clo P) {Q : Qp_} {M : Mm_} {x i y : Int} {n : Nat} (hS : Sc B M) (hW : WfC L xs B) (hx : 0 ≤ x ∧ x < 10) (hy : 0 ≤ y ∧ y < 10) (hi : 0 ≤ i ∧ i + n ≤ B 115 x) (hn : lws B x 0 ≤ n) (hM : ∀ what, 0 ≤ what ∧ what < 7 → M 129 what = lws B x what) (hr : rnB B x i y n = true) (k : Q (some (0, frJ B x i y n)) WF M) : P 144 0 [some (2, 112), some (0, x), some (0, i), some (0, y), some (0, (n : Int)), none] [] WF M (0, 0) Q := by
  obtain ⟨f0, f1, f2, f3⟩ := frJ_spec hr
  refine t_Mo_placeOf_0 hP ?_
  refine lpI (lo := 0) (n := frJ B x i y n) (f := fun j => P 144 2 [some (2, 112), some (0, x), some (0, i), some (0, y), some (0, (n : Int)), some (0, j)] [] WF M (0, 0) Q) ?_ ?_ 0 (by omega) f0
  · exact t_Mo_placeOf_2 hP (s_isRun hP hS hW hx hy hi (by omega) hn hM (fun _ => t_Mo_placeOf_9 hP (fun _ => k) (fun q => by omega)) (fun g => by rw [f2] at g; cases g))
  · intro j j0 j1 ih
    exact t_Mo_placeOf_2 hP (s_isRun hP hS hW hx hy hi (by omega) hn hM (fun g => by rw [f3 j j0 j1] at g; cases g) (fun _ => t_Mo_placeOf_9 hP (fun q => absurd rfl q) (fun _ => ih)))
theorem and_pow (a y : Nat) : a &&& 2 ^ y = 0 ↔ a.testBit y = false := by
  constructor
  · intro h
    have := congrArg (fun z => Nat.testBit z y) h
    simp only [Nat.testBit_and, Nat.testBit_two_pow_self, Nat.zero_testBit, Bool.and_true] at this
    exact this
  · intro h
    apply Nat.eq_of_testBit_eq
    intro j
    rw [Nat.testBit_and, Nat.testBit_two_pow, Nat.zero_testBit]
    by_cases e : y = j
    · rw [← e, h]
      rfl
    · rw [decide_eq_false e, Bool.and_false]
theorem s_fromOf (hP : Clo P) {Q : Qp_} {M : Mm_} {x k : Int} {i n : Nat} {Sp : Int → Bool} (hi : i < 60) (hn : n ≤ 60) (h131 : M 131 (61 * (i : Int) + n) = (mset (fun y => srcB B x k y && rnB B x i y n) 10 : Int)) (hSp : ∀ y, Sp y = true → srcB B x k y = true) (ho : opn B x Sp i n = true) (kk : Q (some (0, frY B x Sp i n)) WF M) : P 142 0 [some (2, 112), some (0, (i : Int)), some (0, (n : Int)), some (0, (mset Sp 10 : Int)), none] [] WF M (0, 0) Q := by
  obtain ⟨f0, f1, f2, f3⟩ := frY_spec ho
  have tst : ∀ y : Nat, y < 10 → (andI (andI (M 131 (61 * (i : Int) + n)) (mset Sp 10 : Int)) (shlI 1 (y : Int)) = 0 ↔ (Sp y && rnB B x i y n) = false) := fun y hy => by
    have h2 : 2 ^ y < 2147483648 := Nat.pow_lt_pow_right (a := 2) (n := 31) (by decide) (by omega)
    rw [h131, andI_n _ (mset_le _ (n := 31) (by omega)), show shlI 1 (y : Int) = ((1 * 2 ^ y : Nat) : Int) from shlI_n (a := 1) (by omega) (by omega), Nat.one_mul, andI_n _ (Nat.lt_of_le_of_lt Nat.and_le_left (mset_le _ (n := 31) (by omega)))]
    rw [show (((mset (fun y => srcB B x k y && rnB B x i y n) 10 &&& mset Sp 10 &&& 2 ^ y : Nat) : Int) = 0) ↔ (mset (fun y => srcB B x k y && rnB B x i y n) 10 &&& mset Sp 10 &&& 2 ^ y = 0) from Int.natCast_eq_zero, and_pow, Nat.testBit_and, mset_tb, mset_tb, decide_eq_true hy, Bool.true_and, Bool.true_and]
    cases hs : Sp y
    · simp
    · rw [hSp _ hs]
      simp
  refine t_Mo_fromOf_0 hP ?_
  refine lpI (lo := 0) (n := frY B x Sp i n) (f := fun y => P 142 2 [some (2, 112), some (0, (i : Int)), some (0, (n : Int)), some (0, (mset Sp 10 : Int)), some (0, y)] [] WF M (0, 0) Q) ?_ ?_ 0 (by omega) f0
  · have t := tst (frY B x Sp i n).toNat (by omega)
    rw [Int.toNat_of_nonneg f0] at t
    exact t_Mo_fromOf_2 hP (fun _ => kk) (fun q => by rw [t.mp q] at f2; cases f2)
  · intro y y0 y1 ih
    have t := tst y.toNat (by omega)
    rw [Int.toNat_of_nonneg y0] at t
    exact t_Mo_fromOf_2 hP (fun q => absurd (t.mpr (f3 y y0 y1)) q) (fun _ => ih)
theorem grN_eq {x : Int} {S : Int → Bool} {i : Int} {n : Nat} (hn : 1 ≤ n) (h : opn B x S i n = true) : ∀ {N : Nat}, n ≤ N → (∀ m : Nat, n < m → m ≤ N → opn B x S i m = false) → grN B x S i N = n
  | 0, h0, _ => by omega
  | N + 1, h0, g => by
    unfold grN
    by_cases e : n = N + 1
    · rw [← e, if_pos h]
    · rw [if_neg (by rw [g (N + 1) (by omega) (by omega)]; decide)]
      exact grN_eq hn h (by omega) fun m h1 h2 => g m h1 (by omega)
theorem grN_0 {x : Int} {S : Int → Bool} {i : Int} : ∀ {N : Nat}, (∀ m : Nat, 1 ≤ m → m ≤ N → opn B x S i m = false) → grN B x S i N = 0
  | 0, _ => rfl
  | N + 1, g => by
    unfold grN
    rw [if_neg (by rw [g (N + 1) (by omega) (by omega)]; decide)]
    exact grN_0 fun m h1 h2 => g m h1 (by omega)
theorem grN_spec {x : Int} {S : Int → Bool} {i : Int} : ∀ N : Nat, grN B x S i N = 0 ∨ (1 ≤ grN B x S i N ∧ grN B x S i N ≤ N ∧ opn B x S i (grN B x S i N) = true)
  | 0 => Or.inl rfl
  | N + 1 => by
    unfold grN
    by_cases e : opn B x S i ((N + 1 : Nat) : Int) = true
    · rw [if_pos e]
      exact Or.inr ⟨by omega, by omega, e⟩
    · rw [if_neg e]
      rcases grN_spec (x := x) (S := S) (i := i) N with h | h
      · exact Or.inl h
      · exact Or.inr ⟨h.1, by omega, h.2.2⟩
theorem grR_spec {Lw : Int → Int} {x i y j : Int} : ∀ N : Nat, (0 ≤ grR B Lw x i y j N ∧ grR B Lw x i y j N ≤ N) ∧ (0 < grR B Lw x i y j N → isR B Lw x i y j (grR B Lw x i y j N) = true) ∧ (∀ n : Int, 1 ≤ n → n ≤ N → isR B Lw x i y j n = true → n ≤ grR B Lw x i y j N)
  | 0 => ⟨⟨Int.le_refl _, Int.le_refl _⟩, fun h => absurd h (Int.lt_irrefl 0), fun n h1 h2 => by omega⟩
  | N + 1 => by
    obtain ⟨g1, g2, g3⟩ := grR_spec (Lw := Lw) (x := x) (i := i) (y := y) (j := j) N
    unfold grR
    by_cases e : isR B Lw x i y j ((N + 1 : Nat) : Int) = true
    · rw [if_pos e]
      exact ⟨by omega, fun _ => e, fun n h1 h2 _ => by omega⟩
    · rw [if_neg e]
      refine ⟨by omega, g2, fun n h1 h2 h3 => ?_⟩
      by_cases e2 : n = ((N + 1 : Nat) : Int)
      · rw [e2] at h3
        exact absurd h3 e
      · exact g3 n h1 (by omega) h3
end ML
