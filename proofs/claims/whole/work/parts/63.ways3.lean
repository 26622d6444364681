/-! first, passed, sprung: the calls -/
theorem mod60 {a b : Int} (hb : 0 ≤ b ∧ b < 60) : (60 * a + b) / 60 = a ∧ (60 * a + b) % 60 = b := by omega
section W3
variable {P : Jg_} {L : Nat} {xs : Nat → Int32}
theorem wh_pos {B : Mm_} (hW : WfC L xs B) {a b : Int} (ha : 0 ≤ a ∧ a < B 112 0) (hb : 0 ≤ b ∧ b < B 115 a) : (wY B a b = -1 ∧ whv B a b = -1) ∨ (¬ wY B a b = -1 ∧ whv B a b = 60 * wY B a b + wJ B a b ∧ (0 ≤ wY B a b ∧ wY B a b < B 112 0) ∧ (0 ≤ wJ B a b ∧ wJ B a b < B 115 (wY B a b)) ∧ rkT B (wY B a b) < rkT B a ∧ B 115 (wY B a b) ≤ 60) := by
  unfold whv
  have hT := hW.2.1.1.2.1
  rcases wY_ok hW ha hb with g | g
  · left
    rw [if_neg (by omega)]
    exact ⟨g, rfl⟩
  · right
    rw [if_pos g.1.1]
    exact ⟨by omega, rfl, g.1, g.2.1, g.2.2, (hW.2.1.2.1 _ (by omega)).1.2⟩
theorem tw_first (hP : Clo P) {x i w : Int} : Two P L xs 168 [some (2, 0), some (0, x), some (0, i), some (0, w)] 170 [some (2, 112), some (0, x), some (0, i), some (0, w), none, none] := by
  intro M hI
  have hI0 := hI
  obtain ⟨A, B, hI⟩ := hI
  have hI1 := hI
  obtain ⟨hS, hW, hC, hSn, hN⟩ := hI
  obtain ⟨t0, t1, t2⟩ := rdT hS hW.2.1
  by_cases h1 : 0 ≤ x ∧ x < B 112 0
  · have X := rdX hS hW.2.1 (x := x) (by omega)
    by_cases h2 : (0 ≤ i ∧ i < B 115 x) ∧ (0 ≤ w ∧ w ≤ 2)
    · refine ⟨fun r M1 => r = (if w = 0 then (wkE B x i).1 else if w = 1 then (wkE B x i).2.1 else (wkE B x i).2.2.1) ∧ IV L xs A B M1, fun Q kk => ?_, fun r M1 hR => ?_⟩
      · refine t_BW_first_0 hP ?_ ?_ ?_ ?_ ?_ ?_ ?_ <;> intros <;> first | (exfalso; omega) | skip
        refine s_learn hP hI1 fun M2 hI2 hk => t_BW_first_25 hP (s_walk hP hI2 hk h1 h2.1 fun M3 hI3 _ g6 g7 g8 g9 => t_BW_first_30 hP (fun q1 q2 => kk _ _ ⟨?_, hI3⟩) (fun q1 q2 => kk _ _ ⟨?_, hI3⟩) (fun q1 => kk _ _ ⟨?_, hI3⟩))
        · rw [if_neg q1, if_neg q2, g8]
        · rw [if_neg q1, if_pos q2, g7]
        · rw [if_pos q1, g6]
      · obtain ⟨rfl, hI2⟩ := hR
        refine ⟨hI2.ro, fun Q kk => ?_⟩
        obtain ⟨u0, u1, u2⟩ := rdT hI2.1 hW.2.1
        have X2 := rdX hI2.1 hW.2.1 (x := x) (by omega)
        refine t_Mo_first_0 hP ?_ ?_ ?_ ?_ ?_ ?_ ?_ <;> intros <;> first | (exfalso; omega) | skip
        refine s_find hP hI2 fun M3 hI3 hf => t_Mo_first_28 hP ?_
        have kk := kk M3 ⟨A, B, hI3⟩
        have key : ∀ (r : Nat) (a b s : Int), rkT B a ≤ r → 0 ≤ a ∧ a < B 112 0 → 0 ≤ b ∧ b < B 115 a → 0 ≤ s ∧ s + rkT B a ≤ 9 → (wkE B x i).1 = (wkE B a b).1 → (wkE B x i).2.1 = (wkE B a b).2.1 → (wkE B x i).2.2.1 = s + (wkE B a b).2.2.1 → P 170 36 [some (2, 112), none, none, some (0, w), some (0, 60 * a + b), some (0, s)] [] WF M3 (0, 0) Q := by
          intro r
          induction r with
          | zero =>
            intro a b s hr ha hb hs e1 e2 e3
            have ab := (hW.2.1.2.1 a (by omega)).1
            have md := mod60 (a := a) (b := b) (by omega)
            have v := hf a b ha hb
            rcases wh_pos hW ha hb with ⟨w0, w1⟩ | g
            · rw [wkE_0 w0] at e1 e2 e3
              dsimp only at e1 e2 e3
              rw [e1, e2, e3, Int.add_zero] at kk
              refine t_Mo_first_36 hP (fun _ q1 q2 => ?_) (fun _ q1 q2 => ?_) (fun _ q1 => ?_) (fun q => by omega)
              · rw [if_neg q1, if_neg q2] at kk
                exact kk
              · rw [if_neg q1, if_pos q2] at kk
                rw [md.2]
                exact kk
              · rw [if_pos q1] at kk
                rw [md.1]
                exact kk
            · omega
          | succ r ih =>
            intro a b s hr ha hb hs e1 e2 e3
            have ab := (hW.2.1.2.1 a (by omega)).1
            have md := mod60 (a := a) (b := b) (by omega)
            have v := hf a b ha hb
            rcases wh_pos hW ha hb with ⟨w0, w1⟩ | ⟨w0, w1, g1, g2, g3, g4⟩
            · rw [wkE_0 w0] at e1 e2 e3
              dsimp only at e1 e2 e3
              rw [e1, e2, e3, Int.add_zero] at kk
              refine t_Mo_first_36 hP (fun _ q1 q2 => ?_) (fun _ q1 q2 => ?_) (fun _ q1 => ?_) (fun q => by omega)
              · rw [if_neg q1, if_neg q2] at kk
                exact kk
              · rw [if_neg q1, if_pos q2] at kk
                rw [md.2]
                exact kk
              · rw [if_pos q1] at kk
                rw [md.1]
                exact kk
            · refine t_Mo_first_36 hP (fun q => by omega) (fun q => by omega) (fun q => by omega) (fun _ => ?_)
              rw [v, w1]
              rw [wkE_s hW ha hb w0] at e1 e2 e3
              dsimp only at e1 e2 e3
              exact ih _ _ (s + 1) (by omega) g1 g2 (by omega) e1 e2 (by omega)
        exact key 9 x i 0 (rkT_bd h1 t0.2) h1 h2.1 ⟨Int.le_refl _, by have := rkT_bd h1 t0.2; omega⟩ rfl rfl (Int.zero_add _).symm
    · refine ⟨fun r M1 => r = -1002 ∧ M1 = M, fun Q k => ?_, fun r M1 hR => ?_⟩
      · refine t_BW_first_0 hP ?_ ?_ ?_ ?_ ?_ ?_ ?_ <;> intros <;> first | (exfalso; omega) | exact k _ _ ⟨rfl, rfl⟩ | (refine t_BW_first_20 hP ?_; exact k _ _ ⟨rfl, rfl⟩)
      · obtain ⟨rfl, rfl⟩ := hR
        refine ⟨hI0.ro, fun Q k => ?_⟩
        refine t_Mo_first_0 hP ?_ ?_ ?_ ?_ ?_ ?_ ?_ <;> intros <;> first | (exfalso; omega) | exact k _ hI0 | (refine t_Mo_first_24 hP ?_; exact k _ hI0)
  · refine ⟨fun r M1 => r = -1001 ∧ M1 = M, fun Q k => ?_, fun r M1 hR => ?_⟩
    · refine t_BW_first_0 hP ?_ ?_ ?_ ?_ ?_ ?_ ?_ <;> intros <;> first | (exfalso; omega) | exact k _ _ ⟨rfl, rfl⟩ | (refine t_BW_first_20 hP ?_; exact k _ _ ⟨rfl, rfl⟩)
    · obtain ⟨rfl, rfl⟩ := hR
      refine ⟨hI0.ro, fun Q k => ?_⟩
      refine t_Mo_first_0 hP ?_ ?_ ?_ ?_ ?_ ?_ ?_ <;> intros <;> first | (exfalso; omega) | exact k _ hI0 | (refine t_Mo_first_24 hP ?_; exact k _ hI0)
theorem tw_passed (hP : Clo P) {x y : Int} : Two P L xs 172 [some (2, 0), some (0, x), some (0, y)] 173 [some (2, 112), some (0, x), some (0, y), none, none, none] := by
  intro M hI
  have hI0 := hI
  obtain ⟨A, B, hI⟩ := hI
  have hI1 := hI
  obtain ⟨hS, hW, hC, hSn, hN⟩ := hI
  obtain ⟨t0, t1, t2⟩ := rdT hS hW.2.1
  by_cases h1 : (0 ≤ x ∧ x < B 112 0) ∧ (0 ≤ y ∧ y < B 112 0)
  · have X := rdX hS hW.2.1 (x := x) (by omega)
    by_cases h2 : x = y
    · refine ⟨fun r M1 => r = -1002 ∧ M1 = M, fun Q k => ?_, fun r M1 hR => ?_⟩
      · refine t_BW_passed_0 hP ?_ ?_ ?_ ?_ ?_ ?_ <;> intros <;> first | (exfalso; omega) | exact k _ _ ⟨rfl, rfl⟩ | (refine t_BW_passed_10 hP ?_; exact k _ _ ⟨rfl, rfl⟩)
      · obtain ⟨rfl, rfl⟩ := hR
        refine ⟨hI0.ro, fun Q k => ?_⟩
        refine t_Mo_passed_0 hP ?_ ?_ ?_ ?_ ?_ ?_ <;> intros <;> first | (exfalso; omega) | exact k _ hI0 | (refine t_Mo_passed_8 hP ?_; exact k _ hI0)
    · refine ⟨fun r M1 => r = (cntB (fun i => (wkE B x i).2.2.2 y) (B 115 x).toNat : Int) ∧ IV L xs A B M1, fun Q kk => ?_, fun r M1 hR => ?_⟩
      · refine t_BW_passed_0 hP ?_ ?_ ?_ ?_ ?_ ?_ <;> intros <;> first | (exfalso; omega) | skip
        refine s_learn hP hI1 fun M2 hI2 hk => t_BW_passed_20 hP (t_Ways_countThrough_0 hP ?_)
        refine lpN (n := (B 115 x).toNat) (f := fun i : Nat => ∀ M3, IV L xs A B M3 → Kn B M3 → P 171 4 [some (2, 70), some (0, x), some (0, y), some (0, (cntB (fun i => (wkE B x i).2.2.2 y) i : Int)), some (0, (i : Int))] [] WF M3 (0, 0) _) ?_ ?_ 0 (Nat.zero_le _) M2 hI2 hk
        · intro M3 hI3 hk3
          have X3 := rdX hI3.1 hW.2.1 (x := x) (by omega)
          exact t_Ways_countThrough_4 hP (fun _ => t_BW_passed_25 hP (kk _ _ ⟨rfl, hI3⟩)) (fun q => by omega)
        · intro i hi ih M3 hI3 hk3
          have X3 := rdX hI3.1 hW.2.1 (x := x) (by omega)
          have c := cntB_le (fun i => (wkE B x i).2.2.2 y) i
          refine t_Ways_countThrough_4 hP (fun q => by omega) (fun _ => s_walk hP hI3 hk3 h1.1 (by omega) fun M4 hI4 hk4 g6 g7 g8 g9 => ?_)
          have ad : andI (ushrI (M4 70 9) y) 1 = if (wkE B x i).2.2.2 y = true then 1 else 0 := by
            obtain ⟨yn, rfl⟩ := Int.eq_ofNat_of_zero_le h1.2.1
            rw [g9, tbI (mset_le _ (n := 31) (by omega)) (by omega), mset_tb, decide_eq_true (show yn < 10 by omega), Bool.true_and]
          have ab : 0 ≤ andI (ushrI (M4 70 9) y) 1 ∧ andI (ushrI (M4 70 9) y) 1 ≤ 1 := by
            rw [ad]
            split <;> omega
          refine t_Ways_countThrough_16 hP ?_
          have ih := ih M4 hI4 hk4
          rw [ad]
          by_cases e : (wkE B x i).2.2.2 y = true
          · rw [cntB_t e] at ih
            rw [if_pos e]
            exact ih
          · rw [cntB_f e] at ih
            rw [if_neg e, Int.add_zero]
            exact ih
      · obtain ⟨rfl, hI2⟩ := hR
        refine ⟨hI2.ro, fun Q kk => ?_⟩
        obtain ⟨u0, u1, u2⟩ := rdT hI2.1 hW.2.1
        refine t_Mo_passed_0 hP ?_ ?_ ?_ ?_ ?_ ?_ <;> intros <;> first | (exfalso; omega) | skip
        refine s_find hP hI2 fun M3 hI3 hf => t_Mo_passed_17 hP ?_
        have kk := kk M3 ⟨A, B, hI3⟩
        have X3 := rdX hI3.1 hW.2.1 (x := x) (by omega)
        refine lpN (n := (B 115 x).toNat) (f := fun i : Nat => P 173 21 [some (2, 112), some (0, x), some (0, y), some (0, (cntB (fun i => (wkE B x i).2.2.2 y) i : Int)), some (0, (i : Int)), none] [] WF M3 (0, 0) Q) ?_ ?_ 0 (Nat.zero_le _)
        · exact t_Mo_passed_21 hP (fun _ => kk) (fun q => by omega)
        · intro i hi ih
          have c := cntB_le (fun i => (wkE B x i).2.2.2 y) i
          refine t_Mo_passed_21 hP (fun q => by omega) (fun _ => ?_)
          have key : ∀ (r : Nat) (a b : Int), rkT B a ≤ r → 0 ≤ a ∧ a < B 112 0 → 0 ≤ b ∧ b < B 115 a → ((wkE B x i).2.2.2 y = (wkE B a b).2.2.2 y) → P 173 36 [some (2, 112), some (0, x), some (0, y), some (0, (cntB (fun i => (wkE B x i).2.2.2 y) i : Int)), some (0, (i : Int)), some (0, M3 135 (60 * a + b))] [] WF M3 (0, 0) Q := by
            intro r
            induction r with
            | zero =>
              intro a b hr ha hb e1
              have v := hf a b ha hb
              rcases wh_pos hW ha hb with ⟨w0, w1⟩ | g
              · rw [wkE_0 w0] at e1
                rw [v, w1]
                refine t_Mo_passed_36 hP (fun _ => ?_) (fun q => absurd (by decide) q) (fun q => absurd (by decide) q)
                rw [cntB_f (by rw [e1]; simp)] at ih
                rw [Int.add_zero]
                exact ih
              · omega
            | succ r ihr =>
              intro a b hr ha hb e1
              have v := hf a b ha hb
              rcases wh_pos hW ha hb with ⟨w0, w1⟩ | ⟨w0, w1, g1, g2, g3, g4⟩
              · rw [wkE_0 w0] at e1
                rw [v, w1]
                refine t_Mo_passed_36 hP (fun _ => ?_) (fun q => absurd (by decide) q) (fun q => absurd (by decide) q)
                rw [cntB_f (by rw [e1]; simp)] at ih
                rw [Int.add_zero]
                exact ih
              · rw [wkE_s hW ha hb w0] at e1
                dsimp only at e1
                have md := mod60 (a := wY B a b) (b := wJ B a b) (by omega)
                rw [v, w1]
                refine t_Mo_passed_36 hP (fun q => by omega) (fun _ q => ?_) (fun _ q => ?_)
                · rw [md.1] at q
                  rw [decide_eq_true q.symm, Bool.true_or] at e1
                  rw [cntB_t e1] at ih
                  exact ih
                · rw [md.1] at q
                  rw [decide_eq_false (fun h => q h.symm), Bool.false_or] at e1
                  exact ihr _ _ (by omega) g1 g2 e1
          exact key 9 x i (rkT_bd h1.1 t0.2) h1.1 (by omega) rfl
  · refine ⟨fun r M1 => r = -1001 ∧ M1 = M, fun Q k => ?_, fun r M1 hR => ?_⟩
    · refine t_BW_passed_0 hP ?_ ?_ ?_ ?_ ?_ ?_ <;> intros <;> first | (exfalso; omega) | exact k _ _ ⟨rfl, rfl⟩ | (refine t_BW_passed_10 hP ?_; exact k _ _ ⟨rfl, rfl⟩)
    · obtain ⟨rfl, rfl⟩ := hR
      refine ⟨hI0.ro, fun Q k => ?_⟩
      refine t_Mo_passed_0 hP ?_ ?_ ?_ ?_ ?_ ?_ <;> intros <;> first | (exfalso; omega) | exact k _ hI0 | (refine t_Mo_passed_8 hP ?_; exact k _ hI0)
theorem s_firstOf (hP : Clo P) {Q : Qp_} {A B M : Mm_} {x i : Int} (hI : IV L xs A B M) (hf : Fn B M) (hx : 0 ≤ x ∧ x < B 112 0) (hi : 0 ≤ i ∧ i < B 115 x) (k : ∀ v, v / 60 = (wkE B x i).1 → 0 ≤ v → Q (some (0, v)) WF M) : P 176 0 [some (2, 112), some (0, 60 * x + i), none] [] WF M (0, 0) Q := by
  have hW := hI.2.1
  have hT := hW.2.1.1.2.1
  refine t_Mo_firstOf_0 hP ?_
  have key : ∀ (r : Nat) (a b : Int), rkT B a ≤ r → 0 ≤ a ∧ a < B 112 0 → 0 ≤ b ∧ b < B 115 a → (wkE B x i).1 = (wkE B a b).1 → P 176 2 [some (2, 112), none, some (0, 60 * a + b)] [] WF M (0, 0) Q := by
    intro r
    induction r with
    | zero =>
      intro a b hr ha hb e1
      have ab := (hW.2.1.2.1 a (by omega)).1
      have md := mod60 (a := a) (b := b) (by omega)
      have v := hf a b ha hb
      rcases wh_pos hW ha hb with ⟨w0, w1⟩ | g
      · rw [wkE_0 w0] at e1
        exact t_Mo_firstOf_2 hP (fun _ => k _ (by rw [md.1, e1]) (by omega)) (fun q => by omega)
      · omega
    | succ r ih =>
      intro a b hr ha hb e1
      have ab := (hW.2.1.2.1 a (by omega)).1
      have md := mod60 (a := a) (b := b) (by omega)
      have v := hf a b ha hb
      rcases wh_pos hW ha hb with ⟨w0, w1⟩ | ⟨w0, w1, g1, g2, g3, g4⟩
      · rw [wkE_0 w0] at e1
        exact t_Mo_firstOf_2 hP (fun _ => k _ (by rw [md.1, e1]) (by omega)) (fun q => by omega)
      · rw [wkE_s hW ha hb w0] at e1
        dsimp only at e1
        refine t_Mo_firstOf_2 hP (fun q => by omega) (fun _ => ?_)
        rw [v, w1]
        exact ih _ _ (by omega) g1 g2 e1
  exact key 9 x i (rkT_bd hx hT) hx hi rfl
theorem tw_sprung (hP : Clo P) {x : Int} : Two P L xs 175 [some (2, 0), some (0, x)] 177 [some (2, 112), some (0, x), none, none, none] := by
  intro M hI
  have hI0 := hI
  obtain ⟨A, B, hI⟩ := hI
  have hI1 := hI
  obtain ⟨hS, hW, hC, hSn, hN⟩ := hI
  obtain ⟨t0, t1, t2⟩ := rdT hS hW.2.1
  by_cases h1 : 0 ≤ x ∧ x < B 112 0
  · obtain ⟨f, hfd⟩ : ∃ f : Int → Int, f = fun z => (cntB (fun i => decide ((wkE B z i).1 = x)) (B 115 z).toNat : Int) := ⟨_, rfl⟩
    have fb : ∀ n : Nat, n ≤ (B 112 0).toNat → 0 ≤ sumI f n ∧ sumI f n ≤ 60 * n := fun n hn => sumI_bd n fun q hq => by
      rw [hfd]
      have := cntB_le (fun i => decide ((wkE B q i).1 = x)) (B 115 q).toNat
      have := (hW.2.1.2.1 q (by omega)).1
      dsimp only
      omega
    refine ⟨fun r M1 => r = sumI f (B 112 0).toNat ∧ IV L xs A B M1, fun Q kk => ?_, fun r M1 hR => ?_⟩
    · refine t_BW_sprung_0 hP ?_ ?_ ?_ <;> intros <;> first | (exfalso; omega) | skip
      refine s_learn hP hI1 fun M2 hI2 hk => t_BW_sprung_10 hP (t_Ways_countEndingIn_0 hP ?_)
      refine lpN (n := (B 112 0).toNat) (f := fun z : Nat => ∀ M3, IV L xs A B M3 → Kn B M3 → P 174 4 [some (2, 70), some (0, x), some (0, sumI f z), some (0, (z : Int)), none] [] WF M3 (0, 0) _) ?_ ?_ 0 (Nat.zero_le _) M2 hI2 hk
      · intro M3 hI3 hk3
        have u := (rdT hI3.1 hW.2.1).2.2
        exact t_Ways_countEndingIn_4 hP (fun _ => t_BW_sprung_14 hP (kk _ _ ⟨rfl, hI3⟩)) (fun q => by omega)
      · intro z hz ih M3 hI3 hk3
        have u := (rdT hI3.1 hW.2.1).2.2
        have sb := fb z (by omega)
        refine t_Ways_countEndingIn_4 hP (fun q => by omega) (fun _ => ?_)
        have Zb := (hW.2.1.2.1 z (by omega)).1
        rw [show sumI f z = sumI f z + ((cntB (fun i => decide ((wkE B z i).1 = x)) 0 : Nat) : Int) from (Int.add_zero _).symm]
        refine lpN (n := (B 115 z).toNat) (f := fun i : Nat => ∀ M4, IV L xs A B M4 → Kn B M4 → P 174 11 [some (2, 70), some (0, x), some (0, sumI f z + (cntB (fun i => decide ((wkE B z i).1 = x)) i : Int)), some (0, (z : Int)), some (0, (i : Int))] [] WF M4 (0, 0) _) ?_ ?_ 0 (Nat.zero_le _) M3 hI3 hk3
        · intro M4 hI4 hk4
          have Z4 := rdX hI4.1 hW.2.1 (x := z) (by omega)
          refine t_Ways_countEndingIn_11 hP (fun _ => ?_) (fun q => by omega)
          have := ih M4 hI4 hk4
          rw [show sumI f (z + 1) = sumI f z + f z from rfl, hfd] at this
          rw [hfd]
          exact this
        · intro i hi ihi M4 hI4 hk4
          have Z4 := rdX hI4.1 hW.2.1 (x := z) (by omega)
          have c := cntB_le (fun i => decide ((wkE B z i).1 = x)) i
          refine t_Ways_countEndingIn_11 hP (fun q => by omega) (fun _ => s_walk hP hI4 hk4 (by omega) (by omega) fun M5 hI5 hk5 g6 g7 g8 g9 => t_Ways_countEndingIn_23 hP (fun q => ?_) (fun q => ?_))
          · have := ihi M5 hI5 hk5
            rw [cntB_f (by rw [decide_eq_true_iff, ← g6]; exact q)] at this
            exact this
          · have := ihi M5 hI5 hk5
            rw [cntB_t (by rw [decide_eq_true_iff, ← g6]; exact q), Int.natCast_add, ← Int.add_assoc] at this
            exact this
    · obtain ⟨rfl, hI2⟩ := hR
      refine ⟨hI2.ro, fun Q kk => ?_⟩
      obtain ⟨u0, u1, u2⟩ := rdT hI2.1 hW.2.1
      refine t_Mo_sprung_0 hP ?_ ?_ ?_ <;> intros <;> first | (exfalso; omega) | skip
      refine s_find hP hI2 fun M3 hI3 hf => t_Mo_sprung_8 hP ?_
      have kk := kk M3 ⟨A, B, hI3⟩
      have v1 := (rdT hI3.1 hW.2.1).2.1
      refine lpN (n := (B 112 0).toNat) (f := fun z : Nat => P 177 12 [some (2, 112), some (0, x), some (0, sumI f z), some (0, (z : Int)), none] [] WF M3 (0, 0) Q) ?_ ?_ 0 (Nat.zero_le _)
      · exact t_Mo_sprung_12 hP (fun _ => kk) (fun q => by omega)
      · intro z hz ih
        have sb := fb z (by omega)
        refine t_Mo_sprung_12 hP (fun q => by omega) (fun _ => ?_)
        have Zb := (hW.2.1.2.1 z (by omega)).1
        have Z3 := rdX hI3.1 hW.2.1 (x := z) (by omega)
        rw [show sumI f z = sumI f z + ((cntB (fun i => decide ((wkE B z i).1 = x)) 0 : Nat) : Int) from (Int.add_zero _).symm]
        refine lpN (n := (B 115 z).toNat) (f := fun i : Nat => P 177 18 [some (2, 112), some (0, x), some (0, sumI f z + (cntB (fun i => decide ((wkE B z i).1 = x)) i : Int)), some (0, (z : Int)), some (0, (i : Int))] [] WF M3 (0, 0) Q) ?_ ?_ 0 (Nat.zero_le _)
        · refine t_Mo_sprung_18 hP (fun _ => ?_) (fun q => by omega)
          rw [show sumI f (z + 1) = sumI f z + f z from rfl, hfd] at ih
          rw [hfd]
          exact ih
        · intro i hi ihi
          have c := cntB_le (fun i => decide ((wkE B z i).1 = x)) i
          refine t_Mo_sprung_18 hP (fun q => by omega) (fun _ => s_firstOf hP hI3 hf (by omega) (by omega) fun v hv hv0 => t_Mo_sprung_32 hP (fun q => ?_) (fun q => ?_))
          · rw [cntB_f (by rw [decide_eq_true_iff, ← hv]; exact q)] at ihi
            rw [Int.add_zero]
            exact ihi
          · rw [cntB_t (by rw [decide_eq_true_iff, ← hv]; exact q), Int.natCast_add, ← Int.add_assoc] at ihi
            exact ihi
  · refine ⟨fun r M1 => r = -1001 ∧ M1 = M, fun Q k => ?_, fun r M1 hR => ?_⟩
    · refine t_BW_sprung_0 hP ?_ ?_ ?_ <;> intros <;> first | (exfalso; omega) | exact k _ _ ⟨rfl, rfl⟩
    · obtain ⟨rfl, rfl⟩ := hR
      refine ⟨hI0.ro, fun Q k => ?_⟩
      refine t_Mo_sprung_0 hP ?_ ?_ ?_ <;> intros <;> first | (exfalso; omega) | exact k _ hI0
end W3
