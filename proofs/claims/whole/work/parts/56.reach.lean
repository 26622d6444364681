/-! reach -/
/-- what the reference has found so far: all pairs ahead of (y, j) -/
def RI (B : Mm_) (x i : Int) (S : Int → Bool) (y j best src plc : Int) : Prop :=
  (best = 0 ∧ src = -1 ∧ plc = -1 ∧ ∀ y' j', 0 ≤ y' → S y' = true → 0 ≤ j' → j' < B 115 y' → (y' < y ∨ y' = y ∧ j' < j) → grR B (lws B x) x i y' j' 60 = 0)
  ∨ (0 < best ∧ (0 ≤ src ∧ S src = true ∧ 0 ≤ plc ∧ plc < B 115 src ∧ (src < y ∨ src = y ∧ plc < j)) ∧ grR B (lws B x) x i src plc 60 = best ∧ ∀ y' j', 0 ≤ y' → S y' = true → 0 ≤ j' → j' < B 115 y' → (y' < y ∨ y' = y ∧ j' < j) → grR B (lws B x) x i y' j' 60 < best ∨ grR B (lws B x) x i y' j' 60 = best ∧ (src < y' ∨ src = y' ∧ plc ≤ j'))
section RE
variable {P : Jg_} {L : Nat} {xs : Nat → Int32} {B : Mm_}
theorem RI_end {x k best src plc : Int} {i : Nat} (hW : WfC L xs B) (hx : 0 ≤ x ∧ x < B 112 0) (hk : 0 ≤ k ∧ k ≤ B 112 0) (hi : (i : Int) < B 115 x) (h : RI B x i (srcB B x k) k 0 best src plc) : best = grN B x (srcB B x k) i (B 115 x - i).toNat ∧ (0 < best → src = frY B x (srcB B x k) i best ∧ plc = frJ B x i src best ∧ rnB B x i src best = true) ∧ (best = 0 → src = -1 ∧ plc = -1) := by
  have lb := lws_bd hW.2.2.2 x
  have T := hW.2.1.1
  have Xb := (hW.2.1.2.1 x (by omega)).1
  have yb : ∀ y', srcB B x k y' = true → 0 ≤ y' ∧ y' < k := fun y' h => by unfold srcB at h; rw [decide_eq_true_iff] at h; omega
  have opw : ∀ n : Int, opn B x (srcB B x k) i n = true → ∃ y' j' : Int, 0 ≤ y' ∧ srcB B x k y' = true ∧ 0 ≤ j' ∧ j' < B 115 y' ∧ y' < k ∧ isR B (lws B x) x i y' j' n = true ∧ 1 ≤ n ∧ n ≤ 60 := fun n h => by
    unfold opn at h
    rw [anyB_iff] at h
    obtain ⟨y', y1, y2⟩ := h
    rw [Bool.and_eq_true] at y2
    have y3 := y2.2
    unfold rnB at y3
    rw [anyB_iff] at y3
    obtain ⟨j', j1, j2⟩ := y3
    have j3 := j2
    unfold isR at j3
    rw [decide_eq_true_iff] at j3
    have := yb _ y2.1
    exact ⟨y', j', by omega, y2.1, by omega, by omega, by omega, j2, by omega, by omega⟩
  rcases h with ⟨h1, h2, h3, h4⟩ | ⟨h1, ⟨a1, a2, a3, a4, a5⟩, h2, h3⟩
  · refine ⟨?_, fun g => by omega, fun _ => ⟨h2, h3⟩⟩
    rw [grN_0 fun m m1 m2 => ?_]
    · exact h1
    · rw [Bool.eq_false_iff]
      intro g
      obtain ⟨y', j', b1, b2, b3, b4, b5, b6, b7, b8⟩ := opw m g
      have := h4 y' j' b1 b2 b3 b4 (Or.inl b5)
      have := (grR_spec (B := B) (Lw := lws B x) (x := x) (i := i) (y := y') (j := j') 60).2.2 m b7 b8 b6
      omega
  · have hr : isR B (lws B x) x i src plc best = true := by
      have := (grR_spec (B := B) (Lw := lws B x) (x := x) (i := i) (y := src) (j := plc) 60).2.1
      rw [h2] at this
      exact this h1
    have hr2 := hr
    unfold isR at hr2
    rw [decide_eq_true_iff] at hr2
    have sb := yb src a2
    have Yb := (hW.2.1.2.1 src (by omega)).1
    have hrn : rnB B x i src best = true := by
      unfold rnB
      rw [anyB_iff]
      exact ⟨plc.toNat, by omega, by rw [Int.toNat_of_nonneg a3]; exact hr⟩
    have hop : opn B x (srcB B x k) i best = true := by
      unfold opn
      rw [anyB_iff]
      refine ⟨src.toNat, by omega, ?_⟩
      rw [Int.toNat_of_nonneg a1, a2, hrn]
      rfl
    refine ⟨?_, fun _ => ⟨?_, ?_, hrn⟩, fun g => by omega⟩
    · rw [grN_eq (n := best.toNat) (by omega) (by rw [Int.toNat_of_nonneg (by omega)]; exact hop) (by omega) fun m m1 m2 => ?_]
      · omega
      · rw [Bool.eq_false_iff]
        intro g
        obtain ⟨y', j', b1, b2, b3, b4, b5, b6, b7, b8⟩ := opw m g
        have := h3 y' j' b1 b2 b3 b4 (Or.inl b5)
        have := (grR_spec (B := B) (Lw := lws B x) (x := x) (i := i) (y := y') (j := j') 60).2.2 m b7 b8 b6
        omega
    · refine (fstB_eq (n := 10) (by omega) (by rw [a2, hrn]; rfl) fun y' y0 y1 => ?_).symm
      rw [Bool.eq_false_iff]
      intro g
      rw [Bool.and_eq_true] at g
      have g2 := g.2
      unfold rnB at g2
      rw [anyB_iff] at g2
      obtain ⟨j', j1, j2⟩ := g2
      have j3 := j2
      unfold isR at j3
      rw [decide_eq_true_iff] at j3
      have q := h3 y' j' y0 g.1 (by omega) (by omega) (Or.inl (yb _ g.1).2)
      have := (grR_spec (B := B) (Lw := lws B x) (x := x) (i := i) (y := y') (j := j') 60).2.2 best (by omega) (by omega) j2
      omega
    · refine (fstB_eq (n := 60) (p := fun j => isR B (lws B x) x i src j best) (k := plc) (by omega) hr fun j' j0 j1 => ?_).symm
      rw [Bool.eq_false_iff]
      intro g
      have j3 := g
      unfold isR at j3
      rw [decide_eq_true_iff] at j3
      have q := h3 src j' a1 a2 j0 (by omega) (Or.inl sb.2)
      have := (grR_spec (B := B) (Lw := lws B x) (x := x) (i := i) (y := src) (j := j') 60).2.2 best (by omega) (by omega) g
      omega
/-- the state behind a look of the class -/
theorem IV_look {A M M' : Mm_} {x : Int} (h : IV L xs A B M) (F : Fr 47 63 M M') (h9 : M' 47 9 = x) (hx : 0 ≤ x ∧ x < B 112 0) (hL : Lk B x M') : IV L xs A B M' := by
  obtain ⟨hS, hW, hC, hSn, hN⟩ := h
  have hT := hW.2.1.1.2.1
  obtain ⟨c1, c2, c3⟩ := hC
  refine ⟨hS.fr F, hW, ⟨Or.inr ⟨by omega, by rw [h9]; exact hL⟩, ?_, ?_⟩, hSn.fr F, hN⟩
  · rw [F 70 (by omega)]
    rcases c2 with c2 | ⟨a, b⟩
    · exact Or.inl c2
    · refine Or.inr ⟨a, fun x i hx hi => ?_⟩
      rw [F (72 + x) (by omega), F (83 + x) (by omega)]
      exact b x i hx hi
  · rw [F 112 (by omega), F 135 (by omega)]
    exact c3
theorem s_lookedAt (hP : Clo P) {Q : Qp_} {A M : Mm_} {x k : Int} (hI : IV L xs A B M) (hx : 0 ≤ x ∧ x < B 112 0) (hk : 0 ≤ k ∧ k ≤ B 112 0) (kk : ∀ M', IV L xs A B M' → M' 47 9 = x → Lk B x M' → Q (some (0, (srS B x k : Int))) WF M') : P 127 0 [some (2, 0), some (0, x), some (0, k)] [] WF M (0, 0) Q := by
  obtain ⟨hS, hW, hC, hSn, hN⟩ := hI
  refine t_BW_sourcesLookedAt_0 hP (s_lookAt hP hS hW hx hC.1 fun M' F h9 hL => t_BW_sourcesLookedAt_4 hP ?_)
  have hI' := IV_look ⟨hS, hW, hC, hSn, hN⟩ F h9 hx hL
  exact s_sourceSet hP hI'.1 hW hx hk (t_BW_sourcesLookedAt_9 hP (kk M' hI' h9 hL))
theorem tw_reach (hP : Clo P) {x k i w : Int} : Two P L xs 132 [some (2, 0), some (0, x), some (0, k), some (0, i), some (0, w), none, none, none, none] 135 [some (2, 112), some (0, x), some (0, k), some (0, i), some (0, w), none, none, none, none, none, none, none] := by
  intro M hI
  have hI0 := hI
  obtain ⟨A, B, hI⟩ := hI
  have hI1 := hI
  obtain ⟨hS, hW, hC, hSn, hN⟩ := hI
  obtain ⟨t0, t1, t2⟩ := rdT hS hW.2.1
  have lb := lws_bd hW.2.2.2 x
  have refu : ∀ v : Int, (¬ (0 ≤ x ∧ x < B 112 0) ∧ v = -1001 ∨ (0 ≤ x ∧ x < B 112 0) ∧ ¬ ((0 ≤ k ∧ k ≤ B 112 0) ∧ (0 ≤ i ∧ i < B 115 x) ∧ (0 ≤ w ∧ w ≤ 2)) ∧ v = -1002) → ∃ R : Int → Mm_ → Prop, (∀ Q : Qp_, (∀ r M1, R r M1 → Q (some (0, r)) WF M1) → P 132 0 [some (2, 0), some (0, x), some (0, k), some (0, i), some (0, w), none, none, none, none] [] WF M (0, 0) Q) ∧ (∀ r M1, R r M1 → M1 (-2) = RMx L xs (-2) ∧ ∀ Q : Qp_, (∀ M2, INV L xs M2 → Q (some (0, r)) WF M2) → P 135 0 [some (2, 112), some (0, x), some (0, k), some (0, i), some (0, w), none, none, none, none, none, none, none] [] WF M1 (0, 0) Q) := by
    intro v hv
    refine ⟨fun r M1 => r = v ∧ M1 = M, fun Q kk => ?_, fun r M1 hR => ?_⟩
    · refine t_BW_reach_0 hP (s_refusal hP hS hW.2.1 fun r r1 r2 r3 => ?_)
      by_cases h1 : 0 ≤ x ∧ x < B 112 0
      · have X := rdX hS hW.2.1 (x := x) (by omega)
        by_cases h2 : 0 ≤ k ∧ k ≤ B 112 0
        · have := r3 h1 h2
          subst this
          have e : v = -1002 := by omega
          subst e
          refine t_BW_reach_4 hP ?_ ?_ ?_ ?_ ?_ ?_ <;> intros <;> first | (exfalso; omega) | exact kk _ _ ⟨rfl, rfl⟩
        · have := r2 h1 h2
          subst this
          have e : v = -1002 := by omega
          subst e
          refine t_BW_reach_4 hP ?_ ?_ ?_ ?_ ?_ ?_ <;> intros <;> first | (exfalso; omega) | exact kk _ _ ⟨rfl, rfl⟩
      · have := r1 h1
        subst this
        have e : v = -1001 := by omega
        subst e
        refine t_BW_reach_4 hP (fun q => by omega) (fun q => by omega) (fun q => by omega) (fun q => by omega) (fun q => by omega) (fun _ => kk _ _ ⟨rfl, rfl⟩) (s1 := fun q => by omega)
    · obtain ⟨rfl, rfl⟩ := hR
      refine ⟨hI0.ro, fun Q kk => ?_⟩
      by_cases h1 : 0 ≤ x ∧ x < B 112 0
      · have X := rdX hS hW.2.1 (x := x) (by omega)
        have e : r = -1002 := by omega
        subst e
        refine t_Mo_reach_0 hP ?_ ?_ ?_ ?_ ?_ ?_ ?_ ?_ ?_ <;> intros <;> first | (exfalso; omega) | exact kk _ hI0 | (refine t_Mo_reach_28 hP ?_; exact kk _ hI0)
      · have e : r = -1001 := by omega
        subst e
        refine t_Mo_reach_0 hP ?_ ?_ ?_ ?_ ?_ ?_ ?_ ?_ ?_ <;> intros <;> first | (exfalso; omega) | exact kk _ hI0 | (refine t_Mo_reach_28 hP ?_; exact kk _ hI0)
  by_cases h1 : 0 ≤ x ∧ x < B 112 0
  · by_cases h2 : (0 ≤ k ∧ k ≤ B 112 0) ∧ (0 ≤ i ∧ i < B 115 x) ∧ (0 ≤ w ∧ w ≤ 2)
    · have X := rdX hS hW.2.1 (x := x) (by omega)
      obtain ⟨i, rfl⟩ := Int.eq_ofNat_of_zero_le h2.2.1.1
      have hSp : ∀ y, srcB B x k y = true → alS B x y = true := fun y h => srcB_al h2.1.2 h
      obtain ⟨n, hn⟩ : ∃ n, n = grN B x (srcB B x k) i (B 115 x - i).toNat := ⟨_, rfl⟩
      have gs := grN_spec (B := B) (x := x) (S := srcB B x k) (i := i) (B 115 x - i).toNat
      rw [← hn] at gs
      refine ⟨fun r M1 => r = (if w = 0 then n else if n = 0 then -1 else if w = 1 then frY B x (srcB B x k) i n else frJ B x i (frY B x (srcB B x k) i n) n) ∧ IV L xs A B M1, fun Q kk => ?_, fun r M1 hR => ?_⟩
      · refine t_BW_reach_0 hP (s_refusal hP hS hW.2.1 fun r _ _ hr => ?_)
        have := hr h1 h2.1
        subst this
        refine t_BW_reach_4 hP ?_ ?_ ?_ ?_ ?_ ?_ <;> intros <;> first | (exfalso; omega) | skip
        refine s_lookedAt hP hI1 h1 h2.1 fun M' hI' h9 hL => t_BW_reach_28 hP (s_longestAt hP hI'.1 hW.2.1 hL (by omega) (by omega) hSp ?_)
        rw [← hn]
        refine t_BW_reach_34 hP (fun q1 q2 => ?_) (fun q1 q2 => kk _ _ ⟨by rw [if_neg q1, if_pos q2], hI'⟩) (fun q => kk _ _ ⟨by rw [if_pos q], hI'⟩)
        have gs := gs.resolve_left q2
        obtain ⟨m, hm⟩ := Int.eq_ofNat_of_zero_le (show 0 ≤ n by omega)
        obtain ⟨f0, f1, f2, f3⟩ := frY_spec gs.2.2
        rw [Bool.and_eq_true] at f2
        have yb := alS_bd (hSp _ f2.1)
        rw [hm] at f0 f1 f2 yb q2 ⊢
        refine s_firstSource hP hI'.1 hW.2.1 hL (by omega) (by omega) (by omega) hSp (t_BW_reach_49 hP (fun q3 => ?_) (fun q3 => t_BW_reach_61 hP (kk _ _ ⟨by rw [if_neg q1, hm, if_neg q2, if_pos q3], hI'⟩)))
        refine s_leastPlace hP hI'.1 hW h1 yb hL (by omega) f2.2 fun M3 F3 => t_BW_reach_61 hP (kk _ _ ⟨by rw [if_neg q1, hm, if_neg q2, if_neg q3], ?_⟩)
        have hL3 : Lk B x M3 := Lk_c (by omega) hL fun c hc => F3 c (by omega)
        exact IV_look hI' (F3.mono (by omega)) (by rw [F3 47 (by omega)]; exact h9) h1 hL3
      · obtain ⟨rfl, hI2⟩ := hR
        refine ⟨hI2.ro, fun Q kk => ?_⟩
        have hS2 := hI2.1
        obtain ⟨u0, u1, u2⟩ := rdT hS2 hW.2.1
        have X2 := rdX hS2 hW.2.1 (x := x) (by omega)
        refine t_Mo_reach_0 hP ?_ ?_ ?_ ?_ ?_ ?_ ?_ ?_ ?_ <;> intros <;> first | (exfalso; omega) | skip
        rw [X2.2.2.2.2.1]
        refine s_findRules hP hS2 hW.2.2.2 fun M3 F3 h129 => t_Mo_reach_36 hP ?_
        have hI3 : IV L xs A B M3 := hI2.fr F3
        refine s_sourcesOf hP hI3.1 hW (h129 4 (by decide)) h1 h2.1 (t_Mo_reach_40 hP ?_)
        have Sb := srS_lt B x k
        refine lpN (n := k.toNat) (f := fun y : Nat => ∀ M4 best src plc, Fr 131 131 M3 M4 → RI B x i (srcB B x k) y 0 best src plc → P 135 49 [some (2, 112), some (0, x), some (0, k), some (0, (i : Int)), some (0, w), some (0, (srS B x k : Int)), some (0, best), some (0, src), some (0, plc), some (0, (y : Int)), none, none] [] WF M4 (0, 0) Q) ?_ ?_ 0 (Nat.zero_le _) M3 0 (-1) (-1) (Fr.refl _ _ _) (Or.inl ⟨rfl, rfl, rfl, fun y' j' a _ b c d => by omega⟩)
        · intro M4 best src plc F4 hR
          rw [show ((k.toNat : Nat) : Int) = k by omega] at hR ⊢
          obtain ⟨e1, e2, e3⟩ := RI_end hW h1 h2.1 (by omega) hR
          rw [← hn] at e1
          have kk := kk M4 ⟨A, B, hI3.fr F4⟩
          refine t_Mo_reach_49 hP (fun _ q1 q2 => ?_) (fun _ q1 q2 => ?_) (fun _ q => ?_) (fun q => by omega)
          · rw [if_neg q1, if_neg q2] at kk
            by_cases z : n = 0
            · rw [if_pos z] at kk
              rw [(e3 (by omega)).2]
              exact kk
            · rw [if_neg z] at kk
              have b0 : 0 < best := by omega
              obtain ⟨g1, g2, _⟩ := e2 b0
              rw [g2, g1, e1]
              exact kk
          · rw [if_neg q1, if_pos q2] at kk
            by_cases z : n = 0
            · rw [if_pos z] at kk
              rw [(e3 (by omega)).1]
              exact kk
            · rw [if_neg z] at kk
              have b0 : 0 < best := by omega
              obtain ⟨g1, g2, _⟩ := e2 b0
              rw [g1, e1]
              exact kk
          · rw [if_pos q] at kk
            rw [e1]
            exact kk
        · intro y hy ih M4 best src plc F4 hR
          have Y := rdX hS hW.2.1 (x := y) (by omega)
          refine t_Mo_reach_49 hP (fun q => by omega) (fun q => by omega) (fun q => by omega) (fun _ => ?_)
          have skip : ∀ M5 best src plc, Fr 131 131 M3 M5 → RI B x i (srcB B x k) y (B 115 y) best src plc → P 135 49 [some (2, 112), some (0, x), some (0, k), some (0, (i : Int)), some (0, w), some (0, (srS B x k : Int)), some (0, best), some (0, src), some (0, plc), some (0, (y : Int) + 1), none, none] [] WF M5 (0, 0) Q := by
            intro M5 best src plc F5 hR
            refine ih M5 best src plc F5 ?_
            rcases hR with ⟨a1, a2, a3, a4⟩ | ⟨a1, a2, a3, a4⟩
            · refine Or.inl ⟨a1, a2, a3, fun y' j' b1 b2 b3 b4 b5 => a4 y' j' b1 b2 b3 b4 ?_⟩
              by_cases e : y' = y
              · rw [e] at b4 ⊢
                exact Or.inr ⟨rfl, b4⟩
              · omega
            · refine Or.inr ⟨a1, ⟨a2.1, a2.2.1, a2.2.2.1, a2.2.2.2.1, by omega⟩, a3, fun y' j' b1 b2 b3 b4 b5 => a4 y' j' b1 b2 b3 b4 ?_⟩
              by_cases e : y' = y
              · rw [e] at b4 ⊢
                exact Or.inr ⟨rfl, b4⟩
              · omega
          by_cases hsrc : srcB B x k y = true
          · refine lpN (n := (B 115 y).toNat) (f := fun j : Nat => ∀ M5 best src plc, Fr 131 131 M3 M5 → RI B x i (srcB B x k) y j best src plc → P 135 54 [some (2, 112), some (0, x), some (0, k), some (0, (i : Int)), some (0, w), some (0, (srS B x k : Int)), some (0, best), some (0, src), some (0, plc), some (0, (y : Int)), some (0, (j : Int)), none] [] WF M5 (0, 0) Q) ?_ ?_ 0 (Nat.zero_le _) M4 best src plc F4 hR
            · intro M5 best src plc F5 hR
              have n2 : M5 115 y = B 115 y := by rw [F5 115 (by omega)]; exact (rdX hI3.1 hW.2.1 (x := y) (by omega)).2.2.1
              rw [show (((B 115 y).toNat : Nat) : Int) = B 115 y by omega] at hR ⊢
              exact t_Mo_reach_54 hP (fun _ => skip M5 best src plc F5 hR) (fun q => by omega) (fun q => by omega)
            · intro j hj ihj M5 best src plc F5 hR
              have n2 : M5 115 y = B 115 y := by rw [F5 115 (by omega)]; exact (rdX hI3.1 hW.2.1 (x := y) (by omega)).2.2.1
              have tb : andI (shrI (srS B x k : Int) (y : Int)) 1 = 1 := by
                rw [tbIs (by omega) (by omega), srS_tb, decide_eq_true (show y < 10 by omega), hsrc]
                rfl
              refine t_Mo_reach_54 hP (fun q => by omega) (fun _ q => absurd tb q) (fun _ _ => ?_)
              refine s_runFrom hP (hI3.1.fr F5) hW (by omega) (by omega) (by omega) (by omega) (fun what hw => by rw [F5 129 (by omega)]; exact h129 what hw) fun M6 F6 _ => ?_
              obtain ⟨g, hg⟩ : ∃ g, g = grR B (lws B x) x i y j 60 := ⟨_, rfl⟩
              rw [← hg]
              have g0 := (grR_spec (B := B) (Lw := lws B x) (x := x) (i := i) (y := y) (j := j) 60).1
              rw [← hg] at g0
              refine t_Mo_reach_74 hP (fun q => ihj M6 best src plc (F5.trans F6) ?_) (fun q => ihj M6 g y j (F5.trans F6) ?_)
              · rcases hR with ⟨a1, a2, a3, a4⟩ | ⟨a1, a2, a3, a4⟩
                · refine Or.inl ⟨a1, a2, a3, fun y' j' b1 b2 b3 b4 b5 => ?_⟩
                  by_cases e : y' = y ∧ j' = j
                  · rw [e.1, e.2, ← hg]
                    omega
                  · exact a4 y' j' b1 b2 b3 b4 (by omega)
                · refine Or.inr ⟨a1, ⟨a2.1, a2.2.1, a2.2.2.1, a2.2.2.2.1, by omega⟩, a3, fun y' j' b1 b2 b3 b4 b5 => ?_⟩
                  by_cases e : y' = y ∧ j' = j
                  · rw [e.1, e.2, ← hg]
                    omega
                  · exact a4 y' j' b1 b2 b3 b4 (by omega)
              · refine Or.inr ⟨?_, ⟨by omega, hsrc, by omega, by omega, by omega⟩, hg.symm, fun y' j' b1 b2 b3 b4 b5 => ?_⟩
                · rcases hR with ⟨a1, a2, a3, a4⟩ | ⟨a1, a2, a3, a4⟩ <;> omega
                · by_cases e : y' = y ∧ j' = j
                  · rw [e.1, e.2, ← hg]
                    omega
                  · rcases hR with ⟨a1, a2, a3, a4⟩ | ⟨a1, a2, a3, a4⟩
                    · have := a4 y' j' b1 b2 b3 b4 (by omega)
                      omega
                    · have := a4 y' j' b1 b2 b3 b4 (by omega)
                      omega
          · have n2 : M4 115 y = B 115 y := by rw [F4 115 (by omega)]; exact (rdX hI3.1 hW.2.1 (x := y) (by omega)).2.2.1
            have tb : ¬ andI (shrI (srS B x k : Int) (y : Int)) 1 = 1 := by
              rw [tbIs (by omega) (by omega), srS_tb, Bool.eq_false_iff.mpr hsrc, Bool.and_false]
              decide
            have hR' : RI B x i (srcB B x k) y (B 115 y) best src plc := by
              rcases hR with ⟨a1, a2, a3, a4⟩ | ⟨a1, a2, a3, a4⟩
              · refine Or.inl ⟨a1, a2, a3, fun y' j' b1 b2 b3 b4 b5 => ?_⟩
                by_cases e : y' = y
                · rw [e] at b2
                  exact absurd b2 hsrc
                · exact a4 y' j' b1 b2 b3 b4 (by omega)
              · refine Or.inr ⟨a1, ⟨a2.1, a2.2.1, a2.2.2.1, a2.2.2.2.1, by omega⟩, a3, fun y' j' b1 b2 b3 b4 b5 => ?_⟩
                by_cases e : y' = y
                · rw [e] at b2
                  exact absurd b2 hsrc
                · exact a4 y' j' b1 b2 b3 b4 (by omega)
            exact t_Mo_reach_54 hP (fun _ => skip M4 best src plc F4 hR') (fun _ _ => skip M4 best src plc F4 hR') (fun _ q => absurd q tb)
    · exact refu (-1002) (Or.inr ⟨h1, h2, rfl⟩)
  · exact refu (-1001) (Or.inl ⟨h1, rfl⟩)
end RE
