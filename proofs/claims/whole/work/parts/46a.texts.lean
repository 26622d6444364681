/-! TEXTS: text, word, at, common, mark -/
theorem WfN_c {A B M2 B' : Mm_} (h : WfN A B) (e1 : ∀ x, 0 ≤ x ∧ x < 10 → M2 (3 + 2 * x) 1 = A (3 + 2 * x) 1) (e2 : ∀ c, (27 ≤ c ∧ c ≤ 34) ∨ c = 117 ∨ (120 ≤ c ∧ c ≤ 123) ∨ c = 130 → M2 c = A c) (e3 : M2 112 9 = A 112 9 ∧ M2 112 23 = A 112 23 ∧ M2 112 24 = A 112 24) (f1 : ∀ x, 0 ≤ x ∧ x < 10 → B' 115 x = B 115 x) (f0 : B 112 0 ≤ B' 112 0) (hT : B 112 0 ≤ 10) : WfN M2 B' := by
  obtain ⟨h1, h2, h3, h4, h5, h6⟩ := h
  refine ⟨?_, ?_, ?_, ?_, ?_, ?_⟩
  · intro x hx
    rw [e1 x hx, e2 117 (by omega), f1 x hx]
    exact h1 x hx
  · rw [e2 117 (by omega)]
    exact h2
  · rw [e2 27 (by omega), e3.1]
    exact h3
  · rw [e3.1]
    intro m hm
    obtain ⟨a, b, c, d, e⟩ := h4 m hm
    rw [e2 28 (by omega), e2 29 (by omega), e2 30 (by omega), e2 31 (by omega), e2 120 (by omega), e2 121 (by omega), e2 122 (by omega), e2 123 (by omega)]
    refine ⟨a, by omega, ?_, by omega, e⟩
    rw [f1 _ (by omega)]
    exact c
  · rw [e2 32 (by omega), e3.2.1, e3.2.2]
    exact h5
  · rw [e2 33 (by omega), e2 130 (by omega), e3.2.1]
    exact h6
section TX1
variable {P : Jg_} {L : Nat} {xs : Nat → Int32}
theorem tw_text (hP : Clo P) {a b : Int} : Two P L xs 16 [some (2, 0), some (0, a), some (0, b)] 18 [some (2, 112), some (0, a), some (0, b)] := by
  intro M hI
  have hI0 := hI
  obtain ⟨A, B, hS, hW, hC, hSn, hN⟩ := hI
  obtain ⟨t0, t1, t2⟩ := rdT hS hW.2.1
  by_cases h1 : (0 ≤ a ∧ a ≤ 9) ∧ (0 ≤ b ∧ b ≤ 999)
  · by_cases h2 : B 112 0 = 10
    · refine ⟨fun r M1 => r = -1004 ∧ M1 = M, fun Q k => ?_, fun r M1 hR => ?_⟩
      · refine t_BW_text_0 hP ?_ ?_ ?_ ?_ ?_ ?_ <;> intros <;> first | (exfalso; omega) | exact k _ _ ⟨rfl, rfl⟩
      · obtain ⟨rfl, rfl⟩ := hR
        refine ⟨hI0.ro, fun Q k => ?_⟩
        refine t_Mo_text_0 hP ?_ ?_ ?_ ?_ ?_ ?_ <;> intros <;> first | (exfalso; omega) | exact k _ hI0
    · refine ⟨fun r M1 => r = B 112 0 ∧ M1 = updM (updM (updM (updM (updM M 47 9 (-1)) 70 5 0) (3 + 2 * B 112 0) 2 a) (3 + 2 * B 112 0) 3 b) 1 1 (B 112 0 + 1), fun Q k => ?_, fun r M1 hR => ?_⟩
      · refine t_BW_text_0 hP ?_ ?_ ?_ ?_ ?_ ?_ <;> intros <;> first | (exfalso; omega) | skip
        rw [t2, show B 112 0 + 1 - 1 = B 112 0 by omega]
        exact k _ _ ⟨rfl, rfl⟩
      · obtain ⟨rfl, rfl⟩ := hR
        obtain ⟨t, ht⟩ : ∃ t, t = B 112 0 := ⟨_, rfl⟩
        rw [← ht] at t0 t1 t2 h2 ⊢
        have e0 : (updM (updM (updM (updM (updM M 47 9 (-1)) 70 5 0) (3 + 2 * t) 2 a) (3 + 2 * t) 3 b) 1 1 (t + 1)) 112 0 = t := by
          rw [upd_c (by omega), upd_c (by omega), upd_c (by omega), upd_c (by omega), upd_c (by omega), t1]
        refine ⟨?_, fun Q k => ?_⟩
        · rw [upd_r (by omega), upd_r (by omega), upd_r (by omega), upd_r (by omega), upd_r (by omega)]
          exact hI0.ro
        · refine t_Mo_text_0 hP ?_ ?_ ?_ ?_ ?_ ?_ <;> intros <;> first | (exfalso; omega) | skip
          rw [e0, show t + 1 - 1 = t by omega]
          apply k
          obtain ⟨M2, hM2⟩ : ∃ M2, M2 = (updM (updM (updM (updM (updM (updM (updM (updM (updM (updM M 47 9 (-1)) 70 5 0) (3 + 2 * t) 2 a) (3 + 2 * t) 3 b) 1 1 (t + 1)) 113 t a) 114 t b) 115 t 0) 112 0 (t + 1)) 112 8 0) := ⟨_, rfl⟩
          rw [← hM2]
          have hr : ∀ c j, M2 c j = if c = 112 ∧ j = 8 then 0 else if c = 112 ∧ j = 0 then t + 1 else if c = 115 ∧ j = t then 0 else if c = 114 ∧ j = t then b else if c = 113 ∧ j = t then a else if c = 1 ∧ j = 1 then t + 1 else if c = 3 + 2 * t ∧ j = 3 then b else if c = 3 + 2 * t ∧ j = 2 then a else if c = 70 ∧ j = 5 then 0 else if c = 47 ∧ j = 9 then -1 else M c j := fun c j => by rw [hM2]; rfl
          clear hM2
          have hc : ∀ c, ¬ (c = 112 ∨ (113 ≤ c ∧ c ≤ 115) ∨ c = 1 ∨ (3 ≤ c ∧ c ≤ 22) ∨ c = 70 ∨ c = 47) → M2 c = M c := fun c h => funext fun j => by (rw [hr]; repeat first | rw [if_neg (by omega)] | rw [if_pos (by omega)])
          have q0 := hW.2.1.1.2.2.2
          have e1 : M2 112 0 = t + 1 := by (rw [hr]; repeat first | rw [if_neg (by omega)] | rw [if_pos (by omega)])
          refine ⟨M2, M2, Sc.refl _, ⟨fun c h => (hc c (by omega)).trans ((hS.r c (by omega)).trans (hW.1 c h)), ⟨⟨by omega, by omega, ?_, ?_⟩, ?_, ?_⟩, WfL_c hW.2.2.1 fun c h => (hc c (by omega)).trans (hS.r c (by omega)), WfR_c hW.2.2.2 (fun c h => (hc c (by omega)).trans (hS.r c (by omega))) ?_ ?_⟩, Ca_0 ?_ ?_ ?_, Sn.refl _, WfN_c hN ?_ ?_ ⟨?_, ?_, ?_⟩ ?_ ?_ (by omega)⟩
          · rw [e1]; (rw [hr]; repeat first | rw [if_neg (by omega)] | rw [if_pos (by omega)])
          · intro x hx
            rw [← ht] at q0
            have r1 : M2 115 x = M 115 x := by (rw [hr]; repeat first | rw [if_neg (by omega)] | rw [if_pos (by omega)])
            rw [r1, (rdX hS hW.2.1 (x := x) (by omega)).2.2.1]
            exact q0 x (by omega)
          · intro x hx
            obtain ⟨x1, x2, x3, x4, x5, x6, x7, x8⟩ := rdX hS hW.2.1 hx
            have r4 : M2 (3 + 2 * x) 4 = M (3 + 2 * x) 4 := by (rw [hr]; repeat first | rw [if_neg (by omega)] | rw [if_pos (by omega)])
            by_cases e : x = t
            · have z : B 115 x = 0 := q0 x (by omega)
              have r1 : M2 115 x = 0 := by (rw [hr]; repeat first | rw [if_neg (by omega)] | rw [if_pos (by omega)])
              have r2 : M2 114 x = b := by (rw [hr]; repeat first | rw [if_neg (by omega)] | rw [if_pos (by omega)])
              have r3 : M2 113 x = a := by (rw [hr]; repeat first | rw [if_neg (by omega)] | rw [if_pos (by omega)])
              have r5 : M2 (3 + 2 * x) 3 = b := by (rw [hr]; repeat first | rw [if_neg (by omega)] | rw [if_pos (by omega)])
              have r6 : M2 (3 + 2 * x) 2 = a := by (rw [hr]; repeat first | rw [if_neg (by omega)] | rw [if_pos (by omega)])
              rw [r1, r2, r3, r4, r5, r6]
              omega
            · have r1 : M2 115 x = M 115 x := by (rw [hr]; repeat first | rw [if_neg (by omega)] | rw [if_pos (by omega)])
              have r2 : M2 114 x = M 114 x := by (rw [hr]; repeat first | rw [if_neg (by omega)] | rw [if_pos (by omega)])
              have r3 : M2 113 x = M 113 x := by (rw [hr]; repeat first | rw [if_neg (by omega)] | rw [if_pos (by omega)])
              have r5 : M2 (3 + 2 * x) 3 = M (3 + 2 * x) 3 := by (rw [hr]; repeat first | rw [if_neg (by omega)] | rw [if_pos (by omega)])
              have r6 : M2 (3 + 2 * x) 2 = M (3 + 2 * x) 2 := by (rw [hr]; repeat first | rw [if_neg (by omega)] | rw [if_pos (by omega)])
              rw [r1, r2, r3, r4, r5, r6]
              omega
          · intro x i hx hi
            by_cases e : x = t
            · have r1 : M2 115 x = 0 := by (rw [hr]; repeat first | rw [if_neg (by omega)] | rw [if_pos (by omega)])
              omega
            · have r1 : M2 115 x = M 115 x := by (rw [hr]; repeat first | rw [if_neg (by omega)] | rw [if_pos (by omega)])
              rw [r1, (rdX hS hW.2.1 hx).2.2.1] at hi
              obtain ⟨w1, w2, w3, w4⟩ := rdW hS hW.2.1 hx hi
              have r2 : M2 (3 + 2 * x + 1) i = M (3 + 2 * x + 1) i := by (rw [hr]; repeat first | rw [if_neg (by omega)] | rw [if_pos (by omega)])
              rw [r2, hc 116 (by omega), w1, w2]
              exact ⟨rfl, w3, w4⟩
          · have r : M2 112 14 = M 112 14 := by (rw [hr]; repeat first | rw [if_neg (by omega)] | rw [if_pos (by omega)])
            exact r.trans (hS 112 14 (by unfold Pc; omega))
          · have r : M2 112 17 = M 112 17 := by (rw [hr]; repeat first | rw [if_neg (by omega)] | rw [if_pos (by omega)])
            exact r.trans (hS 112 17 (by unfold Pc; omega))
          · (rw [hr]; repeat first | rw [if_neg (by omega)] | rw [if_pos (by omega)])
          · (rw [hr]; repeat first | rw [if_neg (by omega)] | rw [if_pos (by omega)])
          · (rw [hr]; repeat first | rw [if_neg (by omega)] | rw [if_pos (by omega)])
          · intro x hx
            have r : M2 (3 + 2 * x) 1 = M (3 + 2 * x) 1 := by (rw [hr]; repeat first | rw [if_neg (by omega)] | rw [if_pos (by omega)])
            exact r.trans (hSn _ _ (by unfold Pn; omega))
          · exact fun c h => (hc c (by omega)).trans (hSn.r c (by omega))
          · have r : M2 112 9 = M 112 9 := by (rw [hr]; repeat first | rw [if_neg (by omega)] | rw [if_pos (by omega)])
            exact r.trans (hSn 112 9 (by unfold Pn; omega))
          · have r : M2 112 23 = M 112 23 := by (rw [hr]; repeat first | rw [if_neg (by omega)] | rw [if_pos (by omega)])
            exact r.trans (hSn 112 23 (by unfold Pn; omega))
          · have r : M2 112 24 = M 112 24 := by (rw [hr]; repeat first | rw [if_neg (by omega)] | rw [if_pos (by omega)])
            exact r.trans (hSn 112 24 (by unfold Pn; omega))
          · intro x hx
            by_cases e : x = t
            · have r1 : M2 115 x = 0 := by (rw [hr]; repeat first | rw [if_neg (by omega)] | rw [if_pos (by omega)])
              rw [r1, q0 x (by omega)]
            · have r1 : M2 115 x = M 115 x := by (rw [hr]; repeat first | rw [if_neg (by omega)] | rw [if_pos (by omega)])
              rw [r1]
              exact (rdX hS hW.2.1 hx).2.2.1
          · omega
  · refine ⟨fun r M1 => r = -1002 ∧ M1 = M, fun Q k => ?_, fun r M1 hR => ?_⟩
    · refine t_BW_text_0 hP ?_ ?_ ?_ ?_ ?_ ?_ <;> intros <;> first | (exfalso; omega) | exact k _ _ ⟨rfl, rfl⟩
    · obtain ⟨rfl, rfl⟩ := hR
      refine ⟨hI0.ro, fun Q k => ?_⟩
      refine t_Mo_text_0 hP ?_ ?_ ?_ ?_ ?_ ?_ <;> intros <;> first | (exfalso; omega) | exact k _ hI0 | (refine t_Mo_text_12 hP ?_; exact k _ hI0)
theorem tw_at (hP : Clo P) {a b : Int} : Two P L xs 52 [some (2, 0), some (0, a), some (0, b), none] 53 [some (2, 112), some (0, a), some (0, b)] := by
  intro M hI
  have hI0 := hI
  obtain ⟨A, B, hS, hW, hC, hSn, hN⟩ := hI
  obtain ⟨t0, t1, t2⟩ := rdT hS hW.2.1
  by_cases h1 : 0 ≤ a ∧ a < B 112 0
  · obtain ⟨x1, x2, x3, x4, x5, x6, x7, x8⟩ := rdX hS hW.2.1 (x := a) (by omega)
    by_cases h2 : 0 ≤ b ∧ b < B 115 a
    · obtain ⟨w1, w2, w3, w4⟩ := rdW hS hW.2.1 (x := a) (by omega) h2
      refine ⟨fun r M1 => r = B 116 (60 * a + b) ∧ M1 = M, fun Q k => ?_, fun r M1 hR => ?_⟩
      · refine t_BW_at_0 hP ?_ ?_ ?_ ?_ ?_ <;> intros <;> first | (exfalso; omega) | skip
        refine t_BW_at_23 hP ?_
        exact k _ _ ⟨w1, rfl⟩
      · obtain ⟨rfl, rfl⟩ := hR
        refine ⟨hI0.ro, fun Q k => ?_⟩
        refine t_Mo_at_0 hP ?_ ?_ ?_ ?_ ?_ <;> intros <;> first | (exfalso; omega) | skip
        refine t_Mo_at_24 hP ?_
        rw [w2]
        exact k _ hI0
    · refine ⟨fun r M1 => r = -1 ∧ M1 = M, fun Q k => ?_, fun r M1 hR => ?_⟩
      · refine t_BW_at_0 hP ?_ ?_ ?_ ?_ ?_ <;> intros <;> first | (exfalso; omega) | exact k _ _ ⟨rfl, rfl⟩ | (refine t_BW_at_23 hP ?_; exact k _ _ ⟨rfl, rfl⟩)
      · obtain ⟨rfl, rfl⟩ := hR
        refine ⟨hI0.ro, fun Q k => ?_⟩
        refine t_Mo_at_0 hP ?_ ?_ ?_ ?_ ?_ <;> intros <;> first | (exfalso; omega) | exact k _ hI0 | (refine t_Mo_at_24 hP ?_; exact k _ hI0)
  · refine ⟨fun r M1 => r = -1001 ∧ M1 = M, fun Q k => ?_, fun r M1 hR => ?_⟩
    · refine t_BW_at_0 hP ?_ ?_ ?_ ?_ ?_ <;> intros <;> first | (exfalso; omega) | exact k _ _ ⟨rfl, rfl⟩ | (refine t_BW_at_23 hP ?_; exact k _ _ ⟨rfl, rfl⟩)
    · obtain ⟨rfl, rfl⟩ := hR
      refine ⟨hI0.ro, fun Q k => ?_⟩
      refine t_Mo_at_0 hP ?_ ?_ ?_ ?_ ?_ <;> intros <;> first | (exfalso; omega) | exact k _ hI0 | (refine t_Mo_at_24 hP ?_; exact k _ hI0)
theorem tw_common (hP : Clo P) {a b : Int} (hb : b = 0 ∨ b = 1) : Two P L xs 58 [some (2, 0), some (0, a), some (0, b), none] 59 [some (2, 112), some (0, a), some (0, b), none] := by
  intro M hI
  have hI0 := hI
  obtain ⟨A, B, hS, hW, hC, hSn, hN⟩ := hI
  obtain ⟨t0, t1, t2⟩ := rdT hS hW.2.1
  by_cases h1 : 1 ≤ a ∧ a ≤ 200
  · obtain ⟨l1, l2, l3, l4⟩ := hW.2.2.1.1 a h1
    have m1 : M 26 a = B 119 a := (congrFun (hS.r 26) a).trans l3
    have m2 : M 119 a = B 119 a := congrFun (hS.r 119) a
    refine ⟨fun r M1 => r = B 119 a ∧ M1 = updM (updM (updM M 47 9 (-1)) 70 5 0) 26 a b, fun Q k => ?_, fun r M1 hR => ?_⟩
    · refine t_BW_common_0 hP ?_ ?_ ?_ ?_ <;> intros <;> first | (exfalso; omega) | exact k _ _ ⟨by omega, rfl⟩
    · obtain ⟨rfl, rfl⟩ := hR
      refine ⟨?_, fun Q k => ?_⟩
      · rw [upd_r (by omega), upd_r (by omega), upd_r (by omega)]
        exact hI0.ro
      · have e0 : (updM (updM (updM M 47 9 (-1)) 70 5 0) 26 a b) 119 a = B 119 a := by
          rw [upd_c (by omega), upd_c (by omega), upd_c (by omega), m2]
        have fin : INV L xs (updM (updM (updM (updM (updM M 47 9 (-1)) 70 5 0) 26 a b) 119 a b) 112 8 0) := by
          obtain ⟨M2, hM2⟩ : ∃ M2, M2 = (updM (updM (updM (updM (updM M 47 9 (-1)) 70 5 0) 26 a b) 119 a b) 112 8 0) := ⟨_, rfl⟩
          rw [← hM2]
          have hr : ∀ c j, M2 c j = if c = 112 ∧ j = 8 then 0 else if c = 119 ∧ j = a then b else if c = 26 ∧ j = a then b else if c = 70 ∧ j = 5 then 0 else if c = 47 ∧ j = 9 then -1 else M c j := fun c j => by rw [hM2]; rfl
          clear hM2
          have hc : ∀ c, ¬ (c = 112 ∨ c = 119 ∨ c = 26 ∨ c = 70 ∨ c = 47) → M2 c = M c := fun c h => funext fun j => by (rw [hr]; repeat first | rw [if_neg (by omega)] | rw [if_pos (by omega)])
          have hd : ∀ c j, c = 112 → ¬ j = 8 → M2 c j = M c j := fun c j h1 h2 => by (rw [hr]; repeat first | rw [if_neg (by omega)] | rw [if_pos (by omega)])
          refine ⟨M2, M2, Sc.refl _, ⟨fun c h => (hc c (by omega)).trans ((hS.r c (by omega)).trans (hW.1 c h)), WfT_c hW.2.1 (fun c h => (hc c (by omega)).trans (hS.r c (by omega))) ((hd 112 0 rfl (by decide)).trans t1) (fun c j h h2 => ((congrFun (hc c (by omega)) j).trans (hS c j (by unfold Pc; omega)))), ⟨?_, ?_⟩, WfR_c hW.2.2.2 (fun c h => (hc c (by omega)).trans (hS.r c (by omega))) ((hd 112 14 rfl (by decide)).trans (hS 112 14 (by unfold Pc; omega))) ((hd 112 17 rfl (by decide)).trans (hS 112 17 (by unfold Pc; omega)))⟩, Ca_0 (by (rw [hr]; repeat first | rw [if_neg (by omega)] | rw [if_pos (by omega)])) (by (rw [hr]; repeat first | rw [if_neg (by omega)] | rw [if_pos (by omega)])) (by (rw [hr]; repeat first | rw [if_neg (by omega)] | rw [if_pos (by omega)])), Sn.refl _, WfN_c hN (fun x hx => (congrFun (hc _ (by omega)) 1).trans (hSn _ _ (by unfold Pn; omega))) (fun c h => (hc c (by omega)).trans (hSn.r c (by omega))) ⟨(hd 112 9 rfl (by decide)).trans (hSn _ _ (by unfold Pn; omega)), (hd 112 23 rfl (by decide)).trans (hSn _ _ (by unfold Pn; omega)), (hd 112 24 rfl (by decide)).trans (hSn _ _ (by unfold Pn; omega))⟩ (fun x hx => (congrFun (hc 115 (by omega)) x).trans (congrFun (hS.r 115) x)) (by rw [hd 112 0 rfl (by decide), t1]; exact Int.le_refl _) (by omega)⟩
          · intro w hw
            obtain ⟨j1, j2, j3, j4⟩ := hW.2.2.1.1 w hw
            rw [hc 24 (by omega), hc 25 (by omega), hS.r 24, hS.r 25]
            refine ⟨j1, j2, ?_⟩
            by_cases e : w = a
            · have r1 : M2 26 w = b := by (rw [hr]; repeat first | rw [if_neg (by omega)] | rw [if_pos (by omega)])
              have r2 : M2 119 w = b := by (rw [hr]; repeat first | rw [if_neg (by omega)] | rw [if_pos (by omega)])
              rw [r1, r2]
              exact ⟨rfl, hb⟩
            · have r1 : M2 26 w = M 26 w := by (rw [hr]; repeat first | rw [if_neg (by omega)] | rw [if_pos (by omega)])
              have r2 : M2 119 w = M 119 w := by (rw [hr]; repeat first | rw [if_neg (by omega)] | rw [if_pos (by omega)])
              rw [r1, r2, hS.r 26, hS.r 119]
              exact ⟨j3, j4⟩
          · rw [hc 24 (by omega), hc 118 (by omega), hS.r 24, hS.r 118]
            exact hW.2.2.1.2
        refine t_Mo_common_0 hP ?_ ?_ ?_ ?_ <;> intros <;> first | (exfalso; omega) | skip
        · have z : B 119 a = 0 := by omega
          have := k _ fin
          rw [z] at this
          exact this
        · have z : B 119 a = 1 := by omega
          have := k _ fin
          rw [z] at this
          exact this
  · refine ⟨fun r M1 => r = -1002 ∧ M1 = M, fun Q k => ?_, fun r M1 hR => ?_⟩
    · refine t_BW_common_0 hP ?_ ?_ ?_ ?_ <;> intros <;> first | (exfalso; omega) | exact k _ _ ⟨rfl, rfl⟩
    · obtain ⟨rfl, rfl⟩ := hR
      refine ⟨hI0.ro, fun Q k => ?_⟩
      refine t_Mo_common_0 hP ?_ ?_ ?_ ?_ <;> intros <;> first | (exfalso; omega) | exact k _ hI0
end TX1
