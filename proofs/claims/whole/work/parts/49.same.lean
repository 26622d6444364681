/-! same -/
section SM
variable {P : Jg_} {L : Nat} {xs : Nat → Int32}
theorem tw_same (hP : Clo P) {v w : Int} : Two P L xs 55 [some (2, 0), some (0, v), some (0, w)] 57 [some (2, 112), some (0, v), some (0, w), none, none, none, none] := by
  intro M hI
  have hI0 := hI
  obtain ⟨A, B, hS, hW, hC, hSn, hN⟩ := hI
  obtain ⟨t0, t1, t2⟩ := rdT hS hW.2.1
  have hL := hW.2.2.1
  have m24 : M 24 = B 24 := hS.r 24
  have m25 : M 25 = B 25 := hS.r 25
  have m118 : M 118 = B 118 := hS.r 118
  by_cases h1 : (1 ≤ v ∧ v ≤ 200) ∧ (1 ≤ w ∧ w ≤ 200)
  · have iff0 := hL.2 v w h1.1 h1.2
    by_cases h2 : B 24 v = B 24 w
    · have h3 := iff0.mp h2
      have e1 : M 24 v = M 24 w := by rw [m24, h2]
      have e2 : M 118 v = M 118 w := by rw [m118, h3]
      refine ⟨fun r M1 => r = -1003 ∧ M1 = M, fun Q k => ?_, fun r M1 hR => ?_⟩
      · refine t_BW_same_0 hP ?_ ?_ ?_ ?_ ?_ ?_ <;> intros <;> first | (exfalso; omega) | exact k _ _ ⟨rfl, rfl⟩
      · obtain ⟨rfl, rfl⟩ := hR
        refine ⟨hI0.ro, fun Q k => ?_⟩
        refine t_Mo_same_0 hP ?_ ?_ ?_ ?_ ?_ ?_ ?_ <;> intros <;> first | (exfalso; omega) | exact k _ hI0
    · have h3 : ¬ B 118 v = B 118 w := fun h => h2 (iff0.mpr h)
      obtain ⟨g, hg⟩ : ∃ g, g = B 24 v := ⟨_, rfl⟩
      obtain ⟨h, hh⟩ : ∃ h, h = B 24 w := ⟨_, rfl⟩
      obtain ⟨a1, a2, a3, a4⟩ := hL.1 v h1.1
      obtain ⟨b1, b2, b3, b4⟩ := hL.1 w h1.2
      have ga := gcnt_eq hL h1.1
      have gb := gcnt_eq hL h1.2
      rw [← hg] at a1 a2 h2 ga
      rw [← hh] at b1 b2 h2 gb
      have c1 : gcnt (B 24) g ≤ 200 := cntB_le _ _
      have c2 : gcnt (B 24) h ≤ 200 := cntB_le _ _
      obtain ⟨M0, hM0⟩ : ∃ M0, M0 = updM (updM M 47 9 (-1)) 70 5 0 := ⟨_, rfl⟩
      have hM0r : ∀ c, c ≠ 47 → c ≠ 70 → M0 c = M c := fun c a b => by rw [hM0, upd_r b, upd_r a]
      refine ⟨fun r M1 => r = B 25 g + B 25 h ∧ (∀ c, c ≠ 24 → c ≠ 25 → M1 c = M0 c) ∧ (∀ z, 1 ≤ z ∧ z ≤ 200 → M1 24 z = if B 24 z = h then g else B 24 z) ∧ (∀ z, M1 25 z = if z = g then B 25 g + B 25 h else B 25 z), fun Q k => ?_, fun r M1 hR => ?_⟩
      · refine t_BW_same_0 hP (fun q => by omega) (fun _ q => by omega) (fun _ _ q => by omega) (fun _ _ _ q => by omega) (fun _ _ _ _ _ => ?_) (fun _ _ _ _ q => by rw [m24, ← hg, ← hh] at q; exact absurd q h2)
        rw [← hM0]
        refine t_Lexicon_join_0 hP ?_
        rw [hM0r 24 (by decide) (by decide), m24, ← hg, ← hh]
        refine lpI (lo := 1) (n := 201) (f := fun u => ∀ M', (∀ c, c ≠ 24 → M' c = M0 c) → (∀ z, M' 24 z = if (1 ≤ z ∧ z < u) ∧ B 24 z = h then g else B 24 z) → P 54 12 [some (2, 23), none, none, some (0, g), some (0, h), some (0, u)] [] WF M' (0, 0) _) ?_ ?_ 1 (by omega) (by omega) M0 (fun _ _ => rfl) (fun z => by rw [hM0r 24 (by decide) (by decide), m24, if_neg (by omega)])
        · intro M' f1 f2
          have e25 : M' 25 = B 25 := by rw [f1 25 (by decide), hM0r 25 (by decide) (by decide), m25]
          have e25g : M' 25 g = B 25 g := by rw [e25]
          have e25h : M' 25 h = B 25 h := by rw [e25]
          refine t_Lexicon_join_12 hP (fun _ => t_BW_same_28 hP ?_) (fun q => by omega) (fun q => by omega)
          rw [e25g, e25h]
          refine k _ _ ⟨rfl, fun c n1 n2 => by rw [upd_r n2]; exact f1 c n1, fun z hz => ?_, fun z => ?_⟩
          · rw [upd_c (by decide), f2 z]
            by_cases e : B 24 z = h
            · rw [if_pos ⟨by omega, e⟩, if_pos e]
            · rw [if_neg fun q => e q.2, if_neg e]
          · by_cases e : z = g
            · rw [e, upd_s, if_pos rfl]
            · rw [upd_i e, if_neg e, e25]
        · intro u u1 u2 ih M' f1 f2
          refine t_Lexicon_join_12 hP (fun q => by omega) (fun _ q => ?_) (fun _ q => ?_)
          · refine ih M' f1 fun z => ?_
            rw [f2 u, if_neg (by omega)] at q
            rw [f2 z]
            by_cases e : z = u
            · subst e
              rw [if_neg (by omega), if_neg fun q2 => q q2.2]
            · by_cases e2 : (1 ≤ z ∧ z < u) ∧ B 24 z = h
              · rw [if_pos e2, if_pos ⟨by omega, e2.2⟩]
              · rw [if_neg e2, if_neg fun q2 => e2 ⟨by omega, q2.2⟩]
          · refine ih _ (fun c hc => by rw [upd_r hc]; exact f1 c hc) fun z => ?_
            rw [f2 u, if_neg (by omega)] at q
            by_cases e : z = u
            · subst e
              rw [upd_s, if_pos ⟨by omega, q⟩]
            · rw [upd_i e, f2 z]
              by_cases e2 : (1 ≤ z ∧ z < u) ∧ B 24 z = h
              · rw [if_pos e2, if_pos ⟨by omega, e2.2⟩]
              · rw [if_neg e2, if_neg fun q2 => e2 ⟨by omega, q2.2⟩]
      · obtain ⟨rfl, f1, f2, f3⟩ := hR
        have u1 : ∀ c, ¬ (c = 24 ∨ c = 25 ∨ c = 47 ∨ c = 70) → M1 c = M c := fun c q => (f1 c (by omega) (by omega)).trans (hM0r c (by omega) (by omega))
        have u118 : M1 118 = B 118 := by rw [u1 118 (by omega), m118]
        refine ⟨(u1 (-2) (by omega)).trans hI0.ro, fun Q k => ?_⟩
        have fin : ∀ l, (l = B 118 v ∨ l = B 118 w) → P 57 35 [some (2, 112), none, none, some (0, B 118 v), some (0, B 118 w), none, none] [(0, l)] WF M1 (0, 0) Q := by
          intro l hl
          refine t_Mo_same_35 hP ?_
          refine lpI (lo := 1) (n := 201) (f := fun u => ∀ M', (∀ c, c ≠ 118 → M' c = M1 c) → (∀ z, M' 118 z = if (1 ≤ z ∧ z < u) ∧ (B 118 z = B 118 v ∨ B 118 z = B 118 w) then l else B 118 z) → P 57 38 [some (2, 112), none, none, some (0, B 118 v), some (0, B 118 w), some (0, l), some (0, u)] [] WF M' (0, 0) Q) ?_ ?_ 1 (by omega) (by omega) M1 (fun _ _ => rfl) (fun z => by rw [u118, if_neg (by omega)])
          · intro M' f4 f5
            refine t_Mo_same_38 hP (fun _ => ?_) (fun q => by omega) (fun q => by omega) (fun q => by omega)
            have n118 : ∀ z, 1 ≤ z ∧ z ≤ 200 → (updM M' 112 8 0) 118 z = if B 118 z = B 118 v ∨ B 118 z = B 118 w then l else B 118 z := fun z hz => by
              rw [upd_c (by decide), f5 z]
              by_cases e : B 118 z = B 118 v ∨ B 118 z = B 118 w
              · rw [if_pos ⟨by omega, e⟩, if_pos e]
              · rw [if_neg fun q => e q.2, if_neg e]
            refine s_groupMany hP (t_Mo_same_71 hP ?_)
            have cnt : gcnt ((updM M' 112 8 0) 118) l = gcnt (B 118) (B 118 v) + gcnt (B 118) (B 118 w) := by
              refine cntB_or fun z hz => ⟨?_, ?_⟩
              · rw [n118 _ (by omega), ← Bool.decide_or]
                rw [decide_eq_decide]
                by_cases e : B 118 ((z : Int) + 1) = B 118 v ∨ B 118 ((z : Int) + 1) = B 118 w
                · rw [if_pos e]
                  exact ⟨fun _ => e, fun _ => rfl⟩
                · rw [if_neg e]
                  exact ⟨fun q => absurd (by omega) e, fun q => absurd q e⟩
              · rw [decide_eq_true_iff, decide_eq_true_iff]
                omega
            rw [cnt, Int.natCast_add, ← ga, ← gb, ← a2, ← b2]
            apply k
            obtain ⟨M2, hM2⟩ : ∃ M2, M2 = updM M' 112 8 0 := ⟨_, rfl⟩
            rw [← hM2] at n118 ⊢
            have hc : ∀ c, ¬ (c = 24 ∨ c = 25 ∨ c = 47 ∨ c = 70 ∨ c = 118 ∨ c = 112) → M2 c = M c := fun c q => by rw [hM2, upd_r (by omega), f4 c (by omega), u1 c (by omega)]
            have hd : ∀ q, ¬ q = 8 → M2 112 q = M 112 q := fun q hq => by rw [hM2, upd_i hq, f4 112 (by decide), u1 112 (by omega)]
            have h24 : ∀ z, 1 ≤ z ∧ z ≤ 200 → M2 24 z = if B 24 z = h then g else B 24 z := fun z hz => by rw [hM2, upd_c (by decide), f4 24 (by decide)]; exact f2 z hz
            have h25 : ∀ z, M2 25 z = if z = g then B 25 g + B 25 h else B 25 z := fun z => by rw [hM2, upd_c (by decide), f4 25 (by decide)]; exact f3 z
            refine ⟨M2, M2, Sc.refl _, ⟨fun c q => (hc c (by omega)).trans ((hS.r c (by omega)).trans (hW.1 c q)), WfT_c hW.2.1 (fun c q => (hc c (by omega)).trans (hS.r c (by omega))) ((hd 0 (by decide)).trans t1) (fun c j q q2 => ((congrFun (hc c (by omega)) j).trans (hS c j (by unfold Pc; omega)))), ⟨?_, ?_⟩, WfR_c hW.2.2.2 (fun c q => (hc c (by omega)).trans (hS.r c (by omega))) ((hd 14 (by decide)).trans (hS 112 14 (by unfold Pc; omega))) ((hd 17 (by decide)).trans (hS 112 17 (by unfold Pc; omega)))⟩, Ca_0 ?_ ?_ ?_, Sn.refl _, WfN_c hN (fun x hx => (congrFun (hc _ (by omega)) 1).trans (hSn _ _ (by unfold Pn; omega))) (fun c q => (hc c (by omega)).trans (hSn.r c (by omega))) ⟨(hd 9 (by decide)).trans (hSn _ _ (by unfold Pn; omega)), (hd 23 (by decide)).trans (hSn _ _ (by unfold Pn; omega)), (hd 24 (by decide)).trans (hSn _ _ (by unfold Pn; omega))⟩ (fun x hx => (congrFun (hc 115 (by omega)) x).trans (congrFun (hS.r 115) x)) (by rw [hd 0 (by decide), t1]; exact Int.le_refl _) (by omega)⟩
            · intro z hz
              obtain ⟨d1, d2, d3, d4⟩ := hL.1 z hz
              rw [hc 26 (by omega), hc 119 (by omega), hS.r 26, hS.r 119]
              refine ⟨?_, ?_, d3, d4⟩
              · rw [h24 z hz]
                split <;> omega
              · have same : ∀ q, q ≠ g → q ≠ h → gcnt (M2 24) q = gcnt (B 24) q := fun q q1 q2 => cntB_cong fun u hu => by
                  rw [decide_eq_decide, h24 _ (by omega)]
                  by_cases e : B 24 ((u : Int) + 1) = h
                  · rw [if_pos e]
                    omega
                  · rw [if_neg e]
                have both : gcnt (M2 24) g = gcnt (B 24) g + gcnt (B 24) h := by
                  refine cntB_or fun u hu => ⟨?_, ?_⟩
                  · rw [h24 _ (by omega), ← Bool.decide_or, decide_eq_decide]
                    by_cases e : B 24 ((u : Int) + 1) = h
                    · rw [if_pos e]
                      omega
                    · rw [if_neg e]
                      omega
                  · rw [decide_eq_true_iff, decide_eq_true_iff]
                    omega
                have cg : M2 25 g = (gcnt (M2 24) g : Int) := by
                  rw [h25, if_pos rfl, both, a2, b2, Int.natCast_add]
                rw [h24 z hz]
                by_cases e : B 24 z = h
                · rw [if_pos e]
                  exact cg
                · rw [if_neg e]
                  by_cases e2 : B 24 z = g
                  · rw [e2]
                    exact cg
                  · rw [h25, if_neg e2, same _ e2 e]
                    exact d2
            · intro y z hy hz
              rw [h24 y hy, h24 z hz, n118 y hy, n118 z hz]
              have i1 := hL.2 y z hy hz
              have i2 := hL.2 y v hy h1.1
              have i3 := hL.2 y w hy h1.2
              have i4 := hL.2 z v hz h1.1
              have i5 := hL.2 z w hz h1.2
              rw [← hg] at i2 i4
              rw [← hh] at i3 i5
              have iy : (B 118 y = B 118 v ∨ B 118 y = B 118 w) ↔ (B 24 y = g ∨ B 24 y = h) := by omega
              have iz : (B 118 z = B 118 v ∨ B 118 z = B 118 w) ↔ (B 24 z = g ∨ B 24 z = h) := by omega
              split <;> split <;> split <;> split <;> omega
            · rw [hM2, upd_c (by decide), f4 47 (by decide), f1 47 (by decide) (by decide), hM0, upd_c (by decide), upd_s]
            · rw [hM2, upd_c (by decide), f4 70 (by decide), f1 70 (by decide) (by decide), hM0, upd_s]
            · rw [hM2, upd_s]
          · intro u u1 u2 ih M' f4 f5
            have pu : M' 118 u = B 118 u := by rw [f5 u, if_neg (by omega)]
            have nx : ∀ x, (x = if B 118 u = B 118 v ∨ B 118 u = B 118 w then l else B 118 u) → P 57 38 [some (2, 112), none, none, some (0, B 118 v), some (0, B 118 w), some (0, l), some (0, u + 1)] [] WF (updM M' 118 u x) (0, 0) Q := fun x hx => by
              refine ih _ (fun c hc => by rw [upd_r hc]; exact f4 c hc) fun z => ?_
              by_cases e : z = u
              · subst e
                rw [upd_s, hx]
                by_cases e2 : B 118 z = B 118 v ∨ B 118 z = B 118 w
                · rw [if_pos e2, if_pos ⟨by omega, e2⟩]
                · rw [if_neg e2, if_neg fun q => e2 q.2]
              · rw [upd_i e, f5 z]
                by_cases e2 : (1 ≤ z ∧ z < u) ∧ (B 118 z = B 118 v ∨ B 118 z = B 118 w)
                · rw [if_pos e2, if_pos ⟨by omega, e2.2⟩]
                · rw [if_neg e2, if_neg fun q2 => e2 ⟨by omega, q2.2⟩]
            refine t_Mo_same_38 hP (fun q => by omega) (fun _ q => ?_) (fun _ q1 q2 => ?_) (fun _ q1 q2 => ?_)
            · exact nx _ (by rw [if_pos (Or.inl (pu.symm.trans q))])
            · rw [pu] at q1 q2 ⊢
              exact nx _ (by rw [if_neg (by omega)])
            · exact nx _ (by rw [if_pos (Or.inr (pu.symm.trans q2))])
        have e118 : M1 118 v = B 118 v := by rw [u118]
        have f118 : M1 118 w = B 118 w := by rw [u118]
        refine t_Mo_same_0 hP (fun q => by omega) (fun _ q => by omega) (fun _ _ q => by omega) (fun _ _ _ q => by omega) (fun _ _ _ _ _ q => ?_) (fun _ _ _ _ _ q => ?_) (fun _ _ _ _ q => by omega)
        · rw [e118, f118]
          exact fin _ (Or.inr rfl)
        · rw [e118, f118]
          exact fin _ (Or.inl rfl)
  · refine ⟨fun r M1 => r = -1002 ∧ M1 = M, fun Q k => ?_, fun r M1 hR => ?_⟩
    · refine t_BW_same_0 hP ?_ ?_ ?_ ?_ ?_ ?_ <;> intros <;> first | (exfalso; omega) | exact k _ _ ⟨rfl, rfl⟩ | (refine t_BW_same_6 hP ?_; exact k _ _ ⟨rfl, rfl⟩)
    · obtain ⟨rfl, rfl⟩ := hR
      refine ⟨hI0.ro, fun Q k => ?_⟩
      refine t_Mo_same_0 hP ?_ ?_ ?_ ?_ ?_ ?_ ?_ <;> intros <;> first | (exfalso; omega) | exact k _ hI0 | (refine t_Mo_same_12 hP ?_; exact k _ hI0)
end SM
