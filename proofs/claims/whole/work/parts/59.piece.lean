/-! piece -/
noncomputable def LM (B : Mm_) (x k : Int) (M : Mm_) : Prop := M 112 30 = (srS B x k : Int) ∧ (∀ what, 0 ≤ what ∧ what < 7 → M 129 what = lws B x what) ∧ (∀ i n, 0 ≤ i ∧ i < 60 → 0 ≤ n ∧ n ≤ 60 → M 131 (61 * i + n) = (mset (fun y => srcB B x k y && rnB B x i y n) 10 : Int))
noncomputable def EM (B : Mm_) (x : Int) (S : Int → Bool) (M : Mm_) : Prop := EX (opn B x S) (lws B x 0) (B 115 x) (exF B x S) ∧ (∀ j, 0 ≤ j ∧ j < B 115 x → M 134 j = exZ B x S j) ∧ M 132 0 = (exF B x S 0).1 ∧ M 133 0 = (exF B x S 0).2.1
section PC
variable {P : Jg_} {L : Nat} {xs : Nat → Int32} {A B : Mm_}
theorem s_look2 (hP : Clo P) {Q : Qp_} {M : Mm_} {x k : Int} (hI : IV L xs A B M) (hx : 0 ≤ x ∧ x < B 112 0) (hk : 0 ≤ k ∧ k ≤ B 112 0) (kk : ∀ M', IV L xs A B M' → LM B x k M' → Fm M M' → Q none WF M') : P 140 0 [some (2, 112), some (0, x), some (0, k), none, none, none] [] WF M (0, 0) Q :=
  s_look hP hI.1 hI.2.1 hx hk fun M' F h1 h2 h3 => kk M' (hI.fm F) ⟨h1, h2, h3⟩ F
theorem s_expM2 (hP : Clo P) {Q : Qp_} {M : Mm_} {x k : Int} {Sp : Int → Bool} (hI : IV L xs A B M) (hx : 0 ≤ x ∧ x < B 112 0) (hL : LM B x k M) (hSp : ∀ y, Sp y = true → srcB B x k y = true) (kk : ∀ M', IV L xs A B M' → LM B x k M' → EM B x Sp M' → Fr 132 134 M M' → Q none WF M') : P 141 0 [some (2, 112), some (0, x), some (0, (mset Sp 10 : Int)), none, none, none, none, none, none] [] WF M (0, 0) Q := by
  have lb := lws_bd hI.2.1.2.2.2 x
  have Xb := (hI.2.1.2.1.2.1 x (by have := hI.2.1.2.1.1.2.1; omega)).1
  refine s_explM hP hI.1 hI.2.1 hx (hL.2.1 0 (by decide)) hL.2.2 hSp fun M' F hE => kk M' (hI.fr F) ?_ ?_ F
  · refine ⟨by rw [F 112 (by omega)]; exact hL.1, fun w hw => by rw [F 129 (by omega)]; exact hL.2.1 w hw, fun i n hi hn => by rw [F 131 (by omega)]; exact hL.2.2 i n hi hn⟩
  · obtain ⟨e1, e2, e3, e4⟩ := exF_eq (by omega) hE
    refine ⟨e1, fun j hj => congrArg (fun t => t.2.2) (e2 j hj), ?_, ?_⟩
    · by_cases e : B 115 x = 0
      · rw [e] at e3
        exact e3
      · exact congrArg (fun t => t.1) (e2 0 (by omega))
    · by_cases e : B 115 x = 0
      · rw [e] at e4
        exact e4
      · exact congrArg (fun t => t.2.1) (e2 0 (by omega))
theorem s_explC2 (hP : Clo P) {Q : Qp_} {M : Mm_} {x : Int} {Sp : Int → Bool} (hI : IV L xs A B M) (hx : 0 ≤ x ∧ x < B 112 0) (hL : Lk B x M) (hSp : ∀ y, Sp y = true → alS B x y = true) (k : ∀ M', IV L xs A B M' → Lk B x M' → M' 47 = M 47 → EX (opn B x Sp) (lws B x 0) (B 115 x) (exF B x Sp) → M' 64 6 = (cntB (stB (exZ B x Sp)) (B 115 x).toNat : Int) → M' 64 7 = (mset (tkB (exZ B x Sp)) (B 115 x).toNat : Int) → (∀ i : Nat, (i : Int) < B 115 x → stB (exZ B x Sp) i = true → M' 68 (cntB (stB (exZ B x Sp)) i : Int) = i ∧ M' 69 (cntB (stB (exZ B x Sp)) i : Int) = exZ B x Sp i) → Q none WF M') : P 138 0 [some (2, 64), some (0, (mset Sp 10 : Int)), none, none] [] WF M (0, 0) Q :=
  s_explC hP hI.1 hI.2.1 hx hL hSp fun M' F e1 e2 e3 e4 => k M' (hI.fr F) (Lk_c hI.2.1.2.1.1.2.1 hL fun c hc => F c (by omega)) (F 47 (by omega)) e1 e2 e3 e4
theorem exZ_st {x : Int} {S : Int → Bool} (hl : 1 ≤ lws B x 0) (hE : EX (opn B x S) (lws B x 0) (B 115 x) (exF B x S)) {i : Nat} (hi : (i : Int) < B 115 x) (hz : 0 < exZ B x S i) : lws B x 0 ≤ exZ B x S i ∧ (i : Int) + exZ B x S i ≤ B 115 x ∧ opn B x S i (exZ B x S i) = true := by
  rcases EX_Z hE (i := i) (by omega) with g | g
  · have : exZ B x S i = 0 := g
    omega
  · exact ⟨g.1, by have := g.2.1; show (i : Int) + (exF B x S i).2.2 ≤ _; omega, g.2.2⟩
theorem tw_piece (hP : Clo P) {x k p w : Int} (hp : p ≤ 2147483647) : Two P L xs 139 [some (2, 0), some (0, x), some (0, k), some (0, p), some (0, w), none, none, none, none, none] 145 [some (2, 112), some (0, x), some (0, k), some (0, p), some (0, w), none, none, none] := by
  intro M hI
  have hI0 := hI
  obtain ⟨A, B, hI⟩ := hI
  have hI1 := hI
  obtain ⟨hS, hW, hC, hSn, hN⟩ := hI
  obtain ⟨t0, t1, t2⟩ := rdT hS hW.2.1
  have lb := lws_bd hW.2.2.2 x
  by_cases h1 : 0 ≤ x ∧ x < B 112 0
  · have X := rdX hS hW.2.1 (x := x) (by omega)
    by_cases h2 : (0 ≤ k ∧ k ≤ B 112 0) ∧ (p = -1 ∨ (0 ≤ w ∧ w ≤ 3))
    · have hSp : ∀ y, srcB B x k y = true → alS B x y = true := fun y h => srcB_al h2.1.2 h
      obtain ⟨S, hS0⟩ : ∃ S, S = srcB B x k := ⟨_, rfl⟩
      obtain ⟨Z, hZ⟩ : ∃ Z, Z = exZ B x S := ⟨_, rfl⟩
      obtain ⟨n, hn⟩ : ∃ n : Nat, n = (B 115 x).toNat := ⟨_, rfl⟩
      obtain ⟨i0, hi0⟩ : ∃ i0, i0 = pS Z n p := ⟨_, rfl⟩
      have srm : (srS B x k : Int) = (mset S 10 : Int) := by rw [hS0]; rfl
      refine ⟨fun r M1 => r = (if p = -1 then (cntB (stB Z) n : Int) else if i0 = -1 then -1 else if w = 0 then i0 else if w = 1 then Z i0 else if w = 2 then frY B x S i0 (Z i0) else frJ B x i0 (frY B x S i0 (Z i0)) (Z i0)) ∧ IV L xs A B M1, fun Q kk => ?_, fun r M1 hR => ?_⟩
      · refine t_BW_piece_0 hP (s_refusal hP hS hW.2.1 fun r _ _ hr => ?_)
        have := hr h1 h2.1
        subst this
        have main : P 127 0 [some (2, 0), some (0, x), some (0, k)] [] WF M (0, 0) (fun v w' M' => P 139 23 [some (2, 0), none, none, some (0, p), some (0, w), none, none, none, none, none] (v.toList ++ []) w' M' (0, 0) Q) := by
          refine s_lookedAt hP hI1 h1 h2.1 fun M' hI' h9 hL => t_BW_piece_23 hP ?_
          rw [srm]
          refine s_explC2 hP hI' h1 hL (by rw [hS0]; exact hSp) fun M2 hI2 hL2 h47 e1 e2 e3 e4 => ?_
          rw [← hZ, ← hn] at e2 e3
          rw [← hZ] at e4
          have cb := cntB_le (stB Z) n
          have ex : 0 ≤ p → p < (cntB (stB Z) n : Int) → ∃ i : Nat, (i : Int) < B 115 x ∧ stB Z i = true ∧ i0 = i ∧ M2 68 p = i ∧ M2 69 p = Z i := fun p0 p1 => by
            obtain ⟨i, g1, g2, g3⟩ := cnt_hit (show p.toNat < cntB (stB Z) n by omega)
            have g4 := e4 i (by omega) g2
            rw [g3, Int.toNat_of_nonneg p0] at g4
            refine ⟨i, by omega, g2, ?_, g4⟩
            rw [hi0]
            exact pS_eq (by omega) g2 (by omega)
          refine t_BW_piece_28 hP (fun q1 q2 => ?_) (fun q1 q2 q3 q4 q5 => ?_) (fun q1 q2 q3 q4 q5 => ?_) (fun q1 q2 q3 q4 => ?_) (fun q1 q2 q3 => ?_) (fun q => ?_)
          · refine kk _ _ ⟨?_, hI2⟩
            rw [if_neg q1, if_pos (by rw [hi0]; exact pS_none (by omega))]
          · obtain ⟨i, g1, g2, g3, g4, g5⟩ := ex (by omega) (by omega)
            have g6 := g2
            unfold stB at g6
            rw [decide_eq_true_iff] at g6
            have g7 : 0 < exZ B x S i := by rw [← hZ]; exact g6.2
            obtain ⟨z1, z2, z3⟩ := exZ_st (by omega) e1 g1 g7
            rw [← hZ] at z1 z2 z3
            obtain ⟨m, hm⟩ := Int.eq_ofNat_of_zero_le (show 0 ≤ Z i by omega)
            obtain ⟨f0, f1, f2, f3⟩ := frY_spec z3
            rw [Bool.and_eq_true] at f2
            have yb := alS_bd (hSp _ (by rw [← hS0]; exact f2.1))
            have ee : ∀ v : Int, (if p = -1 then (cntB (stB Z) n : Int) else if i0 = -1 then -1 else if w = 0 then i0 else if w = 1 then Z i0 else v) = v := fun v => by rw [if_neg q1, if_neg (by omega), if_neg q4, if_neg q5]
            rw [g4, g5]
            rw [hm] at f2 yb z1 z2 ⊢
            refine s_firstSource hP hI2.1 hW.2.1 hL2 g1 (by omega) (by omega) (by rw [hS0]; exact hSp) (t_BW_piece_71 hP (fun q6 => ?_) (fun q6 => t_BW_piece_83 hP (kk _ _ ⟨?_, hI2⟩)))
            · refine s_leastPlace hP hI2.1 hW h1 yb hL2 (by omega) f2.2 fun M3 F3 => t_BW_piece_83 hP (kk _ _ ⟨?_, ?_⟩)
              · rw [ee, if_neg q6, g3, hm]
              · have hL3 : Lk B x M3 := Lk_c (by omega) hL2 fun c hc => F3 c (by omega)
                exact IV_look hI2 (F3.mono (by omega)) (by rw [F3 47 (by omega), h47]; exact h9) h1 hL3
            · rw [ee, if_pos q6, g3, hm]
          · obtain ⟨i, g1, g2, g3, g4, g5⟩ := ex (by omega) (by omega)
            refine kk _ _ ⟨?_, hI2⟩
            rw [g5, if_neg q1, if_neg (by omega), if_neg q4, if_pos q5, g3]
          · obtain ⟨i, g1, g2, g3, g4, g5⟩ := ex (by omega) (by omega)
            refine kk _ _ ⟨?_, hI2⟩
            rw [g4, if_neg q1, if_neg (by omega), if_pos q4, g3]
          · refine kk _ _ ⟨?_, hI2⟩
            rw [if_neg q1, if_pos (by rw [hi0]; exact pS_none (by omega))]
          · refine kk _ _ ⟨?_, hI2⟩
            rw [if_pos q, e2]
        exact t_BW_piece_4 hP (fun _ _ => main) (fun _ q1 q2 => by omega) (fun _ _ _ _ => main) (fun _ q1 q2 q3 => by omega) (fun q => absurd rfl q)
      · obtain ⟨rfl, hI2⟩ := hR
        refine ⟨hI2.ro, fun Q kk => ?_⟩
        obtain ⟨u0, u1, u2⟩ := rdT hI2.1 hW.2.1
        have main : P 145 21 [some (2, 112), some (0, x), some (0, k), some (0, p), some (0, w), none, none, none] [] WF M1 (0, 0) Q := by
          refine t_Mo_piece_21 hP (s_look2 hP hI2 h1 h2.1 fun M3 hI3 hL3 _ => t_Mo_piece_25 hP ?_)
          rw [hL3.1, srm]
          refine s_expM2 hP hI3 h1 hL3 (by rw [hS0]; exact fun y h => h) fun M4 hI4 hL4 hE4 _ => ?_
          obtain ⟨e1, e2, e3, e4⟩ := hE4
          rw [← hZ] at e2
          have kk := kk M4 ⟨A, B, hI4⟩
          have e1' : EX (opn B x S) (lws B x 0) ((n : Nat) : Int) (exF B x S) := by
            rw [show ((n : Nat) : Int) = B 115 x by omega]
            exact e1
          have tot := chain_sum (by omega) e1' 0 (Nat.zero_le _) (Or.inr rfl)
          rw [show (fun j => (exF B x S j).2.2) = Z by rw [hZ]; rfl] at tot
          have tot1 : (cntB (stB Z) n : Int) = (exF B x S 0).2.1 := by
            have := tot.1
            rw [show cntB (stB Z) 0 = 0 from rfl] at this
            simpa using this
          refine t_Mo_piece_30 hP (fun q => ?_) (fun q => ?_)
          · rw [if_neg q] at kk
            have X4 := rdX hI4.1 hW.2.1 (x := x) (by omega)
            have stop : ∀ left i : Int, (i0 = -1) → (B 115 x ≤ i ∨ p < 0) → 0 ≤ i → P 145 42 [some (2, 112), some (0, x), none, some (0, p), some (0, w), some (0, left), some (0, i), none] [] WF M4 (0, 0) Q := by
              intro left i g0 g1 g2
              rw [if_pos g0] at kk
              exact t_Mo_piece_42 hP (fun _ => kk) (fun _ _ => kk) (fun q1 q2 => by omega) (fun q1 q2 => by omega) (fun q1 q2 => by omega)
            by_cases p0 : p < 0
            · exact stop p 0 (by rw [hi0]; exact pS_none (by omega)) (Or.inr p0) (Int.le_refl _)
            · have key : ∀ d i : Nat, n - i ≤ d → i ≤ n → (i = n ∨ cst Z i = i) → (cntB (stB Z) i : Int) ≤ p → P 145 42 [some (2, 112), some (0, x), none, some (0, p), some (0, w), some (0, p - (cntB (stB Z) i : Int)), some (0, (i : Int)), none] [] WF M4 (0, 0) Q := by
                intro d
                induction d with
                | zero =>
                  intro i d1 d2 d3 d4
                  rw [show i = n by omega] at d4 ⊢
                  exact stop _ _ (by rw [hi0]; exact pS_none (by omega)) (Or.inl (by omega)) (by omega)
                | succ d ih =>
                  intro i d1 d2 d3 d4
                  by_cases e : i = n
                  · rw [e] at d4 ⊢
                    exact stop _ _ (by rw [hi0]; exact pS_none (by omega)) (Or.inl (by omega)) (by omega)
                  · have hv := d3.resolve_left e
                    have zi := e2 i (by omega)
                    have zz := EX_Z e1 (i := i) (by omega)
                    have zz' : Z i = 0 ∨ lws B x 0 ≤ Z i ∧ Z i ≤ B 115 x - i ∧ opn B x S i (Z i) = true := by rw [hZ]; exact zz
                    refine t_Mo_piece_42 hP (fun q1 => by omega) (fun _ q1 => by omega) (fun _ _ q1 => ?_) (fun _ _ q1 q2 => ?_) (fun _ _ q1 q2 => ?_)
                    · have c := st_cnt0 hv (by omega)
                      have := ih (i + 1) (by omega) (by omega) (Or.inr (cst_1 hv (by omega))) (by rw [c.1]; exact d4)
                      rw [c.1] at this
                      exact this
                    · obtain ⟨z, hz⟩ : ∃ z : Nat, Z i = (z : Int) + 1 := ⟨(Z i - 1).toNat, by omega⟩
                      have c := st_cnt hv (by omega) (z + 1) (by omega) (by omega)
                      have := ih (i + (z + 1)) (by omega) (by omega) (Or.inr (cst_nx hv hz)) (by rw [c.1]; omega)
                      rw [c.1] at this
                      rw [zi, show (i : Int) + Z i = ((i + (z + 1) : Nat) : Int) by omega, show p - (cntB (stB Z) i : Int) + (-1) = p - ((cntB (stB Z) i + 1 : Nat) : Int) by omega]
                      exact this
                    · have st : stB Z (i : Int) = true := by
                        unfold stB
                        rw [Int.toNat_natCast, decide_eq_true_iff]
                        exact ⟨hv, by omega⟩
                      have g3 : i0 = i := by rw [hi0]; exact pS_eq (by omega) st (by omega)
                      have zz := zz'.resolve_left (by omega)
                      rw [if_neg (by omega), g3] at kk
                      obtain ⟨m, hm⟩ := Int.eq_ofNat_of_zero_le (show 0 ≤ Z i by omega)
                      obtain ⟨f0, f1, f2, f3⟩ := frY_spec zz.2.2
                      rw [Bool.and_eq_true] at f2
                      rw [zi, hL4.1, srm]
                      have zi2 := zi
                      rw [hm] at zz f2 f0 f1 zi2 kk ⊢
                      refine s_fromOf hP (k := k) (by omega) (by omega) (hL4.2.2 i m (by omega) (by omega)) (by rw [hS0]; exact fun y h => h) zz.2.2 ?_
                      refine t_Mo_piece_66 hP (fun w1 w2 w3 => ?_) (fun w1 w2 w3 => t_Mo_piece_93 hP ?_) (fun w1 w2 => t_Mo_piece_93 hP ?_) (fun w1 => t_Mo_piece_93 hP ?_)
                      · rw [zi2]
                        refine s_placeOf hP hI4.1 hW (by omega) ⟨f0, f1⟩ (by omega) zz.1 hL4.2.1 f2.2 (t_Mo_piece_93 hP ?_)
                        rw [if_neg w1, if_neg w2, if_neg w3] at kk
                        exact kk
                      · rw [if_neg w1, if_neg w2, if_pos w3] at kk
                        exact kk
                      · rw [if_neg w1, if_pos w2] at kk
                        rw [zi2]
                        exact kk
                      · rw [if_pos w1] at kk
                        exact kk
              have := key n 0 (by omega) (Nat.zero_le _) (Or.inr rfl) (by rw [show cntB (stB Z) 0 = 0 from rfl]; omega)
              rw [show cntB (stB Z) 0 = 0 from rfl] at this
              simpa using this
          · rw [if_pos q] at kk
            rw [e4, ← tot1]
            exact kk
        refine t_Mo_piece_0 hP ?_ ?_ ?_ ?_ ?_ ?_ ?_ ?_ <;> intros <;> first | (exfalso; omega) | exact main
    · refine ⟨fun r M1 => r = -1002 ∧ M1 = M, fun Q kk => ?_, fun r M1 hR => ?_⟩
      · refine t_BW_piece_0 hP (s_refusal hP hS hW.2.1 fun r r1 r2 r3 => ?_)
        by_cases hk : 0 ≤ k ∧ k ≤ B 112 0
        · have := r3 h1 hk
          subst this
          refine t_BW_piece_4 hP ?_ ?_ ?_ ?_ ?_ <;> intros <;> first | (exfalso; omega) | exact kk _ _ ⟨rfl, rfl⟩
        · have := r2 h1 hk
          subst this
          refine t_BW_piece_4 hP ?_ ?_ ?_ ?_ ?_ <;> intros <;> first | (exfalso; omega) | exact kk _ _ ⟨rfl, rfl⟩
      · obtain ⟨rfl, rfl⟩ := hR
        refine ⟨hI0.ro, fun Q kk => ?_⟩
        refine t_Mo_piece_0 hP ?_ ?_ ?_ ?_ ?_ ?_ ?_ ?_ <;> intros <;> first | (exfalso; omega) | exact kk _ hI0 | (refine t_Mo_piece_19 hP ?_; exact kk _ hI0)
  · refine ⟨fun r M1 => r = -1001 ∧ M1 = M, fun Q kk => ?_, fun r M1 hR => ?_⟩
    · refine t_BW_piece_0 hP (s_refusal hP hS hW.2.1 fun r r1 r2 r3 => ?_)
      have := r1 h1
      subst this
      refine t_BW_piece_4 hP ?_ ?_ ?_ ?_ ?_ <;> intros <;> first | (exfalso; omega) | exact kk _ _ ⟨rfl, rfl⟩
    · obtain ⟨rfl, rfl⟩ := hR
      refine ⟨hI0.ro, fun Q kk => ?_⟩
      refine t_Mo_piece_0 hP ?_ ?_ ?_ ?_ ?_ ?_ ?_ ?_ <;> intros <;> first | (exfalso; omega) | exact kk _ hI0 | (refine t_Mo_piece_19 hP ?_; exact kk _ hI0)
end PC
