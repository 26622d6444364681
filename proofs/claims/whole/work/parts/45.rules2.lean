/-! RULES, as the reference finds them -/
theorem anyB_s (p : Int → Bool) (n : Nat) : anyB p (n + 1) = (anyB p n || p n) := rfl
section RU2
variable {P : Jg_} {B : Mm_}
theorem s_strikes (hP : Clo P) {Q : Qp_} {M : Mm_} {r o : Int} (hS : Sc B M) (hR : WfR B) (hr : 0 ≤ r ∧ r < B 112 14) (k1 : stk B r o = true → Q (some (0, 1)) WF M) (k0 : stk B r o = false → Q (some (0, 0)) WF M) : P 109 0 [some (2, 112), some (0, r), some (0, o), none, none] [] WF M (0, 0) Q := by
  obtain ⟨⟨n0, n1, n2, n3⟩, h1, h2, -⟩ := hR
  obtain ⟨-, ⟨a1, a2⟩, -⟩ := h1 r hr
  have a3 := h2 r (by omega)
  have a4 := h2 (r + 1) (by omega)
  have m1 : M 125 = B 125 := hS.r 125
  have m2 : M 126 = B 126 := hS.r 126
  have m3 : M 127 = B 127 := hS.r 127
  refine t_Mo_strikes_0 hP ?_
  rw [m1]
  obtain ⟨p, hp⟩ : ∃ p : Int → Bool, p = fun i => decide (B 126 (B 125 r + i) = 7 ∧ B 127 (B 125 r + i) = o) := ⟨_, rfl⟩
  have hst : stk B r o = anyB p (nCl B r) := by rw [hp]; rfl
  have lp := lpN (n := nCl B r) (f := fun i : Nat => ∀ b : Int, (b = 0 ∧ anyB p i = false ∨ b = 1 ∧ anyB p i = true) → P 109 7 [some (2, 112), some (0, r), some (0, o), some (0, b), some (0, B 125 r + (i : Int))] [] WF M (0, 0) Q) ?_ ?_ 0 (Nat.zero_le _)
  · have := lp 0 (Or.inl ⟨rfl, rfl⟩)
    simpa using this
  · intro b hb
    have e : B 125 r + ((nCl B r : Nat) : Int) = B 125 (r + 1) := by unfold nCl; omega
    refine t_Mo_strikes_7 hP (fun _ => ?_) (fun q => ?_) (fun q => ?_) (fun q => ?_) (fun q => ?_)
    · rcases hb with ⟨rfl, hb⟩ | ⟨rfl, hb⟩
      · exact k0 (hst.trans hb)
      · exact k1 (hst.trans hb)
    all_goals exact absurd (by rw [m1, e]; exact Int.le_refl _) q
  · intro i hi ih b hb
    have hi2 : B 125 r + (i : Int) < B 125 (r + 1) := by unfold nCl at hi; omega
    have e1 : B 125 r + ((i + 1 : Nat) : Int) = B 125 r + (i : Int) + 1 := by omega
    rw [e1] at ih
    have hpi : p i = decide (B 126 (B 125 r + i) = 7 ∧ B 127 (B 125 r + i) = o) := by rw [hp]
    rw [anyB_s] at ih
    refine t_Mo_strikes_7 hP (fun q => by rw [m1] at q; omega) (fun _ q => ?_) (fun _ q1 q2 => ?_) (fun _ q1 q2 q3 => ?_) (fun _ q1 q2 q3 => ?_)
    · refine ih 1 (Or.inr ⟨rfl, ?_⟩)
      rcases hb with ⟨rfl, hb⟩ | ⟨rfl, hb⟩
      · exact absurd rfl q
      · rw [hb]; rfl
    · refine ih 0 (Or.inl ⟨rfl, ?_⟩)
      rw [m2] at q2
      rcases hb with ⟨rfl, hb⟩ | ⟨rfl, hb⟩
      · rw [hb, hpi]; simp [q2]
      · exact absurd q1 (by decide)
    · refine ih 0 (Or.inl ⟨rfl, ?_⟩)
      rw [m3] at q3
      rcases hb with ⟨rfl, hb⟩ | ⟨rfl, hb⟩
      · rw [hb, hpi]; simp [q3]
      · exact absurd q1 (by decide)
    · refine ih 1 (Or.inr ⟨rfl, ?_⟩)
      rw [m2] at q2
      rw [m3] at q3
      rw [hpi]; simp [q2, q3]
/-- the laws by the rules in D (as far as applied) -/
def LV (B : Mm_) (D : Int → Prop) (what v : Int) : Prop :=
  (∃ r, (0 ≤ r ∧ r < B 112 14) ∧ D r ∧ tol B r what ≠ -1 ∧ v = tol B r what ∧ ∀ q, 0 ≤ q ∧ q < B 112 14 → D q → tol B q what ≠ -1 → B 124 q < B 124 r ∨ B 124 q = B 124 r ∧ q ≤ r)
  ∨ ((∀ q, 0 ≤ q ∧ q < B 112 14 → D q → tol B q what = -1) ∧ v = AT what)
def MinI (B : Mm_) (l i : Nat) (x3 : Int) : Prop := x3 = -1 ∧ (∀ j : Nat, j < i → l.testBit j = false) ∨ ∃ m : Nat, x3 = m ∧ m < i ∧ l.testBit m = true ∧ ∀ j : Nat, j < i → l.testBit j = true → B 124 m < B 124 j ∨ B 124 m = B 124 j ∧ m ≤ j
theorem s_findRules3 (hP : Clo P) {Q : Qp_} {M0 : Mm_} {C : Int → Bool} (hS0 : Sc B M0) (hR : WfR B) (k : ∀ M, Fr 128 129 M0 M → (∀ what, 0 ≤ what ∧ what < 7 → HV B C what (M 129 what)) → Q none WF M) : ∀ (l : Nat) (M : Mm_), Fr 128 129 M0 M → l < 256 → (∀ j : Nat, l.testBit j = true → (j : Int) < B 112 14 ∧ C j = true) → (∀ q j : Nat, (q : Int) < B 112 14 → C q = true → l.testBit q = false → l.testBit j = true → B 124 q < B 124 j ∨ B 124 q = B 124 j ∧ q < j) → (∀ what, 0 ≤ what ∧ what < 7 → LV B (fun q => C q = true ∧ l.testBit q.toNat = false) what (M 129 what)) → P 110 104 [some (2, 112), none, some (0, (l : Int)), none, none] [] WF M (0, 0) Q := by
  obtain ⟨⟨n0, n1, n2, n3⟩, h1, h2, h3⟩ := hR
  intro l
  induction l using Nat.strongRecOn with
  | _ l ih =>
  intro M hF hl hl1 hl2 hL
  have hS : Sc B M := hS0.fr hF
  have m0 : M 112 14 = B 112 14 := hS 112 14 (by unfold Pc; omega)
  refine t_Mo_findRules_104 hP (fun q => k M hF fun what hw => ?_) (fun q => ?_)
  · have l0 : l = 0 := by omega
    subst l0
    rcases hL what hw with ⟨r, g1, g2, g3, g4, g5⟩ | ⟨g1, g2⟩
    · exact Or.inl ⟨r, g1, g2.1, g3, g4, fun q hq c1 c2 => g5 q hq ⟨c1, Nat.zero_testBit _⟩ c2⟩
    · exact Or.inr ⟨fun q hq c1 => g1 q hq ⟨c1, Nat.zero_testBit _⟩, g2⟩
  · have lp := lpN (n := (B 112 14).toNat) (f := fun i : Nat => ∀ x3 : Int, MinI B l i x3 → P 110 110 [some (2, 112), none, some (0, (l : Int)), some (0, x3), some (0, (i : Int))] [] WF M (0, 0) Q) ?_ ?_ 0 (Nat.zero_le _)
    · exact lp (-1) (Or.inl ⟨rfl, fun j hj => by omega⟩)
    · intro x3 hx
      have hm : ∃ m : Nat, x3 = m ∧ m < (B 112 14).toNat ∧ l.testBit m = true ∧ ∀ j : Nat, j < (B 112 14).toNat → l.testBit j = true → B 124 m < B 124 j ∨ B 124 m = B 124 j ∧ m ≤ j := by
        rcases hx with ⟨_, g⟩ | g
        · exfalso
          obtain ⟨j, hj⟩ := Nat.exists_testBit_of_ne_zero (x := l) (by omega)
          have := hl1 j hj
          rw [g j (by omega)] at hj
          cases hj
        · exact g
      clear hx
      obtain ⟨m, rfl, hm1, hm2, hm3⟩ := hm
      have cm := hl1 m hm2
      have a1 := h2 m (by omega)
      have a2 := h2 (m + 1) (by omega)
      obtain ⟨-, a3, -⟩ := h1 m (by omega)
      have m1 : M 125 = B 125 := hS.r 125
      refine t_Mo_findRules_110 hP (fun _ => ?_) (fun q => by rw [m0] at q; omega) (fun q => by rw [m0] at q; omega) (fun q => by rw [m0] at q; omega) (fun q => by rw [m0] at q; omega)
      rw [m1]
      have mono : ∀ d : Nat, ∀ q, 0 ≤ q → q + d ≤ B 112 14 → B 125 q ≤ B 125 (q + d) := by
        intro d
        induction d with
        | zero => intro q _ _; simp
        | succ d ih =>
          intro q hq hd
          have b1 := ih q hq (by omega)
          have b2 := (h1 (q + d) (by omega)).2.1.1
          rw [show q + ((d + 1 : Nat) : Int) = q + d + 1 by omega]
          omega
      have a4 := mono (B 112 14 - (m + 1)).toNat (m + 1) (by omega) (by omega)
      rw [show (m : Int) + 1 + ((B 112 14 - (m + 1)).toNat : Int) = B 112 14 by omega, n3] at a4
      have lp := lpN (n := nCl B m) (f := fun i : Nat => ∀ M', Fr 128 129 M0 M' → (∀ what, 0 ≤ what ∧ what < 7 → M' 129 what = if lastK (B 126) (B 127) what (B 125 m) i = -1 then M 129 what else lastK (B 126) (B 127) what (B 125 m) i) → P 110 143 [some (2, 112), none, some (0, (l : Int)), some (0, (m : Int)), some (0, B 125 m + (i : Int))] [] WF M' (0, 0) Q) ?_ ?_ 0 (Nat.zero_le _)
      · have := lp M hF (fun what _ => by rw [show lastK (B 126) (B 127) what (B 125 m) 0 = -1 from rfl, if_pos rfl])
        simpa using this
      · intro M' hF' hM'
        have e : B 125 m + ((nCl B m : Nat) : Int) = B 125 (m + 1) := by unfold nCl; omega
        have m1' : M' 125 = B 125 := (hS0.fr hF').r 125
        refine t_Mo_findRules_143 hP (fun _ => ?_) (fun q => absurd (by rw [m1', e]; exact Int.le_refl _) q) (fun q => absurd (by rw [m1', e]; exact Int.le_refl _) q) (s7 := fun q => absurd (by rw [m1', e]; exact Int.le_refl _) q)
        rw [clI (by omega) (by omega)]
        have tb : ∀ j : Nat, (l ^^^ (l &&& 2 ^ m)).testBit j = (l.testBit j && !decide (m = j)) := fun j => by rw [andn_tb, Nat.testBit_two_pow]
        refine ih _ (andn_lt hm2) M' hF' (Nat.lt_of_le_of_lt (andn_le _ _) hl) (fun j hj => hl1 j (by rw [tb, Bool.and_eq_true] at hj; exact hj.1)) (fun q j hq c1 c2 c3 => ?_) (fun what hw => ?_)
        · rw [tb, Bool.and_eq_true] at c3
          rw [tb, Bool.and_eq_false_iff] at c2
          have jn : m ≠ j := by simpa using c3.2
          rcases c2 with c2 | c2
          · exact hl2 q j hq c1 c2 c3.1
          · have qe : m = q := by simpa using c2
            subst qe
            have := hm3 j (by have := hl1 j c3.1; omega) c3.1
            omega
        · rw [hM' what hw]
          show LV B _ what (if tol B m what = -1 then M 129 what else tol B m what)
          have old := hL what hw
          by_cases ht : tol B m what = -1
          · rw [if_pos ht]
            rcases old with ⟨r, g1, g2, g3, g4, g5⟩ | ⟨g1, g2⟩
            · refine Or.inl ⟨r, g1, ⟨g2.1, by rw [tb, g2.2]; rfl⟩, g3, g4, fun q hq c1 c2 => ?_⟩
              replace c1 : C q = true ∧ (l ^^^ (l &&& 2 ^ m)).testBit q.toNat = false := c1
              rw [tb, Bool.and_eq_false_iff] at c1
              rcases c1.2 with c3 | c3
              · exact g5 q hq ⟨c1.1, c3⟩ c2
              · have : m = q.toNat := by simpa using c3
                rw [show q = (m : Int) by omega] at c2
                exact absurd ht c2
            · refine Or.inr ⟨fun q hq c1 => ?_, g2⟩
              replace c1 : C q = true ∧ (l ^^^ (l &&& 2 ^ m)).testBit q.toNat = false := c1
              rw [tb, Bool.and_eq_false_iff] at c1
              rcases c1.2 with c3 | c3
              · exact g1 q hq ⟨c1.1, c3⟩
              · have : m = q.toNat := by simpa using c3
                rw [show q = (m : Int) by omega]
                exact ht
          · rw [if_neg ht]
            refine Or.inl ⟨m, by omega, ⟨cm.2, by rw [Int.toNat_natCast, tb]; simp⟩, ht, rfl, fun q hq c1 c2 => ?_⟩
            replace c1 : C q = true ∧ (l ^^^ (l &&& 2 ^ m)).testBit q.toNat = false := c1
            rw [tb, Bool.and_eq_false_iff] at c1
            rcases c1.2 with c3 | c3
            · have := hl2 q.toNat m (by omega) (by rw [Int.toNat_of_nonneg hq.1]; exact c1.1) c3 hm2
              rw [Int.toNat_of_nonneg hq.1] at this
              omega
            · have : m = q.toNat := by simpa using c3
              rw [show q = (m : Int) by omega]
              omega
      · intro i hi ihi M' hF' hM'
        have hi2 : B 125 m + (i : Int) < B 125 (m + 1) := by unfold nCl at hi; omega
        have e1 : B 125 m + ((i + 1 : Nat) : Int) = B 125 m + (i : Int) + 1 := by omega
        rw [e1] at ihi
        have m1' : M' 125 = B 125 := (hS0.fr hF').r 125
        have m2' : M' 126 = B 126 := (hS0.fr hF').r 126
        have m3' : M' 127 = B 127 := (hS0.fr hF').r 127
        obtain ⟨b1, b2, b3⟩ := h3 (B 125 m + i) (by omega)
        refine t_Mo_findRules_143 hP (fun q => by rw [m1'] at q; omega) (fun _ q => ?_) (fun _ q => ?_) (s7 := fun _ q => by rw [m2'] at q ⊢; omega)
        · refine ihi M' hF' fun what hw => ?_
          rw [m2'] at q
          rw [show lastK (B 126) (B 127) what (B 125 m) (i + 1) = lastK (B 126) (B 127) what (B 125 m) i from if_neg (by omega)]
          exact hM' what hw
        · rw [m2', m3']
          rw [m2'] at q
          refine ihi _ (hF'.u (by omega)) fun what hw => ?_
          by_cases ew : B 126 (B 125 m + i) = what
          · rw [show lastK (B 126) (B 127) what (B 125 m) (i + 1) = B 127 (B 125 m + i) from if_pos ew, ew, upd_s]
            have : lowK what = 2 ∨ lowK what = 0 := by
              have : what = 0 ∨ what = 1 ∨ what = 2 ∨ what = 3 ∨ what = 4 ∨ what = 5 ∨ what = 6 := by omega
              rcases this with rfl | rfl | rfl | rfl | rfl | rfl | rfl <;> decide
            rw [ew] at b2
            rw [if_neg (by omega)]
          · rw [show lastK (B 126) (B 127) what (B 125 m) (i + 1) = lastK (B 126) (B 127) what (B 125 m) i from if_neg ew, upd_i (fun e => ew e.symm)]
            exact hM' what hw
    · intro i hi ihi x3 hx
      have m2 : M 124 = B 124 := hS.r 124
      have hx2 : -1 ≤ x3 ∧ x3 < i := by
        rcases hx with ⟨g1, g2⟩ | ⟨m, g1, g2, g3, g4⟩ <;> omega
      refine t_Mo_findRules_110 hP (fun q => by rw [m0] at q; omega) (fun _ q => ?_) (fun _ q1 q2 => ?_) (fun _ q1 q2 q3 => ?_) (fun _ q1 q2 q3 => ?_)
      · rw [tbIs (by omega) (by omega)] at q
        have tf : l.testBit i = false := Bool.eq_false_iff.mpr fun h => by rw [if_pos h] at q; exact q rfl
        refine ihi x3 ?_
        rcases hx with ⟨g1, g2⟩ | ⟨m, g1, g2, g3, g4⟩
        · refine Or.inl ⟨g1, fun j hj => ?_⟩
          by_cases e : j = i
          · rw [e]; exact tf
          · exact g2 j (by omega)
        · refine Or.inr ⟨m, g1, by omega, g3, fun j hj ht => ?_⟩
          by_cases e : j = i
          · rw [e, tf] at ht; cases ht
          · exact g4 j (by omega) ht
      · rw [tbIs (by omega) (by omega)] at q1
        have tt : l.testBit i = true := by
          by_cases h : l.testBit i = true
          · exact h
          · rw [if_neg h] at q1; exact absurd q1 (by decide)
        refine ihi (i : Int) (Or.inr ⟨i, rfl, by omega, tt, fun j hj ht => ?_⟩)
        rcases hx with ⟨g1, g2⟩ | ⟨m, g1, g2, g3, g4⟩
        · by_cases e : j = i
          · subst e; omega
          · rw [g2 j (by omega)] at ht; cases ht
        · omega
      · rw [m2] at q3
        rcases hx with ⟨g1, g2⟩ | ⟨m, g1, g2, g3, g4⟩
        · omega
        · subst g1
          refine ihi _ (Or.inr ⟨m, rfl, by omega, g3, fun j hj ht => ?_⟩)
          by_cases e : j = i
          · subst e; omega
          · exact g4 j (by omega) ht
      · rw [m2] at q3
        rw [tbIs (by omega) (by omega)] at q1
        have tt : l.testBit i = true := by
          by_cases h : l.testBit i = true
          · exact h
          · rw [if_neg h] at q1; exact absurd q1 (by decide)
        rcases hx with ⟨g1, g2⟩ | ⟨m, g1, g2, g3, g4⟩
        · omega
        · subst g1
          refine ihi (i : Int) (Or.inr ⟨i, rfl, by omega, tt, fun j hj ht => ?_⟩)
          by_cases e : j = i
          · subst e; omega
          · have := g4 j (by omega) ht
            omega
theorem s_findRules (hP : Clo P) {Q : Qp_} {M0 : Mm_} {day : Int} (hS0 : Sc B M0) (hR : WfR B) (k : ∀ M, Fr 128 129 M0 M → (∀ what, 0 ≤ what ∧ what < 7 → M 129 what = hold B what day) → Q none WF M) : P 110 0 [some (2, 112), some (0, day), none, none, none] [] WF M0 (0, 0) Q := by
  have hR0 := hR
  obtain ⟨⟨n0, n1, n2, n3⟩, h1, h2, h3⟩ := hR
  have m0 : M0 112 14 = B 112 14 := hS0 112 14 (by unfold Pc; omega)
  refine t_Mo_findRules_0 hP ?_
  rw [m0]
  have lp := lpD (n := -1) (hi := B 112 14 - 1) (f := fun r => ∀ (M : Mm_) (l : Nat), Fr 128 129 M0 M → (∀ what, 0 ≤ what ∧ what < 7 → M 129 what = AT what) → l < 256 → (∀ j : Nat, (l.testBit j = true ↔ r < j ∧ (j : Int) < B 112 14 ∧ M 128 j = 1)) → (∀ j, r < j → j < B 112 14 → (M 128 j = 0 ∨ M 128 j = 1) ∧ (M 128 j = 1 ↔ B 124 j ≤ day ∧ ∀ i, j < i → i < B 112 14 → M 128 i = 1 → stk B i j = false)) → P 110 42 [some (2, 112), some (0, day), some (0, (l : Int)), some (0, r), none] [] WF M (0, 0) Q) ?_ ?_ (B 112 14 - 1) (by omega) (by omega)
  · refine lp _ 0 ((((((((Fr.u0 (by omega)).u (by omega)).u (by omega)).u (by omega)).u (by omega)).u (by omega)).u (by omega))) ?_ (by decide) (fun j => ?_) (fun j _ _ => by omega)
    · intro what hw
      have : what = 0 ∨ what = 1 ∨ what = 2 ∨ what = 3 ∨ what = 4 ∨ what = 5 ∨ what = 6 := by omega
      rcases this with rfl | rfl | rfl | rfl | rfl | rfl | rfl <;> rfl
    · rw [Nat.zero_testBit]
      exact ⟨fun h => (by cases h), fun h => by omega⟩
  · intro M l hF hA hl hb hc
    refine t_Mo_findRules_42 hP (fun _ => ?_) (fun q => absurd (by decide) q) (fun q => absurd (by decide) q)
    have hCT : CT B day (fun j => decide (M 128 j = 1)) := by
      intro j hj
      rw [decide_eq_true_iff, (hc j (by omega) hj.2).2]
      simp only [decide_eq_true_iff]
    refine s_findRules3 hP (C := fun j => decide (M 128 j = 1)) hS0 hR0 (fun M' hF' hH => k M' hF' fun what hw => hold_eq ⟨_, hCT, hH what hw⟩) l M hF hl (fun j hj => ?_) (fun q j hq c1 c2 c3 => ?_) (fun what hw => ?_)
    · have := (hb j).mp hj
      exact ⟨this.2.1, decide_eq_true this.2.2⟩
    · have := (hb q).mpr ⟨by omega, hq, of_decide_eq_true c1⟩
      rw [this] at c2
      cases c2
    · refine Or.inr ⟨fun q hq c1 => ?_, hA what hw⟩
      have := (hb q.toNat).mpr ⟨by omega, by omega, by rw [Int.toNat_of_nonneg hq.1]; exact of_decide_eq_true c1.1⟩
      have c2 := c1.2
      rw [this] at c2
      cases c2
  · intro r hr1 hr2 ih M l hF hA hl hb hc
    have hS : Sc B M := hS0.fr hF
    have m2 : M 124 = B 124 := hS.r 124
    obtain ⟨rn, rfl⟩ := Int.eq_ofNat_of_zero_le (show 0 ≤ r by omega)
    -- the inner loop
    have inner : ∀ i, (rn : Int) + 1 ≤ i → i ≤ B 112 14 → ∀ M', Fr 128 129 M0 M' → M' 129 = M 129 → (∀ j : Int, (rn : Int) < j → M' 128 j = M 128 j) → (M' 128 rn = 0 ∨ M' 128 rn = 1) → (M' 128 rn = 1 ↔ B 124 rn ≤ day ∧ ∀ j, (rn : Int) < j → j < i → M 128 j = 1 → stk B j rn = false) → P 110 61 [some (2, 112), some (0, day), some (0, (l : Int)), some (0, (rn : Int)), some (0, i)] [] WF M' (0, 0) Q := by
      refine lpI (n := B 112 14) (lo := (rn : Int) + 1) ?_ ?_
      · intro M' hF' hA' ho hz hi
        have m0' : M' 112 14 = B 112 14 := (hS0.fr hF') 112 14 (by unfold Pc; omega)
        have hc' : ∀ j, (rn : Int) + (-1) < j → j < B 112 14 → (M' 128 j = 0 ∨ M' 128 j = 1) ∧ (M' 128 j = 1 ↔ B 124 j ≤ day ∧ ∀ i, j < i → i < B 112 14 → M' 128 i = 1 → stk B i j = false) := by
          intro j j1 j2
          by_cases e : j = rn
          · subst e
            refine ⟨hz, hi.trans (and_congr_right fun _ => forall_congr' fun i => forall_congr' fun g => ?_)⟩
            rw [ho i g]
          · obtain ⟨g1, g2⟩ := hc j (by omega) j2
            rw [ho j (by omega)]
            refine ⟨g1, g2.trans (and_congr_right fun _ => forall_congr' fun i => forall_congr' fun g => ?_)⟩
            rw [ho i (by omega)]
        refine t_Mo_findRules_61 hP (fun _ q => ?_) (fun _ q => ?_) (fun q => by rw [m0'] at q; omega) (fun q => by rw [m0'] at q; omega) (fun q => by rw [m0'] at q; omega)
        · rw [orI_0 (by omega)]
          refine ih M' l hF' (by rw [hA']; exact hA) hl (fun j => ?_) hc'
          rw [hb j]
          constructor
          · rintro ⟨g1, g2, g3⟩
            exact ⟨by omega, g2, by rw [ho j g1]; exact g3⟩
          · rintro ⟨g1, g2, g3⟩
            by_cases e : (j : Int) = rn
            · rw [e] at g3
              omega
            · exact ⟨by omega, g2, by rw [← ho j (by omega)]; exact g3⟩
        · rw [sbI (by omega) (by omega)]
          refine ih M' (l ||| 2 ^ rn) hF' (by rw [hA']; exact hA) (or_bd (n := 8) hl (by omega)) (fun j => ?_) hc'
          rw [or_tb, Bool.or_eq_true, decide_eq_true_iff, hb j]
          constructor
          · rintro (⟨g1, g2, g3⟩ | g)
            · exact ⟨by omega, g2, by rw [ho j g1]; exact g3⟩
            · subst g
              exact ⟨by omega, by omega, by omega⟩
          · rintro ⟨g1, g2, g3⟩
            by_cases e : rn = j
            · exact Or.inr e
            · exact Or.inl ⟨by omega, g2, by rw [← ho j (by omega)]; exact g3⟩
      · intro i i1 i2 ihi M' hF' hA' ho hz hi
        have hS' : Sc B M' := hS0.fr hF'
        have m0' : M' 112 14 = B 112 14 := hS' 112 14 (by unfold Pc; omega)
        have up : ∀ v : Int, (v = 0 ∨ v = 1) → (v = 1 ↔ B 124 rn ≤ day ∧ ∀ j, (rn : Int) < j → j < i + 1 → M 128 j = 1 → stk B j rn = false) → P 110 61 [some (2, 112), some (0, day), some (0, (l : Int)), some (0, (rn : Int)), some (0, i + 1)] [] WF (updM M' 128 rn v) (0, 0) Q := by
          intro v v1 v2
          refine ihi _ (hF'.u (by omega)) (by rw [upd_r (by decide)]; exact hA') (fun j hj => by rw [upd_i (by omega)]; exact ho j hj) (by rw [upd_s]; exact v1) (by rw [upd_s]; exact v2)
        refine t_Mo_findRules_61 hP (fun q => by rw [m0'] at q; omega) (fun q => by rw [m0'] at q; omega) (fun _ q => ?_) (fun _ q1 q2 => ?_) (fun _ q1 q2 => ?_)
        · refine up 0 (Or.inl rfl) ⟨fun h => by omega, fun h => ?_⟩
          have := hi.mpr ⟨h.1, fun j j1 j2 j3 => h.2 j j1 (by omega) j3⟩
          omega
        · refine up 1 (Or.inr rfl) ⟨fun _ => ?_, fun _ => rfl⟩
          have g := hi.mp (by omega)
          refine ⟨g.1, fun j j1 j2 j3 => ?_⟩
          by_cases e : j = i
          · subst e
            rw [← ho j (by omega)] at j3
            omega
          · exact g.2 j j1 (by omega) j3
        · have g := hi.mp (by omega)
          have mi : M 128 i = 1 := by
            have a := (hc i (by omega) i2).1
            rw [ho i (by omega)] at q2
            omega
          refine s_strikes hP hS' hR0 (by omega) (fun st => t_Mo_findRules_82 hP (fun _ => ?_) (fun q => by omega)) (fun st => t_Mo_findRules_82 hP (fun q => by omega) (fun _ => ?_))
          · refine up 0 (Or.inl rfl) ⟨fun h => by omega, fun h => ?_⟩
            have := h.2 i (by omega) (by omega) mi
            rw [st] at this
            cases this
          · refine up 1 (Or.inr rfl) ⟨fun _ => ⟨g.1, fun j j1 j2 j3 => ?_⟩, fun _ => rfl⟩
            by_cases e : j = i
            · subst e
              exact st
            · exact g.2 j j1 (by omega) j3
    have st : ∀ v : Int, (v = 0 ∨ v = 1) → (v = 1 ↔ B 124 rn ≤ day) → P 110 61 [some (2, 112), some (0, day), some (0, (l : Int)), some (0, (rn : Int)), some (0, (rn : Int) + 1)] [] WF (updM M 128 rn v) (0, 0) Q := by
      intro v v1 v2
      refine inner _ (by omega) (by omega) _ (hF.u (by omega)) (upd_r (by decide) _ _) (fun j hj => upd_i (by omega) _ _ _) (by rw [upd_s]; exact v1) (by rw [upd_s]; exact v2.trans ⟨fun h => ⟨h, fun j j1 j2 _ => by omega⟩, fun h => h.1⟩)
    refine t_Mo_findRules_42 hP (fun q => by omega) (fun _ q => ?_) (fun _ q => ?_)
    · rw [m2] at q
      exact st 0 (Or.inl rfl) (by omega)
    · rw [m2] at q
      exact st 1 (Or.inr rfl) (by omega)
end RU2
