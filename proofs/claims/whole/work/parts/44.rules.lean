/-! RULES: which count, what holds; the class's countingOn, holding; the reference's strikes, findRules -/
theorem CT_ex (B : Mm_) (day : Int) : ∃ C, CT B day C := by
  have key : ∀ d : Nat, ∃ C : Int → Bool, ∀ k, B 112 14 - d ≤ k ∧ k < B 112 14 → (C k = true ↔ B 124 k ≤ day ∧ ∀ j, k < j → j < B 112 14 → C j = true → stk B j k = false) := by
    intro d
    induction d with
    | zero => exact ⟨fun _ => true, fun k hk => by omega⟩
    | succ d ih =>
      obtain ⟨C, hC⟩ := ih
      refine ⟨fun k => if k = B 112 14 - (d + 1) then @decide (B 124 k ≤ day ∧ ∀ j, k < j → j < B 112 14 → C j = true → stk B j k = false) (Classical.propDecidable _) else C k, fun k hk => ?_⟩
      by_cases e : k = B 112 14 - (d + 1)
      · simp only [if_pos e]
        refine (@decide_eq_true_iff _ (Classical.propDecidable _)).trans (and_congr_right fun _ => forall_congr' fun j => forall_congr' fun h1 => ?_)
        rw [if_neg (by omega)]
      · simp only [if_neg e]
        rw [hC k (by omega)]
        refine and_congr_right fun _ => forall_congr' fun j => forall_congr' fun h1 => ?_
        rw [if_neg (by omega)]
  obtain ⟨C, hC⟩ := key (B 112 14).toNat
  exact ⟨C, fun k hk => hC k (by omega)⟩
/-- what holds by the rules below n -/
def HVn (B : Mm_) (C : Int → Bool) (what n v s : Int) : Prop :=
  (∃ r, (0 ≤ r ∧ r < n) ∧ C r = true ∧ tol B r what ≠ -1 ∧ v = tol B r what ∧ s = B 124 r ∧ ∀ q, 0 ≤ q ∧ q < n → C q = true → tol B q what ≠ -1 → B 124 q < B 124 r ∨ B 124 q = B 124 r ∧ q ≤ r)
  ∨ ((∀ q, 0 ≤ q ∧ q < n → C q = true → tol B q what = -1) ∧ v = AT what ∧ s = -1)
theorem HVn_0 (B : Mm_) (C : Int → Bool) (what : Int) : HVn B C what 0 (AT what) (-1) := Or.inr ⟨fun q h => by omega, rfl, rfl⟩
theorem HVn_skip {B : Mm_} {C : Int → Bool} {what n v s : Int} (h : HVn B C what n v s) (g : C n = false ∨ tol B n what = -1 ∨ (B 124 n < s)) (hd : 0 ≤ B 124 n) : HVn B C what (n + 1) v s := by
  rcases h with ⟨r, h1, h2, h3, h4, h5, h6⟩ | ⟨h1, h2, h3⟩
  · refine Or.inl ⟨r, by omega, h2, h3, h4, h5, fun q hq c1 c2 => ?_⟩
    by_cases e : q = n
    · subst e
      rcases g with g | g | g
      · rw [g] at c1
        cases c1
      · exact absurd g c2
      · exact Or.inl (by omega)
    · exact h6 q (by omega) c1 c2
  · refine Or.inr ⟨fun q hq c1 => ?_, h2, h3⟩
    by_cases e : q = n
    · subst e
      rcases g with g | g | g
      · rw [g] at c1
        cases c1
      · exact g
      · omega
    · exact h1 q (by omega) c1
theorem HVn_take {B : Mm_} {C : Int → Bool} {what n v s : Int} (hn : 0 ≤ n) (h : HVn B C what n v s) (g1 : C n = true) (g2 : tol B n what ≠ -1) (g3 : s ≤ B 124 n) : HVn B C what (n + 1) (tol B n what) (B 124 n) := by
  refine Or.inl ⟨n, by omega, g1, g2, rfl, rfl, fun q hq c1 c2 => ?_⟩
  by_cases e : q = n
  · subst e
    omega
  · rcases h with ⟨r, h1, h2, h3, h4, h5, h6⟩ | ⟨h1, h2, h3⟩
    · have := h6 q (by omega) c1 c2
      omega
    · exact absurd (h1 q (by omega) c1) c2
theorem HVn_HV {B : Mm_} {C : Int → Bool} {what v s : Int} (h : HVn B C what (B 112 14) v s) : HV B C what v := by
  rcases h with ⟨r, h1, h2, h3, h4, h5, h6⟩ | ⟨h1, h2, h3⟩
  · exact Or.inl ⟨r, h1, h2, h3, h4, h6⟩
  · exact Or.inr ⟨h1, h2⟩
theorem IsH_ex {B : Mm_} (hR : WfR B) (day what : Int) : ∃ v, IsH B day what v := by
  obtain ⟨C, hC⟩ := CT_ex B day
  have key : ∀ n : Nat, (n : Int) ≤ B 112 14 → ∃ v s, HVn B C what n v s := by
    intro n
    induction n with
    | zero => exact fun _ => ⟨_, _, HVn_0 B C what⟩
    | succ n ih =>
      intro hn
      obtain ⟨v, s, h⟩ := ih (by omega)
      have d := (hR.2.1 n (by omega)).1.1
      by_cases c1 : C n = true
      · by_cases c2 : tol B n what = -1
        · exact ⟨v, s, HVn_skip h (Or.inr (Or.inl c2)) d⟩
        · by_cases c3 : B 124 n < s
          · exact ⟨v, s, HVn_skip h (Or.inr (Or.inr c3)) d⟩
          · exact ⟨_, _, HVn_take (by omega) h c1 c2 (by omega)⟩
      · exact ⟨v, s, HVn_skip h (Or.inl (Bool.eq_false_iff.mpr c1)) d⟩
  have h0 := hR.1.1
  obtain ⟨v, s, h⟩ := key (B 112 14).toNat (by omega)
  rw [Int.toNat_of_nonneg h0] at h
  exact ⟨v, C, hC, HVn_HV h⟩
theorem lastK_in {kd nb : Int → Int} {what lo : Int} : ∀ n : Nat, lastK kd nb what lo n = -1 ∨ ∃ i : Nat, i < n ∧ kd (lo + i) = what ∧ lastK kd nb what lo n = nb (lo + i)
  | 0 => Or.inl rfl
  | n + 1 => by
    unfold lastK
    split
    · rename_i h
      exact Or.inr ⟨n, by omega, h, rfl⟩
    · rcases lastK_in n with h | ⟨i, h1, h2, h3⟩
      · exact Or.inl h
      · exact Or.inr ⟨i, by omega, h2, h3⟩
theorem tol_bd {B : Mm_} (hR : WfR B) {r what : Int} (hr : 0 ≤ r ∧ r < B 112 14) (h : tol B r what ≠ -1) : lowK what ≤ tol B r what ∧ tol B r what ≤ higK what := by
  obtain ⟨⟨n0, n1, n2, n3⟩, h1, h2, h3⟩ := hR
  obtain ⟨-, ⟨a1, a2⟩, -⟩ := h1 r hr
  have a3 := h2 r (by omega)
  have mono : ∀ d : Nat, ∀ q, 0 ≤ q → q + d ≤ B 112 14 → B 125 q ≤ B 125 (q + d) := by
    intro d
    induction d with
    | zero => intro q _ _; simp
    | succ d ih =>
      intro q hq hd
      have b1 := ih q hq (by omega)
      have b2 := (h1 (q + d) (by omega)).2.1.1
      rw [show q + ((d + 1 : Nat) : Int) = q + d + 1 by omega]
      omega
  have a4 := mono (B 112 14 - (r + 1)).toNat (r + 1) (by omega) (by omega)
  rw [show r + 1 + ((B 112 14 - (r + 1)).toNat : Int) = B 112 14 by omega, n3] at a4
  unfold tol nCl at h ⊢
  rcases lastK_in (kd := B 126) (nb := B 127) (what := what) (lo := B 125 r) (B 125 (r + 1) - B 125 r).toNat with e | ⟨i, e1, e2, e3⟩
  · exact absurd e h
  · rw [e3]
    have := h3 (B 125 r + i) (by omega)
    rw [e2] at this
    exact this.2
theorem AT_bd : ∀ n : Nat, n < 7 → lowK n ≤ AT n ∧ AT n ≤ higK n := by decide +kernel
theorem hold_bd {B : Mm_} (hR : WfR B) {what : Int} (day : Int) (hw : 0 ≤ what ∧ what < 7) : lowK what ≤ hold B what day ∧ hold B what day ≤ higK what := by
  obtain ⟨v, h⟩ := IsH_ex hR day what
  rw [← hold_eq h]
  obtain ⟨C, hC, h⟩ := h
  rcases h with ⟨r, h1, h2, h3, h4, h5⟩ | ⟨h1, h2⟩
  · rw [h4]
    exact tol_bd hR h1 h3
  · rw [h2]
    have := AT_bd what.toNat (by omega)
    rwa [Int.toNat_of_nonneg hw.1] at this
theorem lws_bd {B : Mm_} (hR : WfR B) (x : Int) : (2 ≤ lws B x 0 ∧ lws B x 0 ≤ 20) ∧ (0 ≤ lws B x 1 ∧ lws B x 1 ≤ 3) ∧ (0 ≤ lws B x 2 ∧ lws B x 2 ≤ 1) ∧ (0 ≤ lws B x 3 ∧ lws B x 3 ≤ 1) ∧ (0 ≤ lws B x 4 ∧ lws B x 4 ≤ 999) ∧ (0 ≤ lws B x 5 ∧ lws B x 5 ≤ 100) ∧ (0 ≤ lws B x 6 ∧ lws B x 6 ≤ 100) :=
  ⟨hold_bd hR _ (by decide), hold_bd hR _ (by decide), hold_bd hR _ (by decide), hold_bd hR _ (by decide), hold_bd hR _ (by decide), hold_bd hR _ (by decide), hold_bd hR _ (by decide)⟩
theorem RM_AT (L : Nat) (xs : Nat → Int32) {what : Int} (hw : 0 ≤ what ∧ what < 7) : RMx L xs (-3) what = AT what := by
  unfold RMx
  rw [if_neg (by decide), if_neg (by omega), if_pos rfl]
  rfl
section RU
variable {P : Jg_} {Q : Qp_} {B M : Mm_}
theorem s_countingOn (hP : Clo P) {day : Int} (hS : Sc B M) (hR : WfR B) (k : ∀ c : Nat, c < 256 → CT B day (fun k => c.testBit k.toNat) → Q (some (0, (c : Int))) WF M) : P 106 0 [some (2, 35), some (0, day), none, none, none] [] WF M (0, 0) Q := by
  obtain ⟨⟨n0, n1, n2, n3⟩, hr, -, -⟩ := hR
  have m1 : M 35 3 = B 112 14 := (hS 35 3 (by unfold Pc; omega)).trans n2
  have m2 : M 36 = B 36 := hS.r 36
  have m3 : M 37 = B 37 := hS.r 37
  refine t_RuleBook_countingOn_0 hP ?_
  rw [m1]
  have lp := lpD (n := -1) (hi := B 112 14 - 1) (f := fun r => ∀ c o : Nat, (c < 256 ∧ o < 256) → (∀ j : Nat, c.testBit j = true → r < j ∧ (j : Int) < B 112 14) → (∀ k : Nat, r < k → (k : Int) < B 112 14 → (c.testBit k = true ↔ B 124 k ≤ day ∧ ∀ j : Nat, k < j → (j : Int) < B 112 14 → c.testBit j = true → stk B j k = false)) → (∀ k : Nat, k < 8 → (o.testBit k = true ↔ ∃ j : Nat, c.testBit j = true ∧ stk B j k = true)) → P 106 9 [some (2, 35), some (0, day), some (0, (c : Int)), some (0, (o : Int)), some (0, r)] [] WF M (0, 0) Q) ?_ ?_ (B 112 14 - 1) (by omega) (by omega)
  · exact lp 0 0 (by decide) (fun j h => by simp at h) (fun k h1 h2 => by omega) (fun k hk => by simp)
  · intro c o hb h1 h2 h3
    refine t_RuleBook_countingOn_9 hP (fun _ => k c hb.1 ?_) (fun q => absurd (by decide) q) (fun q => absurd (by decide) q) (fun q => absurd (by decide) q)
    intro k hk
    obtain ⟨kn, rfl⟩ := Int.eq_ofNat_of_zero_le hk.1
    simp only [Int.toNat_natCast]
    rw [h2 kn (by omega) hk.2]
    refine and_congr_right fun _ => ⟨fun g j h4 h5 h6 => ?_, fun g j h4 h5 h6 => ?_⟩
    · obtain ⟨jn, rfl⟩ := Int.eq_ofNat_of_zero_le (show 0 ≤ j by omega)
      exact g jn (by omega) h5 (by simpa using h6)
    · exact g j (by omega) h5 (by simpa using h6)
  · intro r hr1 hr2 ih c o hb h1 h2 h3
    obtain ⟨rn, rfl⟩ := Int.eq_ofNat_of_zero_le (show 0 ≤ r by omega)
    obtain ⟨⟨d0, d1, d2⟩, -, st, -, st0⟩ := hr rn (by omega)
    have cf : ¬ c.testBit rn = true := fun h => by have := h1 rn h; omega
    refine t_RuleBook_countingOn_9 hP (fun q => by omega) (fun _ q => ?_) (fun _ q1 q2 => ?_) (fun _ q1 q2 => ?_)
    · rw [m2, d2] at q
      refine ih c o hb (fun j hj => ?_) (fun k hk1 hk2 => ?_) h3
      · have := h1 j hj
        omega
      · by_cases e : k = rn
        · subst e
          exact ⟨fun t => absurd t cf, fun t => by omega⟩
        · exact h2 k (by omega) hk2
    · rw [tbI (by omega) (by omega)] at q2
      rw [m2, d2] at q1
      have ho : o.testBit rn = true := by
        by_cases h : o.testBit rn = true
        · exact h
        · rw [if_neg h] at q2
          exact absurd rfl q2
      obtain ⟨j, j1, j2⟩ := (h3 rn (by omega)).mp ho
      refine ih c o hb (fun j hj => ?_) (fun k hk1 hk2 => ?_) h3
      · have := h1 j hj
        omega
      · by_cases e : k = rn
        · subst e
          refine ⟨fun t => absurd t cf, fun t => ?_⟩
          have := t.2 j (by have := h1 j j1; omega) (h1 j j1).2 j1
          rw [j2] at this
          cases this
        · exact h2 k (by omega) hk2
    · rw [tbI (by omega) (by omega)] at q2
      rw [m2, d2] at q1
      have ho : ¬ o.testBit rn = true := fun h => by
        rw [if_pos h] at q2
        exact absurd q2 (by decide)
      have hm : mset (fun k => stk B rn k) 8 < 256 := mset_lt _ 8
      rw [m3, st, sbI (by omega) (by omega), orI_n (by omega) (by omega)]
      refine ih (c ||| 2 ^ rn) (o ||| mset (fun k => stk B rn k) 8) ⟨or_bd (n := 8) hb.1 (by omega), Nat.or_lt_two_pow (n := 8) hb.2 hm⟩ (fun j hj => ?_) (fun k hk1 hk2 => ?_) (fun k hk => ?_)
      · rw [or_tb, Bool.or_eq_true, decide_eq_true_iff] at hj
        rcases hj with hj | hj
        · have := h1 j hj
          omega
        · omega
      · rw [or_tb, Bool.or_eq_true, decide_eq_true_iff]
        by_cases e : k = rn
        · subst e
          refine ⟨fun _ => ⟨by omega, fun j h4 h5 h6 => ?_⟩, fun _ => Or.inr rfl⟩
          rw [or_tb, Bool.or_eq_true, decide_eq_true_iff] at h6
          have h7 : c.testBit j = true := h6.resolve_right (by omega)
          exact Bool.eq_false_iff.mpr fun h8 => ho ((h3 k (by omega)).mpr ⟨j, h7, h8⟩)
        · have hk3 := h2 k (by omega) hk2
          have ev : (c.testBit k = true ∨ rn = k) ↔ c.testBit k = true := ⟨fun h => h.resolve_right (by omega), Or.inl⟩
          rw [ev, hk3]
          refine and_congr_right fun _ => forall_congr' fun j => forall_congr' fun h4 => forall_congr' fun h5 => ?_
          rw [or_tb, Bool.or_eq_true, decide_eq_true_iff]
          have ev2 : (c.testBit j = true ∨ rn = j) ↔ c.testBit j = true := ⟨fun h => h.resolve_right (by omega), Or.inl⟩
          rw [ev2]
      · rw [Nat.testBit_or, Bool.or_eq_true, h3 k hk, mset_tb, Bool.and_eq_true, decide_eq_true_iff]
        constructor
        · rintro (⟨j, j1, j2⟩ | ⟨_, j2⟩)
          · exact ⟨j, by rw [or_tb, j1]; rfl, j2⟩
          · exact ⟨rn, by rw [or_tb]; simp, j2⟩
        · rintro ⟨j, j1, j2⟩
          rw [or_tb, Bool.or_eq_true, decide_eq_true_iff] at j1
          rcases j1 with j1 | j1
          · exact Or.inl ⟨j, j1, j2⟩
          · subst j1
            exact Or.inr ⟨hk, j2⟩
theorem s_holding (hP : Clo P) {L : Nat} {xs : Nat → Int32} {what day : Int} (hS : Sc B M) (hW : WfC L xs B) (hw : 0 ≤ what ∧ what < 7) (k : Q (some (0, hold B what day)) WF M) : P 107 0 [some (2, 35), some (0, what), some (0, day), none, none, none, none] [] WF M (0, 0) Q := by
  have hR := hW.2.2.2
  obtain ⟨⟨n0, n1, n2, n3⟩, hr, -, -⟩ := hR
  have m1 : M 35 3 = B 112 14 := (hS 35 3 (by unfold Pc; omega)).trans n2
  have m2 : M 36 = B 36 := hS.r 36
  have m4 : M (-3) what = AT what := by
    rw [hS.r (-3), hW.1 (-3) (by decide), RM_AT L xs hw]
  have m5 : M (-3) (-1) = 7 := by
    rw [hS.r (-3), hW.1 (-3) (by decide)]
    rfl
  refine t_RuleBook_holding_0 hP (s_countingOn hP hS hW.2.2.2 fun c hc hCT => t_RuleBook_holding_3 hP ?_)
  rw [m4]
  have lp := lpI (n := B 112 14) (lo := 0) (f := fun r => ∀ v s : Int, HVn B (fun k => c.testBit k.toNat) what r v s → P 107 12 [some (2, 35), some (0, what), none, some (0, (c : Int)), some (0, v), some (0, s), some (0, r)] [] WF M (0, 0) Q) ?_ ?_ 0 (by omega) (by omega)
  · exact lp _ _ (HVn_0 B _ what)
  · intro v s h
    refine t_RuleBook_holding_12 hP (fun _ => ?_) (fun q => absurd (by rw [m1]; exact Int.le_refl _) q) (fun q => absurd (by rw [m1]; exact Int.le_refl _) q) (fun q => absurd (by rw [m1]; exact Int.le_refl _) q) (fun q => absurd (by rw [m1]; exact Int.le_refl _) q)
    rw [hold_eq ⟨_, hCT, HVn_HV h⟩]
    exact k
  · intro r hr1 hr2 ih v s h
    obtain ⟨rn, rfl⟩ := Int.eq_ofNat_of_zero_le hr1
    obtain ⟨⟨d0, d1, d2⟩, -, -, st, -⟩ := hr rn (by omega)
    have e1 : M (39 + (rn : Int)) what = tol B rn what := by
      rw [hS.r (39 + (rn : Int)) (by omega)]
      exact st what hw
    refine t_RuleBook_holding_12 hP (fun q => by omega) (fun _ q => ?_) (fun _ q1 q2 => ?_) (fun _ q1 q2 q3 => ?_) (fun _ q1 q2 q3 => ?_)
    · rw [tbI (by omega) (by omega)] at q
      refine ih v s (HVn_skip h (Or.inl ?_) d0)
      show c.testBit (rn : Int).toNat = false
      rw [Int.toNat_natCast]
      by_cases ht : c.testBit rn = true
      · rw [if_pos ht] at q
        exact absurd q (by decide)
      · exact Bool.eq_false_iff.mpr ht
    · rw [e1] at q2
      exact ih v s (HVn_skip h (Or.inr (Or.inl q2)) d0)
    · rw [m2, d2] at q3
      exact ih v s (HVn_skip h (Or.inr (Or.inr q3)) d0)
    · rw [tbI (by omega) (by omega)] at q1
      rw [e1] at q2 ⊢
      rw [m2, d2] at q3 ⊢
      refine ih _ _ (HVn_take (by omega) h ?_ q2 (by omega))
      show c.testBit (rn : Int).toNat = true
      rw [Int.toNat_natCast]
      by_cases ht : c.testBit rn = true
      · exact ht
      · rw [if_neg ht] at q1
        exact absurd rfl q1
end RU
