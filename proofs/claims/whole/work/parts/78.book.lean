/-! the book of rules: what a new rule, or a failed one, leaves -/
theorem lastK_cong {kd nb kd' nb' : Int → Int} {what lo lo' : Int} : ∀ {n : Nat}, (∀ i : Nat, i < n → kd' (lo' + i) = kd (lo + i) ∧ nb' (lo' + i) = nb (lo + i)) → lastK kd' nb' what lo' n = lastK kd nb what lo n
  | 0, _ => rfl
  | n + 1, h => by
    show (if kd' (lo' + n) = what then nb' (lo' + n) else lastK kd' nb' what lo' n) = if kd (lo + n) = what then nb (lo + n) else lastK kd nb what lo n
    rw [(h n (by omega)).1, (h n (by omega)).2, lastK_cong (n := n) fun i hi => h i (by omega)]
theorem anyB_cong {p q : Int → Bool} : ∀ {n : Nat}, (∀ k : Nat, k < n → p k = q k) → anyB p n = anyB q n
  | 0, _ => rfl
  | n + 1, h => by
    show (anyB p n || p n) = (anyB q n || q n)
    rw [h n (by omega), anyB_cong (n := n) fun k hk => h k (by omega)]
theorem mono125 {B : Mm_} (h : WfR B) : ∀ (d : Nat) (r : Int), 0 ≤ r → r + d ≤ B 112 14 → B 125 r ≤ B 125 (r + d)
  | 0, r, _, _ => by rw [show r + ((0 : Nat) : Int) = r by omega]; exact Int.le_refl _
  | d + 1, r, h0, h1 => by
    have a := mono125 h d r h0 (by omega)
    have b := (h.2.1 (r + d) (by omega)).2.1.1
    rw [show r + ((d + 1 : Nat) : Int) = r + d + 1 by omega]
    omega
theorem in125 {B : Mm_} (h : WfR B) {r : Int} (hr : 0 ≤ r ∧ r < B 112 14) : 0 ≤ B 125 r ∧ B 125 r ≤ B 125 (r + 1) ∧ B 125 (r + 1) ≤ B 112 17 := by
  have a := (h.2.1 r hr).2.1.1
  have b := mono125 h (B 112 14 - (r + 1)).toNat (r + 1) (by omega) (by omega)
  rw [show r + 1 + ((B 112 14 - (r + 1)).toNat : Int) = B 112 14 by omega, h.1.2.2.2] at b
  have c := (h.2.2.1 r (by omega)).1
  omega
theorem rule_c {B B' : Mm_} (h : WfR B) {r : Int} (hr : 0 ≤ r ∧ r < B 112 14) (e5 : B' 125 r = B 125 r ∧ B' 125 (r + 1) = B 125 (r + 1)) (g : ∀ j, 0 ≤ j ∧ j < B 112 17 → B' 126 j = B 126 j ∧ B' 127 j = B 127 j) : (∀ what, tol B' r what = tol B r what) ∧ ∀ k, stk B' r k = stk B r k := by
  have a := in125 h hr
  have en : nCl B' r = nCl B r := by
    unfold nCl
    rw [e5.1, e5.2]
  have nb : nCl B r = (B 125 (r + 1) - B 125 r).toNat := rfl
  refine ⟨fun what => ?_, fun k => ?_⟩
  · unfold tol
    rw [en, e5.1]
    exact lastK_cong fun i hi => g _ (by omega)
  · unfold stk
    rw [en, e5.1]
    refine anyB_cong fun i hi => ?_
    have := g (B 125 r + i) (by omega)
    show decide _ = decide _
    rw [this.1, this.2]
theorem hold_c {B B' : Mm_} (h14 : B' 112 14 = B 112 14) (h124 : B' 124 = B 124) (ht : ∀ r, 0 ≤ r ∧ r < B 112 14 → (∀ what, tol B' r what = tol B r what) ∧ ∀ k, stk B' r k = stk B r k) : hold B' = hold B := by
  funext what day
  unfold hold
  congr 1
  funext v
  apply propext
  unfold IsH
  have c1 : ∀ C, CT B' day C ↔ CT B day C := fun C => by
    unfold CT
    rw [h14, h124]
    constructor
    · intro h k hk
      rw [h k hk]
      constructor
      · rintro ⟨a, b⟩
        exact ⟨a, fun j j1 j2 j3 => by rw [← (ht j (by omega)).2]; exact b j j1 j2 j3⟩
      · rintro ⟨a, b⟩
        exact ⟨a, fun j j1 j2 j3 => by rw [(ht j (by omega)).2]; exact b j j1 j2 j3⟩
    · intro h k hk
      rw [h k hk]
      constructor
      · rintro ⟨a, b⟩
        exact ⟨a, fun j j1 j2 j3 => by rw [(ht j (by omega)).2]; exact b j j1 j2 j3⟩
      · rintro ⟨a, b⟩
        exact ⟨a, fun j j1 j2 j3 => by rw [← (ht j (by omega)).2]; exact b j j1 j2 j3⟩
  have c2 : ∀ C, HV B' C what v ↔ HV B C what v := fun C => by
    unfold HV
    rw [h14, h124]
    constructor
    · rintro (⟨r, a1, a2, a3, a4, a5⟩ | ⟨a1, a2⟩)
      · rw [(ht r a1).1] at a3 a4
        exact Or.inl ⟨r, a1, a2, a3, a4, fun q q1 q2 q3 => a5 q q1 q2 (by rw [(ht q q1).1]; exact q3)⟩
      · exact Or.inr ⟨fun q q1 q2 => by rw [← (ht q q1).1]; exact a1 q q1 q2, a2⟩
    · rintro (⟨r, a1, a2, a3, a4, a5⟩ | ⟨a1, a2⟩)
      · rw [← (ht r a1).1] at a3 a4
        exact Or.inl ⟨r, a1, a2, a3, a4, fun q q1 q2 q3 => a5 q q1 q2 (by rw [← (ht q q1).1]; exact q3)⟩
      · exact Or.inr ⟨fun q q1 q2 => by rw [(ht q q1).1]; exact a1 q q1 q2, a2⟩
  constructor
  · rintro ⟨C, a, b⟩
    exact ⟨C, (c1 C).mp a, (c2 C).mp b⟩
  · rintro ⟨C, a, b⟩
    exact ⟨C, (c1 C).mpr a, (c2 C).mpr b⟩
section CH
variable {B B' M : Mm_}
theorem lws_c (e : ∀ c, c ≠ 126 → c ≠ 127 → B' c = B c) (hh : hold B' = hold B) : lws B' = lws B := by
  funext x what
  unfold lws
  rw [hh, e 114 (by decide) (by decide)]
theorem isR_c (e : ∀ c, c ≠ 126 → c ≠ 127 → B' c = B c) : isR B' = isR B := by
  funext Lw x i y j n
  unfold isR slp rar lkB
  rw [e 115 (by decide) (by decide), e 116 (by decide) (by decide), e 118 (by decide) (by decide), e 119 (by decide) (by decide)]
theorem rnB_c (e : ∀ c, c ≠ 126 → c ≠ 127 → B' c = B c) (hh : hold B' = hold B) : rnB B' = rnB B := by
  funext x i y n
  unfold rnB
  rw [isR_c e, lws_c e hh]
theorem alS_c (e : ∀ c, c ≠ 126 → c ≠ 127 → B' c = B c) (hh : hold B' = hold B) : alS B' = alS B := by
  funext x y
  unfold alS srcB
  rw [hh, e 112 (by decide) (by decide), e 114 (by decide) (by decide)]
theorem exZ_c (e : ∀ c, c ≠ 126 → c ≠ 127 → B' c = B c) (hh : hold B' = hold B) : exZ B' = exZ B := by
  funext x S i
  unfold exZ exF opn
  rw [rnB_c e hh, lws_c e hh, e 115 (by decide) (by decide)]
theorem wY_c (e : ∀ c, c ≠ 126 → c ≠ 127 → B' c = B c) (hh : hold B' = hold B) : wY B' = wY B := by
  funext x q
  unfold wY wS frY
  rw [exZ_c e hh, alS_c e hh, rnB_c e hh]
theorem wJ_c (e : ∀ c, c ≠ 126 → c ≠ 127 → B' c = B c) (hh : hold B' = hold B) : wJ B' = wJ B := by
  funext x q
  unfold wJ wS frJ
  rw [exZ_c e hh, alS_c e hh, wY_c e hh, isR_c e, lws_c e hh]
theorem Ca_h (e : ∀ c, c ≠ 126 → c ≠ 127 → B' c = B c) (hh : hold B' = hold B) (h : Ca B M) : Ca B' M := by
  unfold Ca Lk rar at *
  rw [wY_c e hh, wJ_c e hh, alS_c e hh, rnB_c e hh, lws_c e hh, e 112 (by decide) (by decide), e 115 (by decide) (by decide), e 24 (by decide) (by decide), e 116 (by decide) (by decide), e 119 (by decide) (by decide)]
  exact h
theorem WfR_f (e : ∀ c, c ≠ 126 → c ≠ 127 → B' c = B c) (h : WfR B) (g : ∀ j, 0 ≤ j ∧ j < B 112 17 → B' 126 j = B 126 j ∧ B' 127 j = B 127 j) : WfR B' ∧ hold B' = hold B := by
  have e14 : B' 112 = B 112 := e 112 (by decide) (by decide)
  have e125 : B' 125 = B 125 := e 125 (by decide) (by decide)
  have ht : ∀ r, 0 ≤ r ∧ r < B 112 14 → (∀ what, tol B' r what = tol B r what) ∧ ∀ k, stk B' r k = stk B r k := fun r hr => rule_c h hr ⟨by rw [e125], by rw [e125]⟩ g
  refine ⟨⟨?_, ?_, ?_, ?_⟩, hold_c (by rw [e14]) (e 124 (by decide) (by decide)) ht⟩
  · rw [e14, e125, e 35 (by decide) (by decide)]
    exact h.1
  · rw [e14]
    intro r hr
    obtain ⟨a1, a2, a3, a4, a5⟩ := h.2.1 r hr
    obtain ⟨t1, t2⟩ := ht r hr
    refine ⟨by rw [e 124 (by decide) (by decide), e 36 (by decide) (by decide)]; exact a1, by rw [e125]; exact a2, ?_, fun what hw => ?_, fun k hk => ?_⟩
    · rw [e 37 (by decide) (by decide), a3]
      congr 2
      funext k
      exact (t2 k).symm
    · rw [e (39 + r) (by have := h.1; omega) (by have := h.1; omega), t1]
      exact a4 what hw
    · rw [t2]
      exact a5 k hk
  · rw [e14, e125]
    exact h.2.2.1
  · rw [e14]
    intro c hc
    rw [(g c hc).1, (g c hc).2]
    exact h.2.2.2 c hc
theorem WfR_add {R base day : Int} {c : Nat} {ck cn : Int → Int} (h : WfR B) (hR : B 112 14 = R ∧ R < 8) (hb : B 112 17 = base) (hc : c ≤ 8) (hd : 0 ≤ day ∧ day ≤ 999) (f14 : B' 112 14 = R + 1) (f17 : B' 112 17 = base + c) (f35 : B' 35 3 = R + 1) (f124 : ∀ r, 0 ≤ r ∧ r < R → B' 124 r = B 124 r ∧ B' 36 r = B 36 r ∧ B' 37 r = B 37 r ∧ ∀ what, 0 ≤ what ∧ what < 7 → B' (39 + r) what = B (39 + r) what) (n124 : B' 124 R = day ∧ B' 36 R = day) (f125 : ∀ r, 0 ≤ r ∧ r ≤ R → B' 125 r = B 125 r) (n125 : B' 125 (R + 1) = base + c) (n37 : B' 37 R = (mset (fun k => anyB (fun i => decide (ck i = 7 ∧ cn i = k)) c) 8 : Int)) (n39 : ∀ what, 0 ≤ what ∧ what < 7 → B' (39 + R) what = lastK ck cn what 0 c) (g : ∀ j, 0 ≤ j ∧ j < base → B' 126 j = B 126 j ∧ B' 127 j = B 127 j) (gn : ∀ i : Nat, i < c → B' 126 (base + i) = ck i ∧ B' 127 (base + i) = cn i) (v : ∀ i : Nat, i < c → (0 ≤ ck i ∧ ck i ≤ 7) ∧ (lowK (ck i) ≤ cn i ∧ cn i ≤ higK (ck i) ∧ (ck i = 7 → cn i < R))) : WfR B' := by
  have h1 := h.1
  rw [hR.1] at h1
  have b0 := h.2.2.1 R (by omega)
  have eb : B 125 R = base := by rw [← hb]; exact h1.2.2.2
  have sk : ∀ k, stk B' R k = anyB (fun i => decide (ck i = 7 ∧ cn i = k)) c := fun k => by
    unfold stk nCl
    rw [n125, f125 R (by omega), eb, show (base + (c : Int) - base).toNat = c by omega]
    refine anyB_cong fun i hi => ?_
    show decide _ = decide _
    rw [(gn i hi).1, (gn i hi).2]
  refine ⟨by rw [f14, f17, f35, n125]; omega, ?_, ?_, ?_⟩
  · rw [f14]
    intro r hr
    by_cases c1 : r = R
    · subst c1
      refine ⟨by rw [n124.1, n124.2]; omega, by rw [n125, f125 r (by omega), eb]; omega, ?_, fun what hw => ?_, fun k hk => ?_⟩
      · rw [n37]
        congr 2
        funext k
        exact (sk k).symm
      · rw [n39 what hw]
        unfold tol nCl
        rw [n125, f125 r (by omega), eb, show (base + (c : Int) - base).toNat = c by omega]
        exact (lastK_cong fun i hi => by rw [Int.zero_add]; exact gn i hi).symm
      · rw [sk, Bool.eq_false_iff]
        intro q
        obtain ⟨i, i1, i2⟩ := (anyB_iff _ _).mp q
        have i3 := of_decide_eq_true i2
        have := (v i i1).2.2.2 i3.1
        omega
    · obtain ⟨a1, a2, a3, a4, a5⟩ := h.2.1 r (by omega)
      obtain ⟨t1, t2⟩ := rule_c (B' := B') h (r := r) (by omega) ⟨f125 r (by omega), f125 (r + 1) (by omega)⟩ (by rw [hb]; exact g)
      obtain ⟨p1, p2, p3, p4⟩ := f124 r (by omega)
      refine ⟨by rw [p1, p2]; exact a1, by rw [f125 r (by omega), f125 (r + 1) (by omega)]; exact a2, ?_, fun what hw => ?_, fun k hk => ?_⟩
      · rw [p3, a3]
        congr 2
        funext k
        exact (t2 k).symm
      · rw [p4 what hw, t1]
        exact a4 what hw
      · rw [t2]
        exact a5 k hk
  · rw [f14]
    intro r hr
    by_cases c1 : r = R + 1
    · rw [c1, n125]
      omega
    · rw [f125 r (by omega)]
      exact h.2.2.1 r (by omega)
  · rw [f17]
    intro j hj
    by_cases c1 : j < base
    · rw [(g j (by omega)).1, (g j (by omega)).2]
      exact h.2.2.2 j (by omega)
    · obtain ⟨i, hi⟩ := Int.eq_ofNat_of_zero_le (show 0 ≤ j - base by omega)
      have := gn i (by omega)
      rw [← hi, show base + (j - base) = j by omega] at this
      rw [this.1, this.2]
      have w := v i (by omega)
      rw [← hi] at w
      exact ⟨w.1, w.2.1, w.2.2.1⟩
end CH
