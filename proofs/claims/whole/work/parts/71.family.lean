/-! family -/
def edg (B : Mm_) (r : Int) (u : Nat) (p q : Int) : Prop := (0 ≤ p ∧ p < B 112 0) ∧ (0 ≤ q ∧ q < B 112 0) ∧ p ≠ q ∧ ¬ (100 * cmN B p q r < u * WW B p q r)
theorem edg_sym {B : Mm_} {r : Int} {u : Nat} {p q : Int} (h : edg B r u p q) : edg B r u q p := by
  obtain ⟨h1, h2, h3, h4⟩ := h
  refine ⟨h2, h1, h3.symm, ?_⟩
  rw [cm_sym B q p, WW_sym B q p]
  exact h4
def Con (E : Int → Int → Prop) (a b : Int) : Prop := ∀ S : Int → Prop, S a → (∀ p q, S p → E p q → S q) → S b
theorem Con.refl (E : Int → Int → Prop) (a : Int) : Con E a a := fun _ h _ => h
theorem Con.trans {E : Int → Int → Prop} {a b c : Int} (h : Con E a b) (g : Con E b c) : Con E a c := fun S s0 s1 => g S (h S s0 s1) s1
theorem Con.step {E : Int → Int → Prop} {a b c : Int} (h : Con E a b) (g : E b c) : Con E a c := fun S s0 s1 => s1 b c (h S s0 s1) g
theorem Con.symm {E : Int → Int → Prop} (hE : ∀ p q, E p q → E q p) {a b : Int} (h : Con E a b) : Con E b a := h (fun q => Con E q a) (Con.refl _ _) fun p q s e => ((Con.refl E q).step (hE p q e)).trans s
def Lst (E : Int → Int → Prop) (x r : Int) : Prop := Con E x r ∧ ∀ c, Con E x c → r ≤ c
theorem Lst.uniq {E : Int → Int → Prop} {x r s : Int} (h : Lst E x r) (g : Lst E x s) : r = s := Int.le_antisymm (h.2 s g.1) (g.2 r h.1)
/-- the class's families -/
def FaA (B M : Mm_) (E : Int → Int → Prop) : Prop := ∀ a, 0 ≤ a ∧ a < B 112 0 → (0 ≤ M 106 a ∧ M 106 a ≤ a) ∧ Con E a (M 106 a)
def FaB (M : Mm_) (E : Int → Int → Prop) (y z : Int) : Prop := ∀ p q, E p q → q < p → (p < y ∨ p = y ∧ q < z) → M 106 p = M 106 q
section FA
variable {P : Jg_} {L : Nat} {xs : Nat → Int32} {B : Mm_}
theorem s_join (hP : Clo P) {Q : Qp_} {M : Mm_} {f g : Int} (hn : M 1 1 = B 112 0) (h10 : 0 ≤ B 112 0 ∧ B 112 0 ≤ 10) (k : ∀ M', Fr 106 106 M M' → (∀ a : Int, 0 ≤ a ∧ a < B 112 0 → M' 106 a = if M 106 a = maxI f g then minI f g else M 106 a) → Q none WF M') : P 198 0 [some (2, 93), some (0, f), some (0, g), none, none, none] [] WF M (0, 0) Q := by
  refine t_RowTable_joinFamilies_0 hP ?_
  refine lpN (n := (B 112 0).toNat) (f := fun t : Nat => ∀ M', Fr 106 106 M M' → (∀ a : Int, M' 106 a = if (0 ≤ a ∧ a < t) ∧ M 106 a = maxI f g then minI f g else M 106 a) → P 198 10 [some (2, 93), none, none, some (0, minI f g), some (0, maxI f g), some (0, (t : Int))] [] WF M' (0, 0) Q) ?_ ?_ 0 (Nat.zero_le _) M (Fr.refl _ _ _) (fun a => by rw [if_neg (by omega)])
  · intro M' F' h
    have e : M' 1 1 = B 112 0 := by rw [F' 1 (by omega)]; exact hn
    refine t_RowTable_joinFamilies_10 hP (fun _ => k M' F' fun a ha => ?_) (fun q => by omega) (fun q => by omega)
    rw [h]
    by_cases c : M 106 a = maxI f g
    · rw [if_pos c, if_pos ⟨by omega, c⟩]
    · rw [if_neg c, if_neg fun d => c d.2]
  · intro t ht ih M' F' h
    have e : M' 1 1 = B 112 0 := by rw [F' 1 (by omega)]; exact hn
    have et : M' 106 t = M 106 t := by rw [h, if_neg (by omega)]
    refine t_RowTable_joinFamilies_10 hP (fun q => by omega) (fun _ q => ih M' F' fun a => ?_) (fun _ q => ih _ F'.u fun a => ?_)
    · rw [et] at q
      rw [h]
      by_cases c : a = t
      · rw [c, if_neg (by omega), if_neg fun d => q d.2]
      · by_cases d : (0 ≤ a ∧ a < (t : Int)) ∧ M 106 a = maxI f g
        · rw [if_pos d, if_pos ⟨by omega, d.2⟩]
        · rw [if_neg d, if_neg fun d2 => d ⟨by omega, d2.2⟩]
    · rw [et] at q
      by_cases c : a = t
      · rw [c, upd_s, if_pos ⟨by omega, q⟩]
      · rw [upd_i c, h]
        by_cases d : (0 ≤ a ∧ a < (t : Int)) ∧ M 106 a = maxI f g
        · rw [if_pos d, if_pos ⟨by omega, d.2⟩]
        · rw [if_neg d, if_neg fun d2 => d ⟨by omega, d2.2⟩]
theorem s_famC (hP : Clo P) {Q : Qp_} {M : Mm_} {x r : Int} {u : Nat} (hS : Sc B M) (hT : WfT B) (hx : 0 ≤ x ∧ x < B 112 0) (hr : 1 ≤ r ∧ r ≤ 5) (hu : u ≤ 100) (k : ∀ M' v, Fr 93 111 M M' → Lst (edg B r u) x v → Q (some (0, v)) WF M') : P 199 0 [some (2, 93), some (0, x), some (0, r), some (0, (u : Int)), none, none] [] WF M (0, 0) Q := by
  obtain ⟨u0, u1, u2⟩ := rdT hS hT
  refine t_RowTable_familyOf_0 hP (s_fillAll hP hS hT hr fun M1 F1 f1 => t_RowTable_familyOf_3 hP ?_)
  refine lpN (n := (B 112 0).toNat) (f := fun y : Nat => ∀ M', Fr 93 111 M M' → FLA B M' r → (∀ a : Int, 0 ≤ a ∧ a < y → M' 106 a = a) → P 199 5 [some (2, 93), some (0, x), none, some (0, (u : Int)), some (0, (y : Int)), none] [] WF M' (0, 0) Q) ?_ ?_ 0 (Nat.zero_le _) M1 F1 f1 (fun a ha => by omega)
  · intro M2 F2 f2 h2
    have e : M2 1 1 = B 112 0 := by rw [F2 1 (by omega)]; exact u2
    refine t_RowTable_familyOf_5 hP (fun _ => ?_) (fun q => by omega)
    have a0 : FaA B M2 (edg B r u) := fun a ha => by
      rw [h2 a (by omega)]
      exact ⟨by omega, Con.refl _ _⟩
    have b0 : FaB M2 (edg B r u) 0 0 := fun p q h _ c => by
      have := h.1
      have := h.2.1
      omega
    clear h2
    refine lpN (n := (B 112 0).toNat) (f := fun y : Nat => ∀ M', Fr 93 111 M M' → FLA B M' r → FaA B M' (edg B r u) → FaB M' (edg B r u) y 0 → P 199 19 [some (2, 93), some (0, x), none, some (0, (u : Int)), some (0, (y : Int)), none] [] WF M' (0, 0) Q) ?_ ?_ 0 (Nat.zero_le _) M2 F2 f2 a0 b0
    · intro M3 F3 f3 a3 b3
      have e : M3 1 1 = B 112 0 := by rw [F3 1 (by omega)]; exact u2
      refine t_RowTable_familyOf_19 hP (fun _ => k M3 _ F3 ⟨(a3 x hx).2, fun c hc => ?_⟩) (fun q => by omega)
      have := hc (fun q => (0 ≤ q ∧ q < B 112 0) ∧ M3 106 q = M3 106 x) ⟨hx, rfl⟩ fun p q hp he => by
        refine ⟨he.2.1, ?_⟩
        rw [← hp.2]
        have ne := he.2.2.1
        have p1 := he.1
        have q1 := he.2.1
        by_cases lt : q < p
        · exact (b3 p q he lt (by omega)).symm
        · exact b3 q p (edg_sym he) (by omega) (by omega)
      have ac := (a3 c this.1).1.2
      omega
    · intro y hy ih M3 F3 f3 a3 b3
      have e : M3 1 1 = B 112 0 := by rw [F3 1 (by omega)]; exact u2
      refine t_RowTable_familyOf_19 hP (fun q => by omega) (fun _ => ?_)
      refine lpN (n := y) (f := fun z : Nat => ∀ M', Fr 93 111 M M' → FLA B M' r → FaA B M' (edg B r u) → FaB M' (edg B r u) y z → P 199 26 [some (2, 93), some (0, x), none, some (0, (u : Int)), some (0, (y : Int)), some (0, (z : Int))] [] WF M' (0, 0) Q) ?_ ?_ 0 (Nat.zero_le _) M3 F3 f3 a3 b3
      · intro M4 F4 f4 a4 b4
        refine t_RowTable_familyOf_26 hP (fun _ => ih M4 F4 f4 a4 fun p q he lt c => b4 p q he lt ?_) (fun q => by omega)
        have := he.2.1
        omega
      · intro z hz ihz M4 F4 f4 a4 b4
        refine t_RowTable_familyOf_26 hP (fun q => by omega) (fun _ => ?_)
        refine s_comp hP hT (by omega) (by omega) hr (f4 y (by omega)) (f4 z (by omega)) fun M5 F5 e4 e5 => ?_
        have G5 : Fr 93 111 M M5 := F4.trans fun c hc => F5 c (by omega)
        have f5 : FLA B M5 r := FLA_c hT f4 fun c hc => F5 c (by omega)
        have m5 : M5 106 = M4 106 := F5 106 (by decide)
        have e1 : M5 1 1 = B 112 0 := by rw [G5 1 (by omega)]; exact u2
        have bd := fr_bd hT (x := y) (y := z) (by omega) (by omega) hr
        have fam := fr_fam B y z r u
        refine t_RowTable_familyOf_33 hP (fun q => ?_) (fun q => ?_) (s1 := by rw [e4]; exact mul_bd bd.2.2.1 (by decide : 100 ≤ 120)) (s2 := by rw [e5]; exact mul_bd (by omega) bd.2.2.2)
        · rw [e4, e5] at q
          have q1 : upp B y z r * 100 < u * lowr B y z r := by exact_mod_cast q
          refine t_RowTable_familyOf_52 hP (ihz M5 G5 f5 ?_ ?_)
          · unfold FaA
            rw [m5]
            exact a4
          · intro p q' he lt c
            rw [m5]
            by_cases d : p = y ∧ q' = z
            · obtain ⟨rfl, rfl⟩ := d
              exact absurd (fam.mp q1) he.2.2.2
            · exact b4 p q' he lt (by omega)
        · rw [e4, e5] at q
          have q1 : ¬ upp B y z r * 100 < u * lowr B y z r := by exact_mod_cast q
          have E : edg B r u y z := ⟨by omega, by omega, by omega, fun c => q1 (fam.mpr c)⟩
          refine s_join hP e1 u0 fun M6 F6 h6 => t_RowTable_familyOf_52 hP ?_
          rw [m5] at h6
          have ay := a4 y (by omega)
          have az := a4 z (by omega)
          have f6 : FLA B M6 r := FLA_c hT f5 fun c hc => F6 c (by omega)
          have sy : Con (edg B r u) (M4 106 y) (M4 106 z) := ((ay.2.symm fun _ _ => edg_sym).step E).trans az.2
          have cc : Con (edg B r u) (maxI (M4 106 y) (M4 106 z)) (minI (M4 106 y) (M4 106 z)) := by
            unfold maxI minI
            by_cases c : M4 106 y < M4 106 z
            · rw [if_pos c, if_neg (by omega)]
              exact sy.symm fun _ _ => edg_sym
            · rw [if_neg c]
              by_cases d : M4 106 z < M4 106 y
              · rw [if_pos d]
                exact sy
              · rw [if_neg d]
                exact Con.refl _ _
          have mm : minI (M4 106 y) (M4 106 z) ≤ maxI (M4 106 y) (M4 106 z) ∧ 0 ≤ minI (M4 106 y) (M4 106 z) := by
            unfold maxI minI
            split <;> split <;> omega
          refine ihz M6 (G5.trans F6.mono) f6 (fun a ha => ?_) (fun p q' he lt c => ?_)
          · have aa := a4 a ha
            rw [h6 a ha]
            by_cases c : M4 106 a = maxI (M4 106 y) (M4 106 z)
            · rw [if_pos c]
              refine ⟨by omega, ?_⟩
              have := aa.2
              rw [c] at this
              exact this.trans cc
            · rw [if_neg c]
              exact aa
          · rw [h6 p he.1, h6 q' he.2.1]
            by_cases d : p = y ∧ q' = z
            · obtain ⟨rfl, rfl⟩ := d
              unfold maxI minI
              (repeat' split) <;> omega
            · rw [b4 p q' he lt (by omega)]
  · intro y hy ih M2 F2 f2 h2
    have e : M2 1 1 = B 112 0 := by rw [F2 1 (by omega)]; exact u2
    refine t_RowTable_familyOf_5 hP (fun q => by omega) (fun _ => ih _ F2.u (FLA_c hT f2 fun c hc => upd_r (by omega) _ _) fun a ha => ?_)
    by_cases c : a = y
    · rw [c, upd_s]
    · rw [upd_i c]
      exact h2 a (by omega)
noncomputable def edB (B : Mm_) (r : Int) (u : Nat) (p q : Int) : Bool := @decide (edg B r u p q) (Classical.propDecidable _)
theorem edB_iff {r : Int} {u : Nat} {p q : Int} : edB B r u p q = true ↔ edg B r u p q := @decide_eq_true_iff _ (Classical.propDecidable _)
theorem s_closM (hP : Clo P) {Q : Qp_} {M : Mm_} {x r : Int} {u n : Nat} (hn : M 112 0 = n ∧ B 112 0 = n) (h10 : n ≤ 10) (hx : 0 ≤ x ∧ x < n) (hm : ∀ a : Nat, a < n → M 136 a = (mset (edB B r u a) n : Int)) (k : ∀ v, Lst (edg B r u) x v → Q (some (0, v)) WF M) : ∀ d S : Nat, 1024 - S ≤ d → S < 1024 → S.testBit x.toNat = true → (∀ j : Nat, S.testBit j = true → j < n ∧ Con (edg B r u) x j) → P 201 83 [some (2, 112), none, none, none, some (0, (S : Int)), some (0, (S : Int)), some (0, 0)] [] WF M (0, 0) Q := by
  intro d
  induction d with
  | zero => intro S h1 h2; omega
  | succ d ihd =>
    intro S h1 h2 h3 h4
    refine lpN (n := n) (f := fun t : Nat => ∀ S' : Nat, S' < 1024 → (∀ j : Nat, S.testBit j = true → S'.testBit j = true) → (∀ j : Nat, S'.testBit j = true → j < n ∧ Con (edg B r u) x j) → (∀ p q : Nat, p < t → S.testBit p = true → edg B r u p q → S'.testBit q = true) → P 201 83 [some (2, 112), none, none, none, some (0, (S' : Int)), some (0, (S : Int)), some (0, (t : Int))] [] WF M (0, 0) Q) ?_ ?_ 0 (Nat.zero_le _) S h2 (fun _ h => h) h4 (fun p q hp => by omega)
    · intro S' g1 g2 g3 g4
      refine t_Mo_family_83 hP (fun _ => ?_) (fun q => by omega) (fun q => by omega)
      have tx : S'.testBit x.toNat = true := g2 _ h3
      refine t_Mo_family_76 hP (fun q => ?_) (fun q => ?_)
      · have e : S' = S := by omega
        subst e
        have closed : ∀ c, Con (edg B r u) x c → 0 ≤ c ∧ S'.testBit c.toNat = true := fun c hc => by
          refine hc (fun q => 0 ≤ q ∧ S'.testBit q.toNat = true) ⟨hx.1, tx⟩ fun p q hp he => ?_
          have p1 := he.1
          have q1 := he.2.1
          refine ⟨q1.1, g4 p.toNat q.toNat (by omega) hp.2 ?_⟩
          rw [Int.toNat_of_nonneg p1.1, Int.toNat_of_nonneg q1.1]
          exact he
        have fin : ∀ t : Nat, t ≤ x.toNat → (∀ j : Nat, j < t → S'.testBit j = false) → S'.testBit t = true → Q (some (0, (t : Int))) WF M := fun t _ lo hi => k t ⟨(g3 t hi).2, fun c hc => by
          obtain ⟨c0, c1⟩ := closed c hc
          apply Classical.byContradiction
          intro lt
          rw [lo c.toNat (by omega)] at c1
          cases c1⟩
        refine lpN (n := x.toNat) (f := fun t : Nat => (∀ j : Nat, j < t → S'.testBit j = false) → P 201 108 [none, none, none, none, some (0, (S' : Int)), none, some (0, (t : Int))] [] WF M (0, 0) Q) ?_ ?_ 0 (Nat.zero_le _) (fun j hj => by omega)
        · intro lo
          refine t_Mo_family_108 hP (fun _ => fin _ (Nat.le_refl _) lo tx) (fun q => ?_)
          rw [tbIs (by omega) (by omega), if_pos tx] at q
          exact absurd q (by decide)
        · intro t ht iht lo
          have tb := tbIs (a := S') (k := t) (by omega) (by omega)
          refine t_Mo_family_108 hP (fun q => ?_) (fun q => iht fun j hj => ?_)
          · refine fin t (by omega) lo ?_
            apply Classical.byContradiction
            intro c
            rw [tb, if_neg c] at q
            exact q rfl
          · by_cases e : j = t
            · rw [e, Bool.eq_false_iff]
              intro c
              rw [tb, if_pos c] at q
              exact absurd q (by decide)
            · exact lo j (by omega)
      · have le : S ≤ S' := by
          have : S ||| S' = S' := by
            apply Nat.eq_of_testBit_eq
            intro j
            rw [Nat.testBit_or]
            cases c : S.testBit j with
            | false => rfl
            | true => rw [g2 j c]; rfl
          rw [← this]
          exact Nat.left_le_or
        exact ihd S' (by omega) g1 tx g3
    · intro t ht iht S' g1 g2 g3 g4
      have tb := tbIs (a := S) (k := t) (by omega) (by omega)
      have ml : mset (edB B r u t) n < 2 ^ 10 := mset_le _ h10
      refine t_Mo_family_83 hP (fun q => by omega) (fun _ q => ?_) (fun _ q => ?_)
      · rw [orI_0 (by omega)]
        refine iht S' g1 g2 g3 fun p q' hp hb he => ?_
        by_cases e : p = t
        · subst e
          rw [tb, if_pos hb] at q
          exact absurd rfl q
        · exact g4 p q' (by omega) hb he
      · have hb : S.testBit t = true := by
          apply Classical.byContradiction
          intro c
          rw [tb, if_neg c] at q
          exact absurd q (by decide)
        rw [hm t ht, orI_n (by omega) (by omega)]
        refine iht _ (Nat.or_lt_two_pow (n := 10) g1 ml) (fun j hj => ?_) (fun j hj => ?_) (fun p q' hp hb' he => ?_)
        · rw [Nat.testBit_or, g2 j hj]
          rfl
        · rw [Nat.testBit_or, Bool.or_eq_true] at hj
          rcases hj with hj | hj
          · exact g3 j hj
          · rw [mset_tb, Bool.and_eq_true, edB_iff] at hj
            exact ⟨of_decide_eq_true hj.1, (h4 t hb).2.step hj.2⟩
        · rw [Nat.testBit_or, Bool.or_eq_true]
          by_cases e : p = t
          · right
            subst e
            have := he.2.1
            rw [mset_tb, decide_eq_true (show q' < n by omega), edB_iff.mpr he]
            rfl
          · left
            exact g4 p q' (by omega) hb' he
theorem s_famM (hP : Clo P) {Q : Qp_} {M A : Mm_} {x r : Int} {u : Nat} (hI : IV L xs A B M) (hx : 0 ≤ x ∧ x < B 112 0) (hr : 1 ≤ r ∧ r ≤ 5) (hu : u ≤ 100) (k : ∀ M' v, IV L xs A B M' → Lst (edg B r u) x v → Q (some (0, v)) WF M') : P 201 22 [some (2, 112), some (0, x), some (0, r), some (0, (u : Int)), some (0, 0), none, none] [] WF M (0, 0) Q := by
  have hT := hI.2.1.2.1
  obtain ⟨u0, u1, u2⟩ := rdT hI.1 hT
  obtain ⟨n, hn⟩ := Int.eq_ofNat_of_zero_le u0.1
  refine lpN (n := n) (f := fun a : Nat => ∀ M', IV L xs A B M' → (∀ z : Nat, z < a → M' 136 z = (mset (edB B r u z) n : Int)) → P 201 22 [some (2, 112), some (0, x), some (0, r), some (0, (u : Int)), some (0, (a : Int)), none, none] [] WF M' (0, 0) Q) ?_ ?_ 0 (Nat.zero_le _) M hI (fun z hz => by omega)
  · intro M' I' h
    have e := (rdT I'.1 hT).2.1
    refine t_Mo_family_22 hP (fun _ => ?_) (fun q => by omega)
    obtain ⟨x, rfl⟩ := Int.eq_ofNat_of_zero_le hx.1
    have sh : shlI 1 (x : Int) = ((2 ^ x : Nat) : Int) := by
      have p10 : 2 ^ x ≤ 2 ^ 9 := Nat.pow_le_pow_right (by decide) (by omega)
      have := shlI_n (a := 1) (k := x) (by omega) (by omega)
      rw [Nat.one_mul] at this
      exact this
    have p10 : 2 ^ x ≤ 2 ^ 9 := Nat.pow_le_pow_right (by decide) (by omega)
    have pp : 0 < 2 ^ x := Nat.two_pow_pos x
    rw [sh]
    refine t_Mo_family_76 hP (fun q => by omega) (fun _ => ?_)
    refine s_closM hP (n := n) (by omega) (by omega) (by omega) h (fun v hv => k M' v I' hv) 1024 (2 ^ x) (by omega) (by omega) (by rw [Int.toNat_natCast, Nat.testBit_two_pow_self]) fun j hj => ?_
    rw [Nat.testBit_two_pow, decide_eq_true_iff] at hj
    subst hj
    exact ⟨by omega, Con.refl _ _⟩
  · intro a ha ih M' I' h
    have e := (rdT I'.1 hT).2.1
    refine t_Mo_family_22 hP (fun q => by omega) (fun _ => ?_)
    refine lpN (n := n) (f := fun b : Nat => ∀ M', IV L xs A B M' → (∀ z : Nat, z < a → M' 136 z = (mset (edB B r u z) n : Int)) → M' 136 a = (mset (edB B r u a) b : Int) → P 201 33 [some (2, 112), some (0, x), some (0, r), some (0, (u : Int)), some (0, (a : Int)), some (0, (b : Int)), none] [] WF M' (0, 0) Q) ?_ ?_ 0 (Nat.zero_le _) _ (I'.fr (lo := 136) (hi := 136) Fr.u0) (fun z hz => by rw [upd_i (by omega)]; exact h z hz) (upd_s _ _ _ _)
    · intro M2 I2 h2 e2
      have e := (rdT I2.1 hT).2.1
      refine t_Mo_family_33 hP (fun _ => ih M2 I2 fun z hz => ?_) (fun q => by omega)
      by_cases c : z = a
      · rw [c]
        exact e2
      · exact h2 z (by omega)
    · intro b hb ihb M2 I2 h2 e2
      have e := (rdT I2.1 hT).2.1
      refine t_Mo_family_33 hP (fun q => by omega) (fun _ => ?_)
      refine s_liken hP I2 (by omega) (by omega) hr fun M3 I3 F3 c4 c5 => ?_
      have bd := fr_bd hT (x := a) (y := b) (by omega) (by omega) hr
      have m3 : M3 136 = M2 136 := F3 136 (by decide)
      have ml : mset (edB B r u a) b < 2147483648 := mset_le _ (n := 31) (by omega)
      have go : ∀ v, v = (mset (edB B r u a) (b + 1) : Int) → P 201 33 [some (2, 112), some (0, x), some (0, r), some (0, (u : Int)), some (0, (a : Int)), some (0, (b : Int) + 1), none] [] WF (updM M3 136 a v) (0, 0) Q := fun v hv => ihb _ (I3.fr (lo := 136) (hi := 136) Fr.u0) (fun z hz => by rw [upd_i (by omega), m3]; exact h2 z hz) (by rw [upd_s, hv])
      refine t_Mo_family_42 hP (fun q => go _ ?_) (fun q1 q2 => go _ ?_) (fun q1 q2 => go _ ?_) (s4 := fun _ => by rw [c4]; omega) (s5 := fun _ => by rw [c5]; exact mul_bd (by omega) bd.2.1)
      · rw [m3, e2, orI_0 ml, mset_skip (by rw [edB_iff]; exact fun h => h.2.2.1 q)]
      · rw [c4, c5] at q2
        have q3 : 100 * cmN B a b r < u * WW B a b r := by exact_mod_cast q2
        rw [m3, e2, orI_0 ml, mset_skip (by rw [edB_iff]; exact fun h => h.2.2.2 q3)]
      · rw [c4, c5] at q2
        have q3 : ¬ 100 * cmN B a b r < u * WW B a b r := by exact_mod_cast q2
        rw [m3, e2]
        exact mset_I (by omega) (edB_iff.mpr ⟨by omega, by omega, q1, q3⟩)
theorem tw_family (hP : Clo P) {x r u : Int} : Two P L xs 200 [some (2, 0), some (0, x), some (0, r), some (0, u)] 201 [some (2, 112), some (0, x), some (0, r), some (0, u), none, none, none] := by
  rintro M ⟨A, B, hI⟩
  have hI0 : INV L xs M := ⟨A, B, hI⟩
  obtain ⟨u0, u1, u2⟩ := rdT hI.1 hI.2.1.2.1
  have hT := hI.2.1.2.1
  by_cases h1 : 0 ≤ x ∧ x < B 112 0
  · by_cases h2 : (1 ≤ r ∧ r ≤ 5) ∧ (0 ≤ u ∧ u ≤ 100)
    · obtain ⟨u, rfl⟩ := Int.eq_ofNat_of_zero_le h2.2.1
      refine ⟨fun v M1 => Lst (edg B r u) x v ∧ Fr 93 111 M M1, fun Q k => ?_, fun v M1 hR => ?_⟩
      · refine t_BW_family_0 hP ?_ ?_ ?_ ?_ ?_ ?_ ?_ <;> intros <;> first | (exfalso; omega) | skip
        exact s_famC hP hI.1 hT h1 h2.1 (by omega) fun M1 v F1 hv => t_BW_family_23 hP (k _ _ ⟨hv, F1⟩)
      · obtain ⟨hv, F1⟩ := hR
        have I1 : IV L xs A B M1 := hI.fr F1
        refine ⟨I1.ro, fun Q k => ?_⟩
        obtain ⟨v0, v1, v2⟩ := rdT I1.1 hT
        refine t_Mo_family_0 hP ?_ ?_ ?_ ?_ ?_ ?_ ?_ <;> intros <;> first | (exfalso; omega) | skip
        refine s_famM hP I1 h1 h2.1 (by omega) fun M2 v' I2 hv' => ?_
        rw [hv'.uniq hv]
        exact k _ ⟨A, B, I2⟩
    · refine ⟨fun r M1 => r = -1002 ∧ M1 = M, fun Q k => ?_, fun r M1 hR => ?_⟩
      · refine t_BW_family_0 hP ?_ ?_ ?_ ?_ ?_ ?_ ?_ <;> intros <;> first | (exfalso; omega) | exact k _ _ ⟨rfl, rfl⟩ | (refine t_BW_family_15 hP ?_; exact k _ _ ⟨rfl, rfl⟩)
      · obtain ⟨rfl, rfl⟩ := hR
        refine ⟨hI0.ro, fun Q k => ?_⟩
        refine t_Mo_family_0 hP ?_ ?_ ?_ ?_ ?_ ?_ ?_ <;> intros <;> first | (exfalso; omega) | exact k _ hI0 | (refine t_Mo_family_18 hP ?_; exact k _ hI0)
  · refine ⟨fun r M1 => r = -1001 ∧ M1 = M, fun Q k => ?_, fun r M1 hR => ?_⟩
    · refine t_BW_family_0 hP ?_ ?_ ?_ ?_ ?_ ?_ ?_ <;> intros <;> first | (exfalso; omega) | exact k _ _ ⟨rfl, rfl⟩ | (refine t_BW_family_15 hP ?_; exact k _ _ ⟨rfl, rfl⟩)
    · obtain ⟨rfl, rfl⟩ := hR
      refine ⟨hI0.ro, fun Q k => ?_⟩
      refine t_Mo_family_0 hP ?_ ?_ ?_ ?_ ?_ ?_ ?_ <;> intros <;> first | (exfalso; omega) | exact k _ hI0 | (refine t_Mo_family_18 hP ?_; exact k _ hI0)
end FA
