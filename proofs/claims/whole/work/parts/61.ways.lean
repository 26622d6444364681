/-! WAYS: there is an explanation; each step leads to an older text -/
theorem BP_ex (op : Int → Bool) (T Pp : Int → Int) (i lo : Int) : ∀ d : Nat, ∃ t p z, BP op T Pp i lo (lo + d) t p z
  | 0 => ⟨_, _, _, BP_0 (by omega)⟩
  | d + 1 => by
    obtain ⟨t, p, z, h⟩ := BP_ex op T Pp i lo d
    rw [show lo + ((d + 1 : Nat) : Int) = lo + d + 1 by omega]
    by_cases g : op (lo + d) = true
    · by_cases g2 : t < lo + d + T (i + (lo + d)) ∨ lo + d + T (i + (lo + d)) = t ∧ 1 + Pp (i + (lo + d)) ≤ p
      · exact ⟨_, _, _, BP_take h (by omega) g g2⟩
      · exact ⟨_, _, _, BP_skip h (Or.inr (by omega))⟩
    · exact ⟨_, _, _, BP_skip h (Or.inl (Bool.eq_false_iff.mpr g))⟩
theorem EX_ex (op : Int → Int → Bool) {least n : Int} (hl : 1 ≤ least) (hn : 0 ≤ n) : ∃ F, EX op least n F := by
  have key : ∀ d : Nat, (d : Int) ≤ n → ∃ F, EXp op least n F (n - d) := by
    intro d
    induction d with
    | zero => exact fun _ => ⟨fun _ => (0, 0, 0), rfl, rfl, fun i hi => by omega⟩
    | succ d ih =>
      intro hd
      obtain ⟨F, hF⟩ := ih (by omega)
      obtain ⟨i, hi⟩ : ∃ i, i = n - ((d + 1 : Nat) : Int) := ⟨_, rfl⟩
      rw [← hi]
      rw [show n - (d : Int) = i + 1 by omega] at hF
      have hb : ∃ t p z, BP (op i) (fun j => (F j).1) (fun j => (F j).2.1) i least (n - i + 1) t p z := by
        by_cases e : least ≤ n - i + 1
        · have := BP_ex (op i) (fun j => (F j).1) (fun j => (F j).2.1) i least (n - i + 1 - least).toNat
          rwa [show least + ((n - i + 1 - least).toNat : Int) = n - i + 1 by omega] at this
        · exact ⟨_, _, _, BP_0 (by omega)⟩
      obtain ⟨t, p, z, hb⟩ := hb
      refine ⟨fun j => if j = i then (t, p, z) else F j, EXp_step hl hF (by omega) ?_ fun j hj => if_neg (by omega)⟩
      simp only [if_pos rfl]
      exact hb
  obtain ⟨F, hF⟩ := key n.toNat (by omega)
  rw [show n - (n.toNat : Int) = 0 by omega] at hF
  exact ⟨F, hF⟩
theorem exF_EX {B : Mm_} (hR : WfR B) {x : Int} (hx : 0 ≤ B 115 x) (S : Int → Bool) : EX (opn B x S) (lws B x 0) (B 115 x) (exF B x S) := by
  have lb := lws_bd hR x
  obtain ⟨F, hF⟩ := EX_ex (opn B x S) (least := lws B x 0) (n := B 115 x) (by omega) hx
  exact (exF_eq (by omega) hF).1
theorem cst_lt {Z : Int → Int} (q : Nat) : cst Z (cst Z q).toNat = cst Z q := by
  induction q with
  | zero => rfl
  | succ q ih =>
    rw [cst_s]
    by_cases e : (q : Int) + 1 < cst Z q + Z (cst Z q)
    · rw [if_pos e]
      exact ih
    · rw [if_neg e, show ((q : Int) + 1).toNat = q + 1 by omega, cst_s, if_neg e]
theorem cst_up {Z : Int → Int} (q : Nat) : cst Z q = q ∨ (q : Int) < cst Z q + Z (cst Z q) := by
  cases q with
  | zero => exact Or.inl rfl
  | succ q =>
    rw [cst_s]
    by_cases e : (q : Int) + 1 < cst Z q + Z (cst Z q)
    · rw [if_pos e]
      exact Or.inr e
    · rw [if_neg e]
      exact Or.inl rfl
def rkT (B : Mm_) (x : Int) : Nat := cntB (fun y => decide (B 114 y < B 114 x ∨ B 114 y = B 114 x ∧ y < x)) (B 112 0).toNat
theorem cntB_lt {p q : Int → Bool} {k : Nat} : ∀ {n : Nat}, k < n → (∀ j : Nat, j < n → p j = true → q j = true) → p k = false → q k = true → cntB p n < cntB q n
  | 0, h, _, _, _ => by omega
  | n + 1, h, g, g1, g2 => by
    by_cases e : k = n
    · rw [e] at g1 g2
      have mo : ∀ m : Nat, m ≤ n → cntB p m ≤ cntB q m := by
        intro m
        induction m with
        | zero => exact fun _ => Nat.le_refl _
        | succ m ih =>
          intro hm
          have := ih (by omega)
          by_cases hp : p m = true
          · rw [cntB_t hp, cntB_t (g m (by omega) hp)]
            omega
          · rw [cntB_f hp]
            have := cntB_mono (p := q) (show m ≤ m + 1 by omega)
            omega
      have := mo n (Nat.le_refl _)
      rw [cntB_f (by rw [g1]; decide), cntB_t g2]
      omega
    · have := cntB_lt (p := p) (q := q) (k := k) (n := n) (by omega) (fun j hj => g j (by omega)) g1 g2
      by_cases hp : p n = true
      · rw [cntB_t hp, cntB_t (g n (by omega) hp)]
        omega
      · rw [cntB_f hp]
        have := cntB_mono (p := q) (show n ≤ n + 1 by omega)
        omega
theorem rkT_lt {B : Mm_} {x y : Int} (hy : 0 ≤ y ∧ y < B 112 0) (h : B 114 y < B 114 x ∨ B 114 y = B 114 x ∧ y < x) : rkT B y < rkT B x := by
  refine cntB_lt (k := y.toNat) (by omega) (fun j hj g => ?_) ?_ ?_
  · rw [decide_eq_true_iff] at g ⊢
    omega
  · rw [decide_eq_false_iff_not, Int.toNat_of_nonneg hy.1]
    omega
  · rw [decide_eq_true_iff, Int.toNat_of_nonneg hy.1]
    exact h
theorem rkT_bd {B : Mm_} {x : Int} (hx : 0 ≤ x ∧ x < B 112 0) (hT : B 112 0 ≤ 10) : rkT B x ≤ 9 := by
  have : rkT B x < cntB (fun _ => true) (B 112 0).toNat := cntB_lt (k := x.toNat) (by omega) (fun _ _ _ => rfl) (by rw [decide_eq_false_iff_not, Int.toNat_of_nonneg hx.1]; omega) rfl
  have := cntB_le (fun _ => true) (B 112 0).toNat
  omega
/-- a step of a way: to an older text, to one of its words -/
theorem wY_ok {B : Mm_} {L : Nat} {xs : Nat → Int32} (hW : WfC L xs B) {x i : Int} (hx : 0 ≤ x ∧ x < B 112 0) (hi : 0 ≤ i ∧ i < B 115 x) : wY B x i = -1 ∨ ((0 ≤ wY B x i ∧ wY B x i < B 112 0) ∧ (0 ≤ wJ B x i ∧ wJ B x i < B 115 (wY B x i)) ∧ rkT B (wY B x i) < rkT B x) := by
  have lb := lws_bd hW.2.2.2 x
  have hT := hW.2.1.1.2.1
  have Xb := (hW.2.1.2.1 x (by omega)).1
  have hE := exF_EX hW.2.2.2 (x := x) Xb.1 (alS B x)
  obtain ⟨q, rfl⟩ := Int.eq_ofNat_of_zero_le hi.1
  unfold wJ wY wS
  rw [Int.toNat_natCast]
  obtain ⟨s, hs⟩ : ∃ s : Nat, cst (exZ B x (alS B x)) q = s := ⟨(cst (exZ B x (alS B x)) q).toNat, by have := (cst_bd (exZ B x (alS B x)) q).1; omega⟩
  have sb := cst_bd (exZ B x (alS B x)) q
  have su := cst_up (Z := exZ B x (alS B x)) q
  rw [hs] at sb su ⊢
  by_cases h : 0 < exZ B x (alS B x) s
  · obtain ⟨z1, z2, z3⟩ := exZ_st (by omega) hE (i := s) (by omega) h
    obtain ⟨f0, f1, f2, f3⟩ := frY_spec z3
    rw [Bool.and_eq_true] at f2
    obtain ⟨g0, g1, g2, g3⟩ := frJ_spec f2.2
    have yb := alS_bd f2.1
    have g4 := g2
    unfold isR at g4
    rw [decide_eq_true_iff] at g4
    rw [if_pos h]
    refine Or.inr ⟨yb, by omega, rkT_lt yb ?_⟩
    have f4 := f2.1
    unfold alS srcB at f4
    rw [decide_eq_true_iff] at f4
    exact f4.2.2.1
  · rw [if_neg h]
    exact Or.inl rfl
/-- the way: where it ends, how many steps, by which texts -/
noncomputable def wk (B : Mm_) : Nat → Int → Int → Int × Int × Int × (Int → Bool)
  | 0, x, i => (x, i, 0, fun _ => false)
  | n + 1, x, i => if wY B x i = -1 then (x, i, 0, fun _ => false) else ((wk B n (wY B x i) (wJ B x i)).1, (wk B n (wY B x i) (wJ B x i)).2.1, (wk B n (wY B x i) (wJ B x i)).2.2.1 + 1, fun y => decide (y = wY B x i) || (wk B n (wY B x i) (wJ B x i)).2.2.2 y)
theorem wk_fuel {B : Mm_} {L : Nat} {xs : Nat → Int32} (hW : WfC L xs B) : ∀ (n m : Nat) (x i : Int), 0 ≤ x ∧ x < B 112 0 → 0 ≤ i ∧ i < B 115 x → rkT B x ≤ n → rkT B x ≤ m → wk B n x i = wk B m x i := by
  intro n
  induction n with
  | zero =>
    intro m x i hx hi h1 h2
    cases m with
    | zero => rfl
    | succ m =>
      rcases wY_ok hW hx hi with g | g
      · unfold wk
        rw [if_pos g]
      · omega
  | succ n ih =>
    intro m x i hx hi h1 h2
    rcases wY_ok hW hx hi with g | g
    · cases m with
      | zero =>
        unfold wk
        rw [if_pos g]
      | succ m =>
        unfold wk
        rw [if_pos g, if_pos g]
    · cases m with
      | zero => omega
      | succ m =>
        unfold wk
        rw [if_neg (by omega), if_neg (by omega), ih m _ _ g.1 g.2.1 (by omega) (by omega)]
noncomputable def wkE (B : Mm_) (x i : Int) : Int × Int × Int × (Int → Bool) := wk B 10 x i
theorem wkE_0 {B : Mm_} {x i : Int} (h : wY B x i = -1) : wkE B x i = (x, i, 0, fun _ => false) := by
  unfold wkE wk
  rw [if_pos h]
theorem wkE_s {B : Mm_} {L : Nat} {xs : Nat → Int32} (hW : WfC L xs B) {x i : Int} (hx : 0 ≤ x ∧ x < B 112 0) (hi : 0 ≤ i ∧ i < B 115 x) (h : ¬ wY B x i = -1) : wkE B x i = ((wkE B (wY B x i) (wJ B x i)).1, (wkE B (wY B x i) (wJ B x i)).2.1, (wkE B (wY B x i) (wJ B x i)).2.2.1 + 1, fun y => decide (y = wY B x i) || (wkE B (wY B x i) (wJ B x i)).2.2.2 y) := by
  have g := (wY_ok hW hx hi).resolve_left h
  have r := rkT_bd hx hW.2.1.1.2.1
  unfold wkE
  rw [show wk B 10 x i = if wY B x i = -1 then (x, i, 0, fun _ => false) else ((wk B 9 (wY B x i) (wJ B x i)).1, (wk B 9 (wY B x i) (wJ B x i)).2.1, (wk B 9 (wY B x i) (wJ B x i)).2.2.1 + 1, fun y => decide (y = wY B x i) || (wk B 9 (wY B x i) (wJ B x i)).2.2.2 y) from rfl, if_neg h, wk_fuel hW 9 10 _ _ g.1 g.2.1 (by omega) (by omega)]
section WY
variable {P : Jg_} {L : Nat} {xs : Nat → Int32} {A B : Mm_}
theorem IV.w {M M' : Mm_} (h : IV L xs A B M) (h5 : M 70 5 = 0) (F : Fr 72 92 M M') : IV L xs A B M' := by
  obtain ⟨hS, hW, hC, hSn, hN⟩ := h
  have hT := hW.2.1.1.2.1
  obtain ⟨c1, c2, c3⟩ := hC
  refine ⟨hS.fr F, hW, ⟨?_, Or.inl (by rw [F 70 (by omega)]; exact h5), ?_⟩, hSn.fr F, hN⟩
  · rw [F 47 (by omega)]
    rcases c1 with c1 | ⟨a, b⟩
    · exact Or.inl c1
    · exact Or.inr ⟨a, Lk_c hT b fun c hc => F c (by omega)⟩
  · rw [F 112 (by omega), F 135 (by omega)]
    exact c3
theorem s_learnText (hP : Clo P) {Q : Qp_} {M : Mm_} {x : Int} (hI : IV L xs A B M) (h5 : M 70 5 = 0) (hx : 0 ≤ x ∧ x < B 112 0) (k : ∀ M', IV L xs A B M' → M' 70 5 = 0 → (∀ c, 72 ≤ c ∧ c ≤ 92 → c ≠ 72 + x → c ≠ 83 + x → M' c = M c) → (∀ i, 0 ≤ i ∧ i < B 115 x → M' (72 + x) i = wY B x i ∧ (0 ≤ wY B x i → M' (83 + x) i = wJ B x i)) → Q none WF M') : P 165 0 [some (2, 70), some (0, x), none, none, none, none, none, none, none] [] WF M (0, 0) Q := by
  have hW := hI.2.1
  have hT := hW.2.1.1.2.1
  have lb := lws_bd hW.2.2.2 x
  have Xb := (hW.2.1.2.1 x (by omega)).1
  refine t_Ways_learnText_0 hP (s_lookAt hP hI.1 hW hx hI.2.2.1.1 fun M1 F1 h9 hL1 => t_Ways_learnText_4 hP ?_)
  have hI1 := IV_look hI F1 h9 hx hL1
  have u11 := (rdT hI1.1 hW.2.1).2.2
  rw [u11]
  refine s_sourceSet hP hI1.1 hW hx (by omega) (t_Ways_learnText_11 hP ?_)
  obtain ⟨S, hS0⟩ : ∃ S, S = alS B x := ⟨_, rfl⟩
  have srm : (srS B x (B 112 0) : Int) = (mset S 10 : Int) := by rw [hS0]; rfl
  have hSp : ∀ y, S y = true → alS B x y = true := by rw [hS0]; exact fun y h => h
  rw [srm]
  refine s_explC hP hI1.1 hW hx hL1 hSp fun M2 F2 e1 e2 e3 e4 => t_Ways_learnText_16 hP ?_
  have hI2 := hI1.fr F2
  have hL2 : Lk B x M2 := Lk_c hT hL1 fun c hc => F2 c (by omega)
  have h92 : M2 47 9 = x := by rw [F2 47 (by omega)]; exact h9
  have h52 : M2 70 5 = 0 := by rw [F2 70 (by omega), F1 70 (by omega)]; exact h5
  obtain ⟨Z, hZ⟩ : ∃ Z, Z = exZ B x S := ⟨_, rfl⟩
  rw [← hZ] at e2 e3 e4
  have wS' : ∀ q : Nat, wS B x q = cst Z q := fun q => by unfold wS; rw [hZ, hS0]; rfl
  have wY' : ∀ q : Nat, wY B x q = if 0 < Z (cst Z q) then frY B x S (cst Z q) (Z (cst Z q)) else -1 := fun q => by unfold wY; rw [wS' q, hZ, hS0]
  have wJ' : ∀ q : Nat, wJ B x q = frJ B x (cst Z q) (wY B x q) (Z (cst Z q)) + ((q : Int) - cst Z q) := fun q => by unfold wJ; rw [wS' q, hZ, hS0]
  have zb : ∀ i, 0 ≤ i ∧ i < B 115 x → 0 ≤ Z i ∧ i + Z i ≤ B 115 x := fun i hi => by
    rw [hZ]
    rcases EX_Z e1 hi with g | g
    · show 0 ≤ (exF B x S i).2.2 ∧ i + (exF B x S i).2.2 ≤ _
      omega
    · show 0 ≤ (exF B x S i).2.2 ∧ i + (exF B x S i).2.2 ≤ _
      omega
  -- the pieces
  have cb := cntB_le (stB Z) (B 115 x).toNat
  have lp2 : ∀ p : Nat, p ≤ cntB (stB Z) (B 115 x).toNat → ∀ M3, IV L xs A B M3 → Lk B x M3 → M3 47 9 = x → M3 70 5 = 0 → (∀ c, 64 ≤ c ∧ c ≤ 69 → M3 c = M2 c) → (∀ c, 72 ≤ c ∧ c ≤ 92 → c ≠ 72 + x → c ≠ 83 + x → M3 c = M2 c) → (∀ q : Nat, (q : Int) < B 115 x → (0 < Z (cst Z q) ∧ cntB (stB Z) (cst Z q).toNat < p → M3 (72 + x) q = wY B x q ∧ M3 (83 + x) q = wJ B x q) ∧ (¬ (0 < Z (cst Z q) ∧ cntB (stB Z) (cst Z q).toNat < p) → M3 (72 + x) q = -1)) → P 165 37 [some (2, 70), some (0, x), some (0, (mset S 10 : Int)), some (0, (p : Int)), none, none, none, none, none] [] WF M3 (0, 0) Q := by
    refine lpN (f := fun p : Nat => ∀ M3, IV L xs A B M3 → Lk B x M3 → M3 47 9 = x → M3 70 5 = 0 → (∀ c, 64 ≤ c ∧ c ≤ 69 → M3 c = M2 c) → (∀ c, 72 ≤ c ∧ c ≤ 92 → c ≠ 72 + x → c ≠ 83 + x → M3 c = M2 c) → (∀ q : Nat, (q : Int) < B 115 x → (0 < Z (cst Z q) ∧ cntB (stB Z) (cst Z q).toNat < p → M3 (72 + x) q = wY B x q ∧ M3 (83 + x) q = wJ B x q) ∧ (¬ (0 < Z (cst Z q) ∧ cntB (stB Z) (cst Z q).toNat < p) → M3 (72 + x) q = -1)) → P 165 37 [some (2, 70), some (0, x), some (0, (mset S 10 : Int)), some (0, (p : Int)), none, none, none, none, none] [] WF M3 (0, 0) Q) ?_ ?_
    · intro M3 hI3 hL3 h93 h53 g1 g2 g3
      have h6 : M3 64 6 = (cntB (stB Z) (B 115 x).toNat : Int) := by rw [g1 64 (by omega)]; exact e2
      refine t_Ways_learnText_37 hP (fun _ => k M3 hI3 h53 (fun c hc c1 c2 => (g2 c hc c1 c2).trans ((F2 c (by omega)).trans (F1 c (by omega)))) fun i hi => ?_) (fun q => by omega)
      obtain ⟨q, rfl⟩ := Int.eq_ofNat_of_zero_le hi.1
      obtain ⟨a1, a2⟩ := g3 q hi.2
      by_cases h : 0 < Z (cst Z q)
      · have sb := cst_bd Z q
        have hst : stB Z (cst Z q) = true := by
          unfold stB
          rw [decide_eq_true_iff, cst_lt]
          exact ⟨rfl, h⟩
        have lt : cntB (stB Z) (cst Z q).toNat < cntB (stB Z) (B 115 x).toNat := by
          have := cntB_t (p := stB Z) (n := (cst Z q).toNat) (by rw [Int.toNat_of_nonneg sb.1]; exact hst)
          have := cntB_mono (p := stB Z) (m := (cst Z q).toNat + 1) (n := (B 115 x).toNat) (by omega)
          omega
        have := a1 ⟨h, lt⟩
        exact ⟨this.1, fun _ => this.2⟩
      · have := a2 fun g => h g.1
        rw [wY' q, if_neg h]
        exact ⟨this, fun g => by omega⟩
    · intro p hp ih M3 hI3 hL3 h93 h53 g1 g2 g3
      have h6 : M3 64 6 = (cntB (stB Z) (B 115 x).toNat : Int) := by rw [g1 64 (by omega)]; exact e2
      obtain ⟨s, s1, s2, s3⟩ := cnt_hit hp
      have s4 := e4 s (by omega) s2
      rw [s3] at s4
      have p1 : M3 68 p = s := by rw [g1 68 (by omega)]; exact s4.1
      have p2 : M3 69 p = Z s := by rw [g1 69 (by omega)]; exact s4.2
      have s5 := s2
      unfold stB at s5
      rw [Int.toNat_natCast, decide_eq_true_iff] at s5
      obtain ⟨z1, z2, z3⟩ := exZ_st (by omega) e1 (i := s) (by omega) (by rw [← hZ]; exact s5.2)
      rw [← hZ] at z1 z2 z3
      obtain ⟨f0, f1, f2, f3⟩ := frY_spec z3
      rw [Bool.and_eq_true] at f2
      have yb := alS_bd (hSp _ f2.1)
      obtain ⟨m, hm⟩ := Int.eq_ofNat_of_zero_le (show 0 ≤ Z s by omega)
      refine t_Ways_learnText_37 hP (fun q => by omega) (fun _ => ?_)
      rw [p1, p2, hm]
      obtain ⟨y, hy⟩ : ∃ y, y = frY B x S s (Z s) := ⟨_, rfl⟩
      rw [← hy] at f0 f1 f2 f3 yb
      rw [hm] at hy f2 z2
      refine s_firstSource hP hI3.1 hW.2.1 hL3 (by omega) (by omega) (by omega) hSp (t_Ways_learnText_60 hP ?_)
      rw [← hy]
      obtain ⟨j0, j1, j2, j3⟩ := frJ_spec f2.2
      refine s_leastPlace hP hI3.1 hW hx yb hL3 (by omega) f2.2 fun M4 F4 => t_Ways_learnText_67 hP ?_
      obtain ⟨J, hJ⟩ : ∃ J, J = frJ B x s y m := ⟨_, rfl⟩
      rw [← hJ] at j0 j1 ⊢
      have hL4 : Lk B x M4 := Lk_c hT hL3 fun c hc => F4 c (by omega)
      have h94 : M4 47 9 = x := by rw [F4 47 (by omega)]; exact h93
      have hI4 := IV_look hI3 (F4.mono (by omega)) h94 hx hL4
      have h54 : M4 70 5 = 0 := by rw [F4 70 (by omega)]; exact h53
      refine lpN (n := m) (f := fun d : Nat => ∀ M5, Fr 72 92 M4 M5 → (∀ c, 72 ≤ c ∧ c ≤ 92 → c ≠ 72 + x → c ≠ 83 + x → M5 c = M4 c) → (∀ q : Int, ((s : Int) ≤ q ∧ q < s + d → M5 (72 + x) q = y ∧ M5 (83 + x) q = J + (q - s)) ∧ (¬ ((s : Int) ≤ q ∧ q < s + d) → M5 (72 + x) q = M4 (72 + x) q ∧ M5 (83 + x) q = M4 (83 + x) q)) → P 165 70 [some (2, 70), some (0, x), some (0, (mset S 10 : Int)), some (0, (p : Int)), some (0, (s : Int)), some (0, (m : Int)), some (0, y), some (0, J), some (0, (d : Int))] [] WF M5 (0, 0) Q) ?_ ?_ 0 (Nat.zero_le _) M4 (Fr.refl _ _ _) (fun _ _ _ _ => rfl) (fun q => ⟨fun h => by omega, fun _ => ⟨rfl, rfl⟩⟩)
      · intro M5 F5 d1 d2
        refine t_Ways_learnText_70 hP (fun _ => ?_) (fun q => by omega)
        refine ih M5 (hI4.w h54 F5) (Lk_c hT hL4 fun c hc => F5 c (by omega)) (by rw [F5 47 (by omega)]; exact h94) (by rw [F5 70 (by omega)]; exact h54) (fun c hc => by rw [F5 c (by omega), F4 c (by omega)]; exact g1 c hc) (fun c hc c1 c2 => by rw [d1 c hc c1 c2, F4 c (by omega)]; exact g2 c hc c1 c2) fun q hq => ?_
        obtain ⟨b1, b2⟩ := d2 q
        obtain ⟨a1, a2⟩ := g3 q hq
        rw [F4 (72 + x) (by omega), F4 (83 + x) (by omega)] at b2
        have sq := cst_bd Z q
        by_cases e : (s : Int) ≤ q ∧ (q : Int) < s + m
        · have cq : cst Z q = s := by
            have := cst_in s5.1 (q - s) (by omega)
            rwa [show s + (q - s) = q by omega] at this
          have wq : wY B x q = y := by rw [wY' q, cq, if_pos s5.2, hm, hy]
          refine ⟨fun _ => ?_, fun h => ?_⟩
          · rw [(b1 e).1, (b1 e).2, wJ' q, wq, cq, hm, hJ]
            exact ⟨rfl, rfl⟩
          · rw [cq, Int.toNat_natCast, s3] at h
            exact absurd ⟨s5.2, Nat.lt_succ_self _⟩ h
        · rw [(b2 e).1, (b2 e).2]
          have ne : 0 < Z (cst Z q) → cntB (stB Z) (cst Z q).toNat ≠ p := fun hz h => by
            have hst : stB Z (cst Z q) = true := by
              unfold stB
              rw [decide_eq_true_iff, cst_lt]
              exact ⟨rfl, hz⟩
            have u1 := pS_eq (Z := Z) (n := (B 115 x).toNat) (i := s) (p := p) (by omega) s2 (by omega)
            have u2 := pS_eq (Z := Z) (n := (B 115 x).toNat) (i := (cst Z q).toNat) (p := p) (by omega) (by rw [Int.toNat_of_nonneg sq.1]; exact hst) (by omega)
            have up := cst_up (Z := Z) q
            have : cst Z q = s := by omega
            rw [this, hm] at up
            omega
          refine ⟨fun h => a1 ⟨h.1, by have := ne h.1; omega⟩, fun h => a2 fun g => h ⟨g.1, by omega⟩⟩
      · intro d hd ihd M5 F5 d1 d2
        refine t_Ways_learnText_70 hP (fun q => by omega) (fun _ => ?_)
        refine ihd _ ((F5.u (by omega)).u (by omega)) (fun c hc c1 c2 => by rw [upd_r c2, upd_r c1]; exact d1 c hc c1 c2) fun q => ⟨fun h => ?_, fun h => ?_⟩
        · by_cases e : q = (s : Int) + d
          · rw [e]
            refine ⟨?_, ?_⟩
            · rw [upd_c (by omega), upd_s]
            · rw [upd_s]
              omega
          · have := (d2 q).1 (by omega)
            refine ⟨?_, ?_⟩
            · rw [upd_c (by omega), upd_i e]
              exact this.1
            · rw [upd_i e, upd_c (by omega)]
              exact this.2
        · have := (d2 q).2 (by omega)
          refine ⟨?_, ?_⟩
          · rw [upd_c (by omega), upd_i (by omega)]
            exact this.1
          · rw [upd_i (by omega), upd_c (by omega)]
            exact this.2
  refine lpN (n := (B 115 x).toNat) (f := fun i : Nat => ∀ M3, Fr 72 92 M2 M3 → (∀ c, 72 ≤ c ∧ c ≤ 92 → c ≠ 72 + x → M3 c = M2 c) → (∀ q : Nat, q < i → M3 (72 + x) q = -1) → P 165 18 [some (2, 70), some (0, x), some (0, (mset S 10 : Int)), some (0, (i : Int)), none, none, none, none, none] [] WF M3 (0, 0) Q) ?_ ?_ 0 (Nat.zero_le _) M2 (Fr.refl _ _ _) (fun _ _ _ => rfl) (fun q hq => by omega)
  · intro M3 F3 g1 g2
    have n4 : M3 (3 + 2 * x) 4 = B 115 x := by rw [F3 _ (by omega)]; exact (rdX hI2.1 hW.2.1 (x := x) (by omega)).2.2.2.1
    refine t_Ways_learnText_18 hP (fun _ => ?_) (fun q => by omega)
    refine lp2 0 (Nat.zero_le _) M3 (hI2.w h52 F3) (Lk_c hT hL2 fun c hc => F3 c (by omega)) (by rw [F3 47 (by omega)]; exact h92) (by rw [F3 70 (by omega)]; exact h52) (fun c hc => F3 c (by omega)) (fun c hc c1 _ => g1 c hc c1) fun q hq => ⟨fun h => by omega, fun _ => g2 q (by omega)⟩
  · intro i hi ih M3 F3 g1 g2
    have n4 : M3 (3 + 2 * x) 4 = B 115 x := by rw [F3 _ (by omega)]; exact (rdX hI2.1 hW.2.1 (x := x) (by omega)).2.2.2.1
    refine t_Ways_learnText_18 hP (fun q => by omega) (fun _ => ih _ (F3.u (by omega)) (fun c hc c1 => by rw [upd_r c1]; exact g1 c hc c1) fun q hq => ?_)
    by_cases e : q = i
    · rw [e, upd_s]
    · rw [upd_i (by omega)]
      exact g2 q (by omega)
end WY
