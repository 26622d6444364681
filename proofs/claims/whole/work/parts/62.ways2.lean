/-! first, passed, sprung -/
noncomputable def Kn (B M : Mm_) : Prop := ∀ x i, 0 ≤ x ∧ x < B 112 0 → 0 ≤ i ∧ i < B 115 x → M (72 + x) i = wY B x i ∧ (0 ≤ wY B x i → M (83 + x) i = wJ B x i)
noncomputable def whv (B : Mm_) (x i : Int) : Int := if 0 ≤ wY B x i then 60 * wY B x i + wJ B x i else -1
noncomputable def Fn (B M : Mm_) : Prop := ∀ x i, 0 ≤ x ∧ x < B 112 0 → 0 ≤ i ∧ i < B 115 x → M 135 (60 * x + i) = whv B x i
section W2
variable {P : Jg_} {L : Nat} {xs : Nat → Int32} {A B : Mm_}
theorem IV.f70 {M M' : Mm_} (h : IV L xs A B M) (F : ∀ c, c ≠ 70 → M' c = M c) (h5 : M' 70 5 = M 70 5 ∨ M' 70 5 = 1 ∧ Kn B M') : IV L xs A B M' := by
  have F2 : Fr 70 70 M M' := fun c hc => F c (by omega)
  obtain ⟨hS, hW, hC, hSn, hN⟩ := h
  have hT := hW.2.1.1.2.1
  obtain ⟨c1, c2, c3⟩ := hC
  refine ⟨hS.fr F2, hW, ⟨?_, ?_, ?_⟩, hSn.fr F2, hN⟩
  · rw [F 47 (by omega)]
    rcases c1 with c1 | ⟨a, b⟩
    · exact Or.inl c1
    · exact Or.inr ⟨a, Lk_c hT b fun c hc => F c (by omega)⟩
  · rcases h5 with h5 | h5
    · rw [h5]
      rcases c2 with c2 | ⟨a, b⟩
      · exact Or.inl c2
      · refine Or.inr ⟨a, fun x i hx hi => ?_⟩
        rw [F (72 + x) (by omega), F (83 + x) (by omega)]
        exact b x i hx hi
    · exact Or.inr h5
  · rw [F 112 (by omega), F 135 (by omega)]
    exact c3
theorem IV.f135 {M M' : Mm_} (h : IV L xs A B M) (F : ∀ c, c ≠ 135 → c ≠ 112 → M' c = M c) (g : ∀ j, j ≠ 8 → M' 112 j = M 112 j) (h8 : M' 112 8 = 0 ∨ M' 112 8 = 1 ∧ Fn B M') : IV L xs A B M' := by
  obtain ⟨hS, hW, hC, hSn, hN⟩ := h
  have hT := hW.2.1.1.2.1
  obtain ⟨c1, c2, c3⟩ := hC
  refine ⟨fun c j hc => ?_, hW, ⟨?_, ?_, ?_⟩, fun c j hc => ?_, hN⟩
  · by_cases e : c = 112
    · subst e
      rw [g j (by unfold Pc at hc; omega)]
      exact hS 112 j hc
    · rw [F c (by unfold Pc at hc; omega) e]
      exact hS c j hc
  · rw [F 47 (by omega) (by omega)]
    rcases c1 with c1 | ⟨a, b⟩
    · exact Or.inl c1
    · exact Or.inr ⟨a, Lk_c hT b fun c hc => F c (by omega) (by omega)⟩
  · rw [F 70 (by omega) (by omega)]
    rcases c2 with c2 | ⟨a, b⟩
    · exact Or.inl c2
    · refine Or.inr ⟨a, fun x i hx hi => ?_⟩
      rw [F (72 + x) (by omega) (by omega), F (83 + x) (by omega) (by omega)]
      exact b x i hx hi
  · exact h8
  · by_cases e : c = 112
    · subst e
      rw [g j (by unfold Pn at hc; omega)]
      exact hSn 112 j hc
    · rw [F c (by unfold Pn at hc; omega) e]
      exact hSn c j hc
theorem s_learn (hP : Clo P) {Q : Qp_} {M : Mm_} (hI : IV L xs A B M) (k : ∀ M', IV L xs A B M' → Kn B M' → Q none WF M') : P 166 0 [some (2, 70), none] [] WF M (0, 0) Q := by
  have hW := hI.2.1
  have hT := hW.2.1.1.2.1
  have hT0 := hW.2.1.1.1
  refine t_Ways_learn_0 hP (fun q => ?_) (fun q => ?_)
  · refine lpN (n := (B 112 0).toNat) (f := fun x : Nat => ∀ M', IV L xs A B M' → M' 70 5 = 0 → (∀ z i, 0 ≤ z ∧ z < (x : Int) → 0 ≤ i ∧ i < B 115 z → M' (72 + z) i = wY B z i ∧ (0 ≤ wY B z i → M' (83 + z) i = wJ B z i)) → P 166 6 [some (2, 70), some (0, (x : Int))] [] WF M' (0, 0) Q) ?_ ?_ 0 (Nat.zero_le _) M hI q (fun z i hz => by omega)
    · intro M' hI' h5 hk
      have u := (rdT hI'.1 hW.2.1).2.2
      refine t_Ways_learn_6 hP (fun _ => ?_) (fun q => by omega)
      have kn : Kn B (updM M' 70 5 1) := fun x i hx hi => by
        rw [upd_c (by omega), upd_c (by omega)]
        exact hk x i (by omega) hi
      exact k _ (hI'.f70 (fun c hc => upd_r hc _ _) (Or.inr ⟨upd_s _ _ _ _, kn⟩)) kn
    · intro x hx ih M' hI' h5 hk
      have u := (rdT hI'.1 hW.2.1).2.2
      refine t_Ways_learn_6 hP (fun q => by omega) (fun _ => ?_)
      refine s_learnText hP hI' h5 (by omega) fun M2 hI2 h52 g1 g2 => t_Ways_learn_14 hP (ih M2 hI2 h52 fun z i hz hi => ?_)
      by_cases e : z = x
      · rw [e] at hi ⊢
        exact g2 i hi
      · rw [g1 (72 + z) (by omega) (by omega) (by omega), g1 (83 + z) (by omega) (by omega) (by omega)]
        exact hk z i (by omega) hi
  · rcases hI.2.2.1.2.1 with c | ⟨c1, c2⟩
    · exact absurd c q
    · exact k M hI c2
theorem s_walk (hP : Clo P) {Q : Qp_} {M : Mm_} {x i : Int} (hI : IV L xs A B M) (hk : Kn B M) (hx : 0 ≤ x ∧ x < B 112 0) (hi : 0 ≤ i ∧ i < B 115 x) (k : ∀ M', IV L xs A B M' → Kn B M' → M' 70 6 = (wkE B x i).1 → M' 70 7 = (wkE B x i).2.1 → M' 70 8 = (wkE B x i).2.2.1 → M' 70 9 = (mset (wkE B x i).2.2.2 10 : Int) → Q none WF M') : P 167 0 [some (2, 70), some (0, x), some (0, i), none] [] WF M (0, 0) Q := by
  have hW := hI.2.1
  have hT := hW.2.1.1.2.1
  have wb := fun {a b : Int} (ha : 0 ≤ a ∧ a < B 112 0) (hb : 0 ≤ b ∧ b < B 115 a) => wY_ok hW ha hb
  refine t_Ways_walk_0 hP ?_
  have key : ∀ (r : Nat) (a b : Int) (s : Int) (V : Int → Bool) (M' : Mm_), rkT B a ≤ r → 0 ≤ a ∧ a < B 112 0 → 0 ≤ b ∧ b < B 115 a → M' 70 6 = a → M' 70 7 = b → M' 70 8 = s → M' 70 9 = (mset V 10 : Int) → 0 ≤ s ∧ s + rkT B a ≤ 9 → (∀ c, c ≠ 70 → M' c = M c) → M' 70 5 = M 70 5 → (∀ M2, (∀ c, c ≠ 70 → M2 c = M c) → M2 70 5 = M 70 5 → M2 70 6 = (wkE B a b).1 → M2 70 7 = (wkE B a b).2.1 → M2 70 8 = s + (wkE B a b).2.2.1 → M2 70 9 = (mset (fun y => V y || (wkE B a b).2.2.2 y) 10 : Int) → Q none WF M2) → P 167 12 [some (2, 70), none, none, none] [] WF M' (0, 0) Q := by
    intro r
    induction r with
    | zero =>
      intro a b s V M' hr ha hb g6 g7 g8 g9 hs F h5 kk
      have w0 : wY B a b = -1 := by
        rcases wb ha hb with g | g
        · exact g
        · omega
      have e1 : M' (72 + M' 70 6) (M' 70 7) = -1 := by rw [g6, g7, F (72 + a) (by omega), (hk a b ha hb).1, w0]
      have hb60 := (hW.2.1.2.1 a (by omega)).1
      refine t_Ways_walk_12 hP (fun q => by omega) (fun _ _ => ?_) (fun _ q => absurd e1 q)
      refine kk M' F h5 ?_ ?_ ?_ ?_ <;> rw [wkE_0 w0]
      · exact g6
      · exact g7
      · rw [g8]
        exact (Int.add_zero _).symm
      · rw [g9]
        simp only [Bool.or_false]
    | succ r ih =>
      intro a b s V M' hr ha hb g6 g7 g8 g9 hs F h5 kk
      have hb60 := (hW.2.1.2.1 a (by omega)).1
      by_cases w0 : wY B a b = -1
      · have e1 : M' (72 + M' 70 6) (M' 70 7) = -1 := by rw [g6, g7, F (72 + a) (by omega), (hk a b ha hb).1, w0]
        refine t_Ways_walk_12 hP (fun q => by omega) (fun _ _ => ?_) (fun _ q => absurd e1 q)
        refine kk M' F h5 ?_ ?_ ?_ ?_ <;> rw [wkE_0 w0]
        · exact g6
        · exact g7
        · rw [g8]
          exact (Int.add_zero _).symm
        · rw [g9]
          simp only [Bool.or_false]
      · have g := (wb ha hb).resolve_left w0
        have e1 : M' (72 + M' 70 6) (M' 70 7) = wY B a b := by rw [g6, g7, F (72 + a) (by omega), (hk a b ha hb).1]
        have e2 : M' (83 + M' 70 6) (M' 70 7) = wJ B a b := by rw [g6, g7, F (83 + a) (by omega), (hk a b ha hb).2 g.1.1]
        have hy60 := (hW.2.1.2.1 (wY B a b) (by omega)).1
        refine t_Ways_walk_12 hP (fun q => by omega) (fun _ q => by omega) (fun _ _ => ?_)
        rw [e1, e2, g8, g9]
        obtain ⟨y, hy⟩ := Int.eq_ofNat_of_zero_le g.1.1
        have orv : orI (mset V 10 : Int) (shlI 1 (wY B a b)) = (mset (fun z => V z || decide (z = wY B a b)) 10 : Int) := by
          rw [hy, sbI (mset_le _ (n := 31) (by omega)) (by omega)]
          refine congrArg _ (mset_eq fun z => ?_)
          rw [or_tb, mset_tb]
          have : decide (y = z) = (decide (z < 10) && decide ((z : Int) = y)) := by
            rw [← Bool.decide_and, decide_eq_decide]
            omega
          rw [this, Bool.and_or_distrib_left]
        rw [orv]
        refine ih (wY B a b) (wJ B a b) (s + 1) _ _ (by omega) g.1 g.2.1 (by rw [upd_i (by decide), upd_i (by decide), upd_s]) (by rw [upd_i (by decide), upd_i (by decide), upd_i (by decide), upd_s]) (upd_s _ _ _ _) (by rw [upd_i (by decide), upd_s]) (by omega) (fun c hc => by rw [upd_r hc, upd_r hc, upd_r hc, upd_r hc]; exact F c hc) (by rw [upd_i (by decide), upd_i (by decide), upd_i (by decide), upd_i (by decide)]; exact h5) fun M2 F2 a5 a6 a7 a8 a9 => ?_
        have es := wkE_s hW ha hb w0
        refine kk M2 F2 a5 ?_ ?_ ?_ ?_ <;> rw [es]
        · exact a6
        · exact a7
        · rw [a8]
          show _ = s + ((wkE B (wY B a b) (wJ B a b)).2.2.1 + 1)
          omega
        · rw [a9]
          refine congrArg _ (mset_cong fun z _ => ?_)
          rw [Bool.or_assoc]
  refine key 9 x i 0 (fun _ => false) _ (rkT_bd hx hT) hx hi rfl rfl rfl (by rw [upd_s, mset_zero fun _ _ => rfl]; rfl) ⟨Int.le_refl _, by have := rkT_bd hx hT; omega⟩ (fun c hc => by rw [upd_r hc, upd_r hc, upd_r hc, upd_r hc]) (by rw [upd_i (by decide), upd_i (by decide), upd_i (by decide), upd_i (by decide)]) fun M2 F2 a5 a6 a7 a8 a9 => ?_
  refine k M2 (hI.f70 F2 (Or.inl a5)) (fun z j hz hj => ?_) a6 a7 (by rw [a8, Int.zero_add]) (by rw [a9]; simp only [Bool.false_or])
  rw [F2 (72 + z) (by omega), F2 (83 + z) (by omega)]
  exact hk z j hz hj
theorem s_find (hP : Clo P) {Q : Qp_} {M : Mm_} (hI : IV L xs A B M) (k : ∀ M', IV L xs A B M' → Fn B M' → Q none WF M') : P 169 0 [some (2, 112), none, none, none, none, none, none] [] WF M (0, 0) Q := by
  have hW := hI.2.1
  have hT := hW.2.1.1.2.1
  have hT0 := hW.2.1.1.1
  refine t_Mo_find_0 hP (fun q => ?_) (fun q => ?_)
  · refine lpN (n := (B 112 0).toNat) (f := fun x : Nat => ∀ M', IV L xs A B M' → M' 112 8 = 0 → (∀ z i, 0 ≤ z ∧ z < (x : Int) → 0 ≤ i ∧ i < B 115 z → M' 135 (60 * z + i) = whv B z i) → P 169 6 [some (2, 112), some (0, (x : Int)), none, none, none, none, none] [] WF M' (0, 0) Q) ?_ ?_ 0 (Nat.zero_le _) M hI q (fun z i hz => by omega)
    · intro M' hI' h8 hk
      have u := (rdT hI'.1 hW.2.1).2.1
      refine t_Mo_find_6 hP (fun _ => ?_) (fun q => by omega)
      have fn : Fn B (updM M' 112 8 1) := fun x i hx hi => by
        rw [upd_c (by decide)]
        exact hk x i (by omega) hi
      exact k _ (hI'.f135 (fun c c1 c2 => upd_r c2 _ _) (fun j hj => upd_i hj _ _ _) (Or.inr ⟨upd_s _ _ _ _, fn⟩)) fn
    · intro x hx ih M' hI' h8 hk
      have u := (rdT hI'.1 hW.2.1).2.1
      have lb := lws_bd hW.2.2.2 x
      have Xb := (hW.2.1.2.1 x (by omega)).1
      refine t_Mo_find_6 hP (fun q => by omega) (fun _ => ?_)
      rw [u]
      refine s_look2 hP hI' (by omega) (by omega) fun M2 hI2 hL2 Fm2 => t_Mo_find_15 hP ?_
      obtain ⟨S, hS0⟩ : ∃ S, S = alS B x := ⟨_, rfl⟩
      have srm : (srS B x (B 112 0) : Int) = (mset S 10 : Int) := by rw [hS0]; rfl
      have hSp : ∀ y, S y = true → srcB B x (B 112 0) y = true := by rw [hS0]; exact fun y h => h
      rw [hL2.1, srm]
      refine s_expM2 hP hI2 (by omega) hL2 hSp fun M3 hI3 hL3 hE3 F3 => t_Mo_find_20 hP ?_
      obtain ⟨e1, e2, -, -⟩ := hE3
      have h83 : M3 112 8 = 0 := by rw [F3 112 (by omega), Fm2.2 8 (by omega)]; exact h8
      have hk3 : ∀ z i, 0 ≤ z ∧ z < (x : Int) → 0 ≤ i ∧ i < B 115 z → M3 135 (60 * z + i) = whv B z i := fun z i hz hi => by
        rw [F3 135 (by omega), Fm2.1 135 (by omega)]
        exact hk z i hz hi
      obtain ⟨Z, hZ⟩ : ∃ Z, Z = exZ B x S := ⟨_, rfl⟩
      rw [← hZ] at e2
      have wS' : ∀ q : Nat, wS B x q = cst Z q := fun q => by unfold wS; rw [hZ, hS0]; rfl
      have wY' : ∀ q : Nat, wY B x q = if 0 < Z (cst Z q) then frY B x S (cst Z q) (Z (cst Z q)) else -1 := fun q => by unfold wY; rw [wS' q, hZ, hS0]
      have wJ' : ∀ q : Nat, wJ B x q = frJ B x (cst Z q) (wY B x q) (Z (cst Z q)) + ((q : Int) - cst Z q) := fun q => by unfold wJ; rw [wS' q, hZ, hS0]
      have key : ∀ d i : Nat, (B 115 x).toNat - i ≤ d → i ≤ (B 115 x).toNat → (i = (B 115 x).toNat ∨ cst Z i = i) → ∀ M4, (∀ c, c ≠ 135 → M4 c = M3 c) → (∀ z q, 0 ≤ z ∧ z < (x : Int) → 0 ≤ q ∧ q < B 115 z → M4 135 (60 * z + q) = whv B z q) → (∀ q : Nat, q < i → M4 135 (60 * x + q) = whv B x q) → P 169 22 [some (2, 112), some (0, (x : Int)), some (0, (i : Int)), none, none, none, none] [] WF M4 (0, 0) Q := by
        have stop : ∀ i : Nat, i = (B 115 x).toNat → ∀ M4, (∀ c, c ≠ 135 → M4 c = M3 c) → (∀ z q, 0 ≤ z ∧ z < (x : Int) → 0 ≤ q ∧ q < B 115 z → M4 135 (60 * z + q) = whv B z q) → (∀ q : Nat, q < i → M4 135 (60 * x + q) = whv B x q) → P 169 22 [some (2, 112), some (0, (x : Int)), some (0, (i : Int)), none, none, none, none] [] WF M4 (0, 0) Q := by
          intro i hi M4 F4 g1 g2
          have n1 : M4 115 x = B 115 x := by rw [F4 115 (by omega)]; exact (rdX hI3.1 hW.2.1 (x := x) (by omega)).2.2.1
          refine t_Mo_find_22 hP (fun _ => ?_) (fun q => by omega) (fun q => by omega)
          refine ih M4 (hI3.f135 (fun c c1 _ => F4 c c1) (fun j _ => by rw [F4 112 (by omega)]) (Or.inl (by rw [F4 112 (by omega)]; exact h83))) (by rw [F4 112 (by omega)]; exact h83) fun z q hz hq => ?_
          by_cases e : z = x
          · rw [e] at hq ⊢
            obtain ⟨q, rfl⟩ := Int.eq_ofNat_of_zero_le hq.1
            exact g2 q (by omega)
          · exact g1 z q (by omega) hq
        intro d
        induction d with
        | zero => exact fun i d1 d2 _ => stop i (by omega)
        | succ d ihd =>
          intro i d1 d2 d3 M4 F4 g1 g2
          by_cases e : i = (B 115 x).toNat
          · exact stop i e M4 F4 g1 g2
          · have hv := d3.resolve_left e
            have n1 : M4 115 x = B 115 x := by rw [F4 115 (by omega)]; exact (rdX hI3.1 hW.2.1 (x := x) (by omega)).2.2.1
            have zi : M4 134 i = Z i := by rw [F4 134 (by omega)]; exact e2 i (by omega)
            have zz := EX_Z e1 (i := i) (by omega)
            have zz' : Z i = 0 ∨ lws B x 0 ≤ Z i ∧ Z i ≤ B 115 x - i ∧ opn B x S i (Z i) = true := by rw [hZ]; exact zz
            refine t_Mo_find_22 hP (fun q => by omega) (fun _ q => ?_) (fun _ q => ?_)
            · rw [zi] at q ⊢
              have z0 : Z i = 0 := by omega
              rw [z0]
              refine t_Mo_find_57 hP (fun _ q => absurd rfl q) (fun _ q => absurd rfl q) (fun _ _ _ => ?_) (fun _ _ q => absurd (Int.le_refl _) q) (fun q => absurd (Int.le_refl _) q)
              refine ihd (i + 1) (by omega) (by omega) (Or.inr (cst_1 hv (by omega))) _ (fun c hc => by rw [upd_r hc]; exact F4 c hc) (fun z q hz hq => ?_) fun q hq => ?_
              · have zb := (hW.2.1.2.1 z (by omega)).1
                rw [upd_i (by omega)]
                exact g1 z q hz hq
              · by_cases e3 : q = i
                · rw [e3, upd_s]
                  unfold whv
                  rw [wY' i, hv, z0, if_neg (by omega)]
                · rw [upd_i (by omega)]
                  exact g2 q (by omega)
            · rw [zi] at q ⊢
              have zz := zz'.resolve_left (by omega)
              obtain ⟨m, hm⟩ := Int.eq_ofNat_of_zero_le (show 0 ≤ Z i by omega)
              obtain ⟨f0, f1, f2, f3⟩ := frY_spec zz.2.2
              rw [Bool.and_eq_true] at f2
              have yb := alS_bd (by rw [← hS0]; exact f2.1)
              obtain ⟨y, hy⟩ : ∃ y, y = frY B x S i (Z i) := ⟨_, rfl⟩
              rw [← hy] at f0 f1 f2 f3 yb
              rw [F4 112 (by omega), hL3.1, srm]
              rw [hm] at hy f2 zz q ⊢
              have hS4 : Sc B M4 := fun c j hc => by rw [F4 c (by unfold Pc at hc; omega)]; exact hI3.1 c j hc
              refine s_fromOf hP (k := B 112 0) (by omega) (by omega) (by rw [F4 131 (by omega)]; exact hL3.2.2 i m (by omega) (by omega)) hSp zz.2.2 (t_Mo_find_41 hP (fun q => by omega) (fun _ => ?_))
              rw [← hy]
              obtain ⟨j0, j1, j2, j3⟩ := frJ_spec f2.2
              refine s_placeOf hP hS4 hW (by omega) ⟨f0, f1⟩ (by omega) zz.1 (fun w hw => by rw [F4 129 (by omega)]; exact hL3.2.1 w hw) f2.2 (t_Mo_find_52 hP ?_)
              obtain ⟨J, hJ⟩ : ∃ J, J = frJ B x i y m := ⟨_, rfl⟩
              rw [← hJ] at j0 j1 ⊢
              refine lpN (n := m) (f := fun t : Nat => ∀ M5, (∀ c, c ≠ 135 → M5 c = M3 c) → (∀ z q, 0 ≤ z ∧ z < (x : Int) → 0 ≤ q ∧ q < B 115 z → M5 135 (60 * z + q) = whv B z q) → (∀ q : Nat, q < i + t → M5 135 (60 * x + q) = whv B x q) → P 169 57 [some (2, 112), some (0, (x : Int)), some (0, (i : Int)), some (0, (m : Int)), some (0, y), some (0, J), some (0, (t : Int))] [] WF M5 (0, 0) Q) ?_ ?_ 0 (Nat.zero_le _) M4 F4 g1 g2
              · intro M5 F5 g3 g4
                have nv := cst_nx (Z := Z) (i := i) (d := m - 1) hv (by omega)
                rw [show i + (m - 1 + 1) = i + m by omega] at nv
                exact t_Mo_find_57 hP (fun _ _ q => by omega) (fun _ _ _ => ihd (i + m) (by omega) (by omega) (Or.inr nv) M5 F5 g3 g4) (fun _ q => by omega) (fun _ q => by omega) (fun q => by omega)
              · intro t ht iht M5 F5 g3 g4
                refine t_Mo_find_57 hP (fun q => by omega) (fun q => by omega) (fun q => by omega) (fun q => by omega) (fun _ => ?_)
                refine iht _ (fun c hc => by rw [upd_r hc]; exact F5 c hc) (fun z q hz hq => ?_) fun q hq => ?_
                · have zb := (hW.2.1.2.1 z (by omega)).1
                  rw [upd_i (by omega)]
                  exact g3 z q hz hq
                · by_cases e3 : q = i + t
                  · subst e3
                    rw [show 60 * (x : Int) + ((i + t : Nat) : Int) = 60 * (x : Int) + i + t by omega, upd_s]
                    have cq := cst_in hv t (by omega)
                    have wq : wY B x ((i + t : Nat) : Int) = y := by rw [wY' (i + t), cq, hm, if_pos (by omega), hy]
                    unfold whv
                    rw [wJ' (i + t), wq, cq, hm, if_pos f0, ← hJ]
                    omega
                  · rw [upd_i (by omega)]
                    exact g4 q (by omega)
      exact key _ 0 (Nat.le_refl _) (Nat.zero_le _) (Or.inr rfl) M3 (fun _ _ => rfl) hk3 (fun q hq => by omega)
  · rcases hI.2.2.1.2.2 with c | ⟨c1, c2⟩
    · exact absurd c q
    · exact k M hI c2
end W2
