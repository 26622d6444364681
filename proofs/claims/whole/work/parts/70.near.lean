/-! nearest, family -/
theorem lt_sc {a b g : Nat} (h : 0 < g) : a * g < b * g ↔ a < b := ⟨fun q => Nat.lt_of_mul_lt_mul_right q, fun q => Nat.mul_lt_mul_of_pos_right q h⟩
theorem le_sc {a b g : Nat} (h : 0 < g) : a * g ≤ b * g ↔ a ≤ b := ⟨fun q => Nat.le_of_mul_le_mul_right q h, fun q => Nat.mul_le_mul_right g q⟩
theorem fr_cmp (B : Mm_) (x y z r : Int) : upp B x y r * lowr B x z r ≤ upp B x z r * lowr B x y r ↔ cmN B x y r * WW B x z r ≤ cmN B x z r * WW B x y r := by
  obtain ⟨g, g0, g1, g2, -⟩ := frac B x y r
  obtain ⟨h, h0, h1, h2, -⟩ := frac B x z r
  rw [← g1, ← g2, ← h1, ← h2, show upp B x y r * g * (lowr B x z r * h) = upp B x y r * lowr B x z r * (g * h) by ac_rfl, show upp B x z r * h * (lowr B x y r * g) = upp B x z r * lowr B x y r * (g * h) by ac_rfl]
  exact (le_sc (Nat.mul_pos g0 h0)).symm
theorem fr_fam (B : Mm_) (x y r : Int) (u : Nat) : upp B x y r * 100 < u * lowr B x y r ↔ 100 * cmN B x y r < u * WW B x y r := by
  obtain ⟨g, g0, g1, g2, -⟩ := frac B x y r
  rw [← g1, ← g2, show 100 * (upp B x y r * g) = upp B x y r * 100 * g by ac_rfl, show u * (lowr B x y r * g) = u * lowr B x y r * g by ac_rfl]
  exact (lt_sc g0).symm
theorem fr_bd {B : Mm_} (hT : WfT B) {x y r : Int} (hx : 0 ≤ x ∧ x < 10) (hy : 0 ≤ y ∧ y < 10) (hr : 1 ≤ r ∧ r ≤ 5) : cmN B x y r ≤ 120 ∧ WW B x y r ≤ 120 ∧ upp B x y r ≤ 120 ∧ lowr B x y r ≤ 120 := by
  have bx := nr_bd hT hx hr
  have by' := nr_bd hT hy hr
  have nx := nR_le B x r
  have ny := nR_le B y r
  have cl := cm_le B x y r
  have w : WW B x y r ≤ 120 := by
    unfold WW eiN
    split <;> omega
  obtain ⟨g, g0, g1, g2, -⟩ := frac B x y r
  have a : upp B x y r ≤ upp B x y r * g := Nat.le_mul_of_pos_right _ g0
  have b : lowr B x y r ≤ lowr B x y r * g := Nat.le_mul_of_pos_right _ g0
  omega
theorem mul_bd {a b : Nat} (ha : a ≤ 120) (hb : b ≤ 120) : -2147483648 ≤ (a : Int) * (b : Int) ∧ (a : Int) * (b : Int) ≤ 2147483647 := by
  have : a * b ≤ 120 * 120 := Nat.mul_le_mul ha hb
  have e : ((a * b : Nat) : Int) = (a : Int) * (b : Int) := Int.natCast_mul a b
  omega
def nea (B : Mm_) (x r : Int) : Nat → Int
  | 0 => -1
  | y + 1 => if (y : Int) = x then nea B x r y else if nea B x r y = -1 ∨ ¬ (cmN B x y r * WW B x (nea B x r y) r ≤ cmN B x (nea B x r y) r * WW B x y r) then y else nea B x r y
theorem nea_bd (B : Mm_) (x r : Int) : ∀ y : Nat, nea B x r y = -1 ∨ 0 ≤ nea B x r y ∧ nea B x r y < y
  | 0 => Or.inl rfl
  | y + 1 => by
    have := nea_bd B x r y
    unfold nea
    split
    · omega
    · split <;> omega
def FLA (B M : Mm_) (r : Int) : Prop := ∀ z, 0 ≤ z ∧ z < B 112 0 → FL B M z r (nrR B z r)
theorem FLA_c {B M M' : Mm_} {r : Int} (hT : WfT B) (h : FLA B M r) (g : ∀ c, 95 ≤ c ∧ c ≤ 105 → M' c = M c) : FLA B M' r := fun z hz => by
  have := hT.1
  unfold FL
  rw [g 105 (by omega), g (95 + z) (by omega)]
  exact h z hz
section NE
variable {P : Jg_} {L : Nat} {xs : Nat → Int32} {B : Mm_}
theorem s_fillAll (hP : Clo P) {Q : Qp_} {M : Mm_} {r : Int} (hS : Sc B M) (hT : WfT B) (hr : 1 ≤ r ∧ r ≤ 5) (k : ∀ M', Fr 93 111 M M' → FLA B M' r → Q none WF M') : P 194 0 [some (2, 93), some (0, r), none] [] WF M (0, 0) Q := by
  obtain ⟨u0, u1, u2⟩ := rdT hS hT
  refine t_RowTable_fillAll_0 hP ?_
  refine lpN (n := (B 112 0).toNat) (f := fun x : Nat => ∀ M', Fr 93 111 M M' → (∀ z : Int, 0 ≤ z ∧ z < x → FL B M' z r (nrR B z r)) → P 194 2 [some (2, 93), some (0, r), some (0, (x : Int))] [] WF M' (0, 0) Q) ?_ ?_ 0 (Nat.zero_le _) M (Fr.refl _ _ _) (fun z hz => by omega)
  · intro M' F' h
    have e : M' 1 1 = B 112 0 := by rw [F' 1 (by omega)]; exact u2
    exact t_RowTable_fillAll_2 hP (fun _ => k M' F' fun z hz => h z (by omega)) (fun q => by omega)
  · intro x hx ih M' F' h
    have e : M' 1 1 = B 112 0 := by rw [F' 1 (by omega)]; exact u2
    refine t_RowTable_fillAll_2 hP (fun q => by omega) (fun _ => s_fill hP (hS.fr F') hT (by omega) hr fun M2 F2 f2 => t_RowTable_fillAll_11 hP (ih M2 (F'.trans (F2.fr (by omega))) fun z hz => ?_))
    by_cases c : z = x
    · rw [c]
      exact f2
    · exact F2.fl c (by omega) (h z (by omega))
theorem tw_nearest (hP : Clo P) {x r : Int} : Two P L xs 196 [some (2, 0), some (0, x), some (0, r)] 197 [some (2, 112), some (0, x), some (0, r), none, none, none, none] := by
  rintro M ⟨A, B, hI⟩
  have hI0 : INV L xs M := ⟨A, B, hI⟩
  obtain ⟨u0, u1, u2⟩ := rdT hI.1 hI.2.1.2.1
  have hT := hI.2.1.2.1
  by_cases h1 : 0 ≤ x ∧ x < B 112 0
  · by_cases h2 : 1 ≤ r ∧ r ≤ 5
    · refine ⟨fun v M1 => v = nea B x r (B 112 0).toNat ∧ Fr 93 111 M M1, fun Q k => ?_, fun v M1 hR => ?_⟩
      · refine t_BW_nearest_0 hP ?_ ?_ ?_ ?_ ?_ <;> intros <;> first | (exfalso; omega) | skip
        refine t_RowTable_likestTo_0 hP (s_fillAll hP hI.1 hT h2 fun M1 F1 f1 => t_RowTable_likestTo_3 hP ?_)
        refine lpN (n := (B 112 0).toNat) (f := fun y : Nat => ∀ M' (p q : Nat), Fr 93 111 M M' → FLA B M' r → p ≤ 120 → q ≤ 120 → (¬ nea B x r y = -1 → p = upp B x (nea B x r y) r ∧ q = lowr B x (nea B x r y) r) → P 195 11 [some (2, 93), some (0, x), none, some (0, nea B x r y), some (0, (p : Int)), some (0, (q : Int)), some (0, (y : Int))] [] WF M' (0, 0) (fun v w' M' => P 196 15 [none, none, none] (v.toList ++ []) w' M' (0, 0) Q)) ?_ ?_ 0 (Nat.zero_le _) M1 0 1 F1 f1 (by omega) (by omega) (fun q => absurd rfl q)
        · intro M' p q F' f' _ _ _
          have e : M' 1 1 = B 112 0 := by rw [F' 1 (by omega)]; exact u2
          exact t_RowTable_likestTo_11 hP (fun _ => t_BW_nearest_15 hP (t_BW_nearest_17 hP (k _ _ ⟨rfl, F'⟩))) (fun q => by omega) (fun q => by omega)
        · intro y hy ih M' p q F' f' pb qb pq
          have e : M' 1 1 = B 112 0 := by rw [F' 1 (by omega)]; exact u2
          refine t_RowTable_likestTo_11 hP (fun q => by omega) (fun _ q1 => ?_) (fun _ q1 => ?_)
          · refine s_comp hP hT (by omega) (by omega) h2 (f' x h1) (f' y (by omega)) fun M2 F2 e4 e5 => ?_
            have F2' : Fr 93 111 M M2 := F'.trans fun c hc => F2 c (by omega)
            have f2 : FLA B M2 r := FLA_c hT f' fun c hc => F2 c (by omega)
            have bd := fr_bd hT (x := x) (y := y) (by omega) (by omega) h2
            have nb := nea_bd B x r y
            have cmp := fr_cmp B x y (nea B x r y) r
            have ih2 := ih M2 (upp B x y r) (lowr B x y r) F2' f2 bd.2.2.1 bd.2.2.2
            have ih1 := ih M2 p q F2' f2 pb qb
            have un : nea B x r (y + 1) = if nea B x r y = -1 ∨ ¬ (cmN B x y r * WW B x (nea B x r y) r ≤ cmN B x (nea B x r y) r * WW B x y r) then (y : Int) else nea B x r y := by
              show (if _ then _ else _) = _
              rw [if_neg q1]
            refine t_RowTable_likestTo_24 hP (fun q2 => ?_) (fun q2 q3 => ?_) (fun q2 q3 => ?_) (s2 := fun _ => by rw [e4]; exact mul_bd bd.2.2.1 qb) (s3 := fun _ => by rw [e5]; exact mul_bd pb bd.2.2.2)
            · rw [un, if_pos (Or.inl q2)] at ih2
              rw [e4, e5]
              exact ih2 fun _ => ⟨rfl, rfl⟩
            · obtain ⟨rfl, rfl⟩ := pq q2
              rw [e4, e5] at q3
              have q4 : upp B x y r * lowr B x (nea B x r y) r ≤ upp B x (nea B x r y) r * lowr B x y r := by exact_mod_cast q3
              rw [un, if_neg (by rintro (c | c); exact q2 c; exact c (cmp.mp q4))] at ih1
              exact ih1 fun _ => ⟨rfl, rfl⟩
            · obtain ⟨rfl, rfl⟩ := pq q2
              rw [e4, e5] at q3 ⊢
              have q4 : ¬ upp B x y r * lowr B x (nea B x r y) r ≤ upp B x (nea B x r y) r * lowr B x y r := by exact_mod_cast q3
              rw [un, if_pos (Or.inr fun c => q4 (cmp.mpr c))] at ih2
              exact ih2 fun _ => ⟨rfl, rfl⟩
          · have ih1 := ih M' p q F' f' pb qb
            have un : nea B x r (y + 1) = nea B x r y := by
              show (if _ then _ else _) = _
              rw [if_pos q1]
            rw [un] at ih1
            exact ih1 pq
      · obtain ⟨rfl, F1⟩ := hR
        have I1 : IV L xs A B M1 := hI.fr F1
        refine ⟨I1.ro, fun Q k => ?_⟩
        obtain ⟨v0, v1, v2⟩ := rdT I1.1 hT
        refine t_Mo_nearest_0 hP ?_ ?_ ?_ ?_ ?_ <;> intros <;> first | (exfalso; omega) | skip
        refine lpN (n := (B 112 0).toNat) (f := fun y : Nat => ∀ M' (p q : Nat), IV L xs A B M' → p ≤ 120 → q ≤ 120 → (¬ nea B x r y = -1 → p = cmN B x (nea B x r y) r ∧ q = WW B x (nea B x r y) r) → P 197 22 [some (2, 112), some (0, x), some (0, r), some (0, nea B x r y), some (0, (p : Int)), some (0, (q : Int)), some (0, (y : Int))] [] WF M' (0, 0) Q) ?_ ?_ 0 (Nat.zero_le _) M1 0 1 I1 (by omega) (by omega) (fun q => absurd rfl q)
        · intro M' p q I' _ _ _
          have e := (rdT I'.1 hT).2.1
          exact t_Mo_nearest_22 hP (fun _ => k _ ⟨A, B, I'⟩) (fun q => by omega) (fun q => by omega)
        · intro y hy ih M' p q I' pb qb pq
          have e := (rdT I'.1 hT).2.1
          refine t_Mo_nearest_22 hP (fun q => by omega) (fun _ q1 => ?_) (fun _ q1 => ?_)
          · have ih1 := ih M' p q I' pb qb
            have un : nea B x r (y + 1) = nea B x r y := by
              show (if _ then _ else _) = _
              rw [if_pos q1]
            rw [un] at ih1
            exact ih1 pq
          · refine s_liken hP I' (by omega) (by omega) h2 fun M2 I2 _ e4 e5 => ?_
            have bd := fr_bd hT (x := x) (y := y) (by omega) (by omega) h2
            have nb := nea_bd B x r y
            have ih2 := ih M2 (cmN B x y r) (WW B x y r) I2 bd.1 bd.2.1
            have ih1 := ih M2 p q I2 pb qb
            have un : nea B x r (y + 1) = if nea B x r y = -1 ∨ ¬ (cmN B x y r * WW B x (nea B x r y) r ≤ cmN B x (nea B x r y) r * WW B x y r) then (y : Int) else nea B x r y := by
              show (if _ then _ else _) = _
              rw [if_neg q1]
            refine t_Mo_nearest_34 hP (fun q2 => ?_) (fun q2 q3 => ?_) (fun q2 q3 => ?_) (s2 := fun _ => by rw [e4]; exact mul_bd bd.1 qb) (s3 := fun _ => by rw [e5]; exact mul_bd pb bd.2.1)
            · rw [un, if_pos (Or.inl (by omega))] at ih2
              rw [e4, e5]
              exact ih2 fun _ => ⟨rfl, rfl⟩
            · obtain ⟨rfl, rfl⟩ := pq (by omega)
              rw [e4, e5] at q3
              have q4 : cmN B x y r * WW B x (nea B x r y) r ≤ cmN B x (nea B x r y) r * WW B x y r := by exact_mod_cast q3
              rw [un, if_neg (by rintro (c | c); omega; exact c q4)] at ih1
              exact ih1 fun _ => ⟨rfl, rfl⟩
            · obtain ⟨rfl, rfl⟩ := pq (by omega)
              rw [e4, e5] at q3 ⊢
              have q4 : ¬ cmN B x y r * WW B x (nea B x r y) r ≤ cmN B x (nea B x r y) r * WW B x y r := by exact_mod_cast q3
              rw [un, if_pos (Or.inr q4)] at ih2
              exact ih2 fun _ => ⟨rfl, rfl⟩
    · refine ⟨fun r M1 => r = -1002 ∧ M1 = M, fun Q k => ?_, fun r M1 hR => ?_⟩
      · refine t_BW_nearest_0 hP ?_ ?_ ?_ ?_ ?_ <;> intros <;> first | (exfalso; omega) | exact k _ _ ⟨rfl, rfl⟩ | (refine t_BW_nearest_17 hP ?_; exact k _ _ ⟨rfl, rfl⟩)
      · obtain ⟨rfl, rfl⟩ := hR
        refine ⟨hI0.ro, fun Q k => ?_⟩
        refine t_Mo_nearest_0 hP ?_ ?_ ?_ ?_ ?_ <;> intros <;> first | (exfalso; omega) | exact k _ hI0
  · refine ⟨fun r M1 => r = -1001 ∧ M1 = M, fun Q k => ?_, fun r M1 hR => ?_⟩
    · refine t_BW_nearest_0 hP ?_ ?_ ?_ ?_ ?_ <;> intros <;> first | (exfalso; omega) | exact k _ _ ⟨rfl, rfl⟩ | (refine t_BW_nearest_17 hP ?_; exact k _ _ ⟨rfl, rfl⟩)
    · obtain ⟨rfl, rfl⟩ := hR
      refine ⟨hI0.ro, fun Q k => ?_⟩
      refine t_Mo_nearest_0 hP ?_ ?_ ?_ ?_ ?_ <;> intros <;> first | (exfalso; omega) | exact k _ hI0
end NE
