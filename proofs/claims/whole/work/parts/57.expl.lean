/-! THE EXPLANATION: the best piece at a place, from both ends -/
def BP (op : Int → Bool) (T Pp : Int → Int) (i lo hi t p z : Int) : Prop :=
  (z = 0 ∧ t = T (i + 1) ∧ p = Pp (i + 1) ∨ ((lo ≤ z ∧ z < hi) ∧ op z = true ∧ t = z + T (i + z) ∧ p = 1 + Pp (i + z)))
  ∧ (T (i + 1) < t ∨ T (i + 1) = t ∧ p ≤ Pp (i + 1))
  ∧ ∀ s, lo ≤ s ∧ s < hi → op s = true → s + T (i + s) < t ∨ s + T (i + s) = t ∧ (p < 1 + Pp (i + s) ∨ p = 1 + Pp (i + s) ∧ s ≤ z)
theorem BP_0 {op : Int → Bool} {T Pp : Int → Int} {i lo hi : Int} (h : hi ≤ lo) : BP op T Pp i lo hi (T (i + 1)) (Pp (i + 1)) 0 := ⟨Or.inl ⟨rfl, rfl, rfl⟩, Or.inr ⟨rfl, Int.le_refl _⟩, fun s hs => by omega⟩
theorem BP_skip {op : Int → Bool} {T Pp : Int → Int} {i lo hi t p z : Int} (h : BP op T Pp i lo hi t p z) (g : op hi = false ∨ hi + T (i + hi) < t ∨ hi + T (i + hi) = t ∧ p < 1 + Pp (i + hi)) : BP op T Pp i lo (hi + 1) t p z := by
  obtain ⟨h1, h2, h3⟩ := h
  refine ⟨?_, h2, fun s hs ho => ?_⟩
  · rcases h1 with h1 | h1
    · exact Or.inl h1
    · exact Or.inr ⟨by omega, h1.2⟩
  · by_cases e : s = hi
    · subst e
      rcases g with g | g | g
      · rw [g] at ho
        cases ho
      · exact Or.inl g
      · exact Or.inr ⟨g.1, Or.inl g.2⟩
    · exact h3 s (by omega) ho
theorem BP_take {op : Int → Bool} {T Pp : Int → Int} {i lo hi t p z : Int} (h : BP op T Pp i lo hi t p z) (hl : lo ≤ hi) (g : op hi = true) (g2 : t < hi + T (i + hi) ∨ hi + T (i + hi) = t ∧ 1 + Pp (i + hi) ≤ p) : BP op T Pp i lo (hi + 1) (hi + T (i + hi)) (1 + Pp (i + hi)) hi := by
  obtain ⟨h1, h2, h3⟩ := h
  refine ⟨Or.inr ⟨by omega, g, rfl, rfl⟩, by omega, fun s hs ho => ?_⟩
  by_cases e : s = hi
  · subst e
    omega
  · have := h3 s (by omega) ho
    omega
theorem BP_dskip {op : Int → Bool} {T Pp : Int → Int} {i lo hi t p z : Int} (hlo : 1 ≤ lo) (h : BP op T Pp i (lo + 1) hi t p z) (g : op lo = false ∨ lo + T (i + lo) < t ∨ lo + T (i + lo) = t ∧ p < 1 + Pp (i + lo) ∨ (lo + T (i + lo) = t ∧ p = 1 + Pp (i + lo) ∧ z ≠ 0)) : BP op T Pp i lo hi t p z := by
  obtain ⟨h1, h2, h3⟩ := h
  refine ⟨?_, h2, fun s hs ho => ?_⟩
  · rcases h1 with h1 | h1
    · exact Or.inl h1
    · exact Or.inr ⟨by omega, h1.2⟩
  · by_cases e : s = lo
    · subst e
      rcases g with g | g | g | g
      · rw [g] at ho
        cases ho
      · exact Or.inl g
      · exact Or.inr ⟨g.1, Or.inl g.2⟩
      · refine Or.inr ⟨g.1, Or.inr ⟨g.2.1, ?_⟩⟩
        rcases h1 with h1 | h1
        · exact absurd h1.1 g.2.2
        · omega
    · exact h3 s (by omega) ho
theorem BP_dtake {op : Int → Bool} {T Pp : Int → Int} {i lo hi t p z : Int} (hlo : 1 ≤ lo) (h : BP op T Pp i (lo + 1) hi t p z) (hl : lo < hi) (g : op lo = true) (g2 : t < lo + T (i + lo) ∨ lo + T (i + lo) = t ∧ 1 + Pp (i + lo) < p ∨ lo + T (i + lo) = t ∧ 1 + Pp (i + lo) = p ∧ z = 0) : BP op T Pp i lo hi (lo + T (i + lo)) (1 + Pp (i + lo)) lo := by
  obtain ⟨h1, h2, h3⟩ := h
  refine ⟨Or.inr ⟨by omega, g, rfl, rfl⟩, by omega, fun s hs ho => ?_⟩
  by_cases e : s = lo
  · subst e
    omega
  · have := h3 s (by omega) ho
    omega
def EXp (op : Int → Int → Bool) (least n : Int) (F : Int → Int × Int × Int) (a : Int) : Prop := (F n).1 = 0 ∧ (F n).2.1 = 0 ∧ ∀ i, a ≤ i ∧ i < n →
  ((F i).2.2 = 0 ∧ (F i).1 = (F (i + 1)).1 ∧ (F i).2.1 = (F (i + 1)).2.1 ∨ (least ≤ (F i).2.2 ∧ (F i).2.2 ≤ n - i ∧ op i (F i).2.2 = true ∧ (F i).1 = (F i).2.2 + (F (i + (F i).2.2)).1 ∧ (F i).2.1 = 1 + (F (i + (F i).2.2)).2.1))
  ∧ ((F (i + 1)).1 < (F i).1 ∨ (F (i + 1)).1 = (F i).1 ∧ (F i).2.1 ≤ (F (i + 1)).2.1)
  ∧ ∀ s, least ≤ s ∧ s ≤ n - i → op i s = true → s + (F (i + s)).1 < (F i).1 ∨ s + (F (i + s)).1 = (F i).1 ∧ ((F i).2.1 < 1 + (F (i + s)).2.1 ∨ (F i).2.1 = 1 + (F (i + s)).2.1 ∧ s ≤ (F i).2.2)
theorem EXp_step {op : Int → Int → Bool} {least n i : Int} {F G : Int → Int × Int × Int} (hl : 1 ≤ least) (h : EXp op least n F (i + 1)) (hi : i < n) (hb : BP (op i) (fun j => (F j).1) (fun j => (F j).2.1) i least (n - i + 1) (G i).1 (G i).2.1 (G i).2.2) (hg : ∀ j, i < j → G j = F j) : EXp op least n G i := by
  obtain ⟨h1, h2, h3⟩ := h
  refine ⟨by rw [hg n hi]; exact h1, by rw [hg n hi]; exact h2, fun j hj => ?_⟩
  by_cases e : j = i
  · subst e
    obtain ⟨b1, b2, b3⟩ := hb
    dsimp only at b1 b2 b3
    rw [hg (j + 1) (by omega)]
    refine ⟨?_, b2, fun s hs ho => ?_⟩
    · rcases b1 with b1 | b1
      · exact Or.inl b1
      · rw [hg (j + (G j).2.2) (by omega)]
        exact Or.inr ⟨by omega, by omega, b1.2⟩
    · rw [hg (j + s) (by omega)]
      exact b3 s (by omega) ho
  · obtain ⟨b1, b2, b3⟩ := h3 j (by omega)
    rw [hg j (by omega), hg (j + 1) (by omega)]
    refine ⟨?_, b2, fun s hs ho => ?_⟩
    · rcases b1 with b1 | b1
      · exact Or.inl b1
      · rw [hg (j + (F j).2.2) (by omega)]
        exact Or.inr b1
    · rw [hg (j + s) (by omega)]
      exact b3 s hs ho
theorem EXp_bd {op : Int → Int → Bool} {least n a : Int} {F : Int → Int × Int × Int} (hl : 1 ≤ least) (h : EXp op least n F a) : ∀ i, a ≤ i → i ≤ n → (0 ≤ (F i).1 ∧ (F i).1 ≤ n - i) ∧ (0 ≤ (F i).2.1 ∧ (F i).2.1 ≤ n - i) := by
  obtain ⟨h1, h2, h3⟩ := h
  have key : ∀ d : Nat, ∀ i, a ≤ i → i ≤ n → (n - i).toNat ≤ d → (0 ≤ (F i).1 ∧ (F i).1 ≤ n - i) ∧ (0 ≤ (F i).2.1 ∧ (F i).2.1 ≤ n - i) := by
    intro d
    induction d with
    | zero =>
      intro i a1 a2 a3
      rw [show i = n by omega, h1, h2]
      omega
    | succ d ih =>
      intro i a1 a2 a3
      by_cases e : i = n
      · rw [e, h1, h2]
        omega
      · rcases (h3 i (by omega)).1 with b | b
        · have := ih (i + 1) (by omega) (by omega) (by omega)
          omega
        · have := ih (i + (F i).2.2) (by omega) (by omega) (by omega)
          omega
  exact fun i a1 a2 => key _ i a1 a2 (Nat.le_refl _)
theorem EXp_EX {op : Int → Int → Bool} {least n : Int} {F : Int → Int × Int × Int} : EXp op least n F 0 ↔ EX op least n F := Iff.rfl
section EP
variable {P : Jg_} {L : Nat} {xs : Nat → Int32} {B : Mm_}
theorem opn_hi {x : Int} {S : Int → Bool} {i n : Int} (h : B 115 x < i + n ∨ n < lws B x 0) : opn B x S i n = false := by
  rw [Bool.eq_false_iff]
  intro g
  unfold opn at g
  rw [anyB_iff] at g
  obtain ⟨y, _, g⟩ := g
  rw [Bool.and_eq_true, rnB_no (by omega)] at g
  exact absurd g.2 (by decide)
theorem s_choose (hP : Clo P) {Q : Qp_} {M : Mm_} {x : Int} {i : Nat} {Sp : Int → Bool} (hR : WfR B) (hxb : B 115 x ≤ 60) (hi : (i : Int) < B 115 x) (h10 : M 47 10 = B 115 x) (h11 : M 47 11 = lws B x 0) (hb : ∀ j, (i : Int) < j → j ≤ B 115 x → (0 ≤ M 65 j ∧ M 65 j ≤ B 115 x - j) ∧ (0 ≤ M 66 j ∧ M 66 j ≤ B 115 x - j)) (k : ∀ M', Fr 65 67 M M' → (∀ j, j ≠ (i : Int) → M' 65 j = M 65 j ∧ M' 66 j = M 66 j ∧ M' 67 j = M 67 j) → BP (opn B x Sp i) (M 65) (M 66) i (lws B x 0) (B 115 x - i + 1) (M' 65 i) (M' 66 i) (M' 67 i) → Q none WF M') : P 136 0 [some (2, 64), some (0, (i : Int)), some (1, (mset (opn B x Sp i) 61 : Int)), none, none, none, none, none] [] WF M (0, 0) Q := by
  have lb := lws_bd hR x
  have e0 : ∀ j, j ≠ (i : Int) → (updM (updM (updM M 65 i (M 65 ((i : Int) + 1))) 66 i (M 66 ((i : Int) + 1))) 67 i 0) 65 j = M 65 j ∧ (updM (updM (updM M 65 i (M 65 ((i : Int) + 1))) 66 i (M 66 ((i : Int) + 1))) 67 i 0) 66 j = M 66 j ∧ (updM (updM (updM M 65 i (M 65 ((i : Int) + 1))) 66 i (M 66 ((i : Int) + 1))) 67 i 0) 67 j = M 67 j := fun j hj => by
    rw [upd_c (by decide), upd_c (by decide), upd_i hj, upd_c (by decide), upd_i hj, upd_c (by decide), upd_i hj, upd_c (by decide), upd_c (by decide)]
    exact ⟨rfl, rfl, rfl⟩
  have F0 : Fr 65 67 M (updM (updM (updM M 65 i (M 65 ((i : Int) + 1))) 66 i (M 66 ((i : Int) + 1))) 67 i 0) := ((Fr.u0 (by omega)).u (by omega)).u (by omega)
  have r1 : (updM (updM (updM M 65 i (M 65 ((i : Int) + 1))) 66 i (M 66 ((i : Int) + 1))) 67 i 0) 65 i = M 65 ((i : Int) + 1) := by rw [upd_c (by decide), upd_c (by decide), upd_s]
  have r2 : (updM (updM (updM M 65 i (M 65 ((i : Int) + 1))) 66 i (M 66 ((i : Int) + 1))) 67 i 0) 66 i = M 66 ((i : Int) + 1) := by rw [upd_c (by decide), upd_s]
  have r3 : (updM (updM (updM M 65 i (M 65 ((i : Int) + 1))) 66 i (M 66 ((i : Int) + 1))) 67 i 0) 67 i = 0 := upd_s _ _ _ _
  refine t_Explanation_choose_0 hP (fun q => ?_) (fun q => ?_)
  · rw [h11]
    have hend : ∀ s M', lws B x 0 ≤ s → B 115 x - i < s → (s ≤ B 115 x - i + 1 ∨ s = lws B x 0) → Fr 65 67 M M' → (∀ j, j ≠ (i : Int) → M' 65 j = M 65 j ∧ M' 66 j = M 66 j ∧ M' 67 j = M 67 j) → BP (opn B x Sp i) (M 65) (M 66) i (lws B x 0) s (M' 65 i) (M' 66 i) (M' 67 i) → P 136 34 [some (2, 64), some (0, (i : Int)), some (1, (mset (opn B x Sp i) 61 : Int)), none, some (0, s), none, none, none] [] WF M' (0, 0) Q := by
      intro s M' s1 s2 s3 F' g1 g2
      have h10' : M' 47 10 = B 115 x := by rw [F' 47 (by omega)]; exact h10
      refine t_Explanation_choose_34 hP (fun _ => k M' F' g1 ?_) (fun q => by omega) (fun q => by omega) (fun q => by omega) (fun q => by omega) (fun q => by omega) (fun q => by omega) (fun q => by omega) (fun q => by omega)
      by_cases e : s = B 115 x - i + 1
      · rw [← e]
        exact g2
      · have e2 : s = lws B x 0 := by omega
        obtain ⟨b1, b2, b3⟩ := g2
        refine ⟨?_, b2, fun z hz => by omega⟩
        rcases b1 with b1 | b1
        · exact Or.inl b1
        · omega
    by_cases hle : lws B x 0 ≤ B 115 x - i + 1
    · refine lpI (lo := lws B x 0) (n := B 115 x - i + 1) (f := fun s => ∀ M', Fr 65 67 M M' → (∀ j, j ≠ (i : Int) → M' 65 j = M 65 j ∧ M' 66 j = M 66 j ∧ M' 67 j = M 67 j) → BP (opn B x Sp i) (M 65) (M 66) i (lws B x 0) s (M' 65 i) (M' 66 i) (M' 67 i) → P 136 34 [some (2, 64), some (0, (i : Int)), some (1, (mset (opn B x Sp i) 61 : Int)), none, some (0, s), none, none, none] [] WF M' (0, 0) Q) ?_ ?_ (lws B x 0) (by omega) hle _ F0 e0 (by rw [r1, r2, r3]; exact BP_0 (Int.le_refl _))
      · intro M' F' g1 g2
        exact hend _ M' hle (by omega) (Or.inl (Int.le_refl _)) F' g1 g2
      · intro s s1 s2 ih M' F' g1 g2
        have h10' : M' 47 10 = B 115 x := by rw [F' 47 (by omega)]; exact h10
        have a1 := (g1 ((i : Int) + s) (by omega)).1
        have a2 := (g1 ((i : Int) + s) (by omega)).2.1
        have a3 := hb ((i : Int) + s) (by omega) (by omega)
        have a4 := hb ((i : Int) + 1) (by omega) (by omega)
        have tb : andL (ushrL (mset (opn B x Sp i) 61 : Int) s) 1 = if opn B x Sp i s = true then 1 else 0 := by
          have := tbL (a := mset (opn B x Sp i) 61) (k := s.toNat) (mset_le _ (n := 63) (by omega)) (by omega)
          rw [Int.toNat_of_nonneg (by omega), mset_tb, decide_eq_true (show s.toNat < 61 by omega), Bool.true_and, Int.toNat_of_nonneg (by omega)] at this
          exact this
        have tf : andL (ushrL (mset (opn B x Sp i) 61 : Int) s) 1 = 0 → opn B x Sp i s = false := fun h => by rw [tb, iteB] at h; exact h
        have tt : ¬ andL (ushrL (mset (opn B x Sp i) 61 : Int) s) 1 = 0 → opn B x Sp i s = true := fun h => by rw [tb, iteB, Bool.not_eq_false] at h; exact h
        have pb : (0 ≤ M' 66 i ∧ M' 66 i ≤ 60) ∧ (0 ≤ M' 65 i ∧ M' 65 i ≤ 60) := by
          rcases g2.1 with b | b
          · omega
          · have a5 := hb ((i : Int) + M' 67 i) (by omega) (by omega)
            omega
        have take : opn B x Sp i s = true → (M' 65 i < s + M 65 ((i : Int) + s) ∨ s + M 65 ((i : Int) + s) = M' 65 i ∧ 1 + M 66 ((i : Int) + s) ≤ M' 66 i) → P 136 34 [some (2, 64), some (0, (i : Int)), some (1, (mset (opn B x Sp i) 61 : Int)), none, some (0, s + 1), none, none, none] [] WF (updM (updM (updM M' 65 i (s + M' 65 ((i : Int) + s))) 66 i (1 + M' 66 ((i : Int) + s))) 67 i s) (0, 0) Q := fun ho hc => by
          rw [a1, a2]
          refine ih _ (((F'.u (by omega)).u (by omega)).u (by omega)) (fun j hj => ?_) ?_
          · rw [upd_c (by decide), upd_c (by decide), upd_i hj, upd_c (by decide), upd_i hj, upd_c (by decide), upd_i hj, upd_c (by decide), upd_c (by decide)]
            exact g1 j hj
          · rw [upd_s, upd_c (by decide), upd_c (by decide), upd_s, upd_c (by decide), upd_s]
            exact BP_take g2 s1 ho hc
        refine t_Explanation_choose_34 hP (fun q => by omega) (fun _ q1 q2 => ih M' F' g1 (BP_skip g2 (Or.inl (tf q2)))) (fun _ q1 q2 => take (tt q2) (by omega)) (fun _ q1 q2 q3 => ih M' F' g1 (BP_skip g2 (Or.inl (tf q3)))) (fun _ q1 q2 q3 => ih M' F' g1 (BP_skip g2 (Or.inr (by omega)))) (fun _ q1 q2 q3 q4 => ih M' F' g1 (BP_skip g2 (Or.inl (tf q4)))) (fun _ q1 q2 q3 q4 => ih M' F' g1 (BP_skip g2 (Or.inr (by omega)))) (fun _ q1 q2 q3 q4 => ih M' F' g1 (BP_skip g2 (Or.inl (tf q4)))) (fun _ q1 q2 q3 q4 => take (tt q4) (by omega))
    · exact hend _ _ (Int.le_refl _) (by omega) (Or.inr rfl) F0 e0 (by rw [r1, r2, r3]; exact BP_0 (Int.le_refl _))
  · refine k _ F0 e0 ?_
    rw [r1, r2, r3]
    refine ⟨Or.inl ⟨rfl, rfl, rfl⟩, Or.inr ⟨rfl, Int.le_refl _⟩, fun s hs ho => ?_⟩
    have z : mset (opn B x Sp i) 61 = 0 := by omega
    have t := mset_tb (opn B x Sp i) s.toNat 61
    rw [z, Nat.zero_testBit, decide_eq_true (show s.toNat < 61 by omega), Bool.true_and, Int.toNat_of_nonneg (by omega), ho] at t
    cases t
theorem s_weigh (hP : Clo P) {Q : Qp_} {M : Mm_} {x : Int} {Sp : Int → Bool} (hS : Sc B M) (hW : WfC L xs B) (hx : 0 ≤ x ∧ x < B 112 0) (hL : Lk B x M) (hSp : ∀ y, Sp y = true → alS B x y = true) (k : ∀ M', Fr 65 67 M M' → EX (opn B x Sp) (lws B x 0) (B 115 x) (fun j => (M' 65 j, M' 66 j, M' 67 j)) → Q (some (0, M' 65 0)) WF M') : P 137 0 [some (2, 64), some (0, (mset Sp 10 : Int)), none] [] WF M (0, 0) Q := by
  have lb := lws_bd hW.2.2.2 x
  have hT := hW.2.1.1.2.1
  have X := rdX hS hW.2.1 (x := x) (by omega)
  have f10 := hL.1.1
  have f11 := hL.1.2.1
  refine t_Explanation_weigh_0 hP ?_
  rw [f10]
  have F0 : Fr 65 67 M (updM (updM M 65 (B 115 x) 0) 66 (B 115 x) 0) := (Fr.u0 (by omega)).u (by omega)
  refine lpD (n := -1) (hi := B 115 x - 1) (f := fun i => ∀ M', Fr 65 67 M M' → EXp (opn B x Sp) (lws B x 0) (B 115 x) (fun j => (M' 65 j, M' 66 j, M' 67 j)) (i + 1) → P 137 20 [some (2, 64), some (0, (mset Sp 10 : Int)), some (0, i)] [] WF M' (0, 0) Q) ?_ ?_ (B 115 x - 1) (by omega) (by omega) _ F0 ?_
  · intro M' F' hE
    exact t_Explanation_weigh_20 hP (fun _ => k M' F' hE) (fun q => absurd (by decide) q)
  · intro i i1 i2 ih M' F' hE
    obtain ⟨i, rfl⟩ := Int.eq_ofNat_of_zero_le (show 0 ≤ i by omega)
    have hb := EXp_bd (by omega) hE
    refine t_Explanation_weigh_20 hP (fun q => by omega) (fun _ => ?_)
    have hL' : Lk B x M' := Lk_c hT hL fun c hc => F' c (by omega)
    refine s_sizesWithin hP (hS.fr F') hW.2.1 hL' (by omega) (by omega) hSp (t_Explanation_weigh_29 hP ?_)
    refine s_choose hP hW.2.2.2 (by omega) (by omega) hL'.1.1 hL'.1.2.1 (fun j j1 j2 => hb j (by omega) j2) fun M2 F2 g1 g2 => t_Explanation_weigh_30 hP ?_
    refine ih M2 (F'.trans F2) ?_
    rw [show (i : Int) + (-1) + 1 = i by omega]
    refine EXp_step (by omega) hE (by omega) g2 fun j hj => ?_
    obtain ⟨a1, a2, a3⟩ := g1 j (by omega)
    rw [a1, a2, a3]
  · refine ⟨?_, ?_, fun i hi => by omega⟩
    · show (updM (updM M 65 (B 115 x) 0) 66 (B 115 x) 0) 65 (B 115 x) = 0
      rw [upd_c (by decide), upd_s]
    · show (updM (updM M 65 (B 115 x) 0) 66 (B 115 x) 0) 66 (B 115 x) = 0
      rw [upd_s]
theorem s_explM (hP : Clo P) {Q : Qp_} {M : Mm_} {x k : Int} {Sp : Int → Bool} (hS : Sc B M) (hW : WfC L xs B) (hx : 0 ≤ x ∧ x < B 112 0) (h0 : M 129 0 = lws B x 0) (h131 : ∀ i n, 0 ≤ i ∧ i < 60 → 0 ≤ n ∧ n ≤ 60 → M 131 (61 * i + n) = (mset (fun y => srcB B x k y && rnB B x i y n) 10 : Int)) (hSp : ∀ y, Sp y = true → srcB B x k y = true) (kk : ∀ M', Fr 132 134 M M' → EX (opn B x Sp) (lws B x 0) (B 115 x) (fun j => (M' 132 j, M' 133 j, M' 134 j)) → Q none WF M') : P 141 0 [some (2, 112), some (0, x), some (0, (mset Sp 10 : Int)), none, none, none, none, none, none] [] WF M (0, 0) Q := by
  have lb := lws_bd hW.2.2.2 x
  have hT := hW.2.1.1.2.1
  have X := rdX hS hW.2.1 (x := x) (by omega)
  have n115 := X.2.2.1
  refine t_Mo_explain_0 hP ?_
  rw [n115]
  have F0 : Fr 132 134 M (updM (updM M 132 (B 115 x) 0) 133 (B 115 x) 0) := (Fr.u0 (by omega)).u (by omega)
  refine lpD (n := -1) (hi := B 115 x - 1) (f := fun i => ∀ M', Fr 132 134 M M' → EXp (opn B x Sp) (lws B x 0) (B 115 x) (fun j => (M' 132 j, M' 133 j, M' 134 j)) (i + 1) → P 141 19 [some (2, 112), none, some (0, (mset Sp 10 : Int)), some (0, B 115 x), some (0, i), none, none, none, none] [] WF M' (0, 0) Q) ?_ ?_ (B 115 x - 1) (by omega) (by omega) _ F0 ?_
  · intro M' F' hE
    exact t_Mo_explain_19 hP (fun _ => kk M' F' hE) (fun q => absurd (by decide) q)
  · intro i i1 i2 ih M0 F' hE
    obtain ⟨i, rfl⟩ := Int.eq_ofNat_of_zero_le (show 0 ≤ i by omega)
    have hb := EXp_bd (by omega) hE
    refine t_Mo_explain_19 hP (fun q => by omega) (fun _ => ?_)
    have fin : ∀ M2, Fr 132 134 M M2 → (∀ j, j ≠ (i : Int) → M2 132 j = M0 132 j ∧ M2 133 j = M0 133 j ∧ M2 134 j = M0 134 j) → BP (opn B x Sp i) (M0 132) (M0 133) i (lws B x 0) (B 115 x - i + 1) (M2 132 i) (M2 133 i) (M2 134 i) → P 141 19 [some (2, 112), none, some (0, (mset Sp 10 : Int)), some (0, B 115 x), some (0, (i : Int) + (-1)), none, none, none, none] [] WF M2 (0, 0) Q := by
      intro M2 F2 g1 g2
      refine ih M2 F2 ?_
      rw [show (i : Int) + (-1) + 1 = i by omega]
      refine EXp_step (by omega) hE (by omega) g2 fun j hj => ?_
      obtain ⟨a1, a2, a3⟩ := g1 j (by omega)
      rw [a1, a2, a3]
    have ent : ∀ s M2, s < lws B x 0 → Fr 132 134 M M2 → (∀ j, j ≠ (i : Int) → M2 132 j = M0 132 j ∧ M2 133 j = M0 133 j ∧ M2 134 j = M0 134 j) → BP (opn B x Sp i) (M0 132) (M0 133) i (lws B x 0) (B 115 x - i + 1) (M2 132 i) (M2 133 i) (M2 134 i) → P 141 50 [some (2, 112), none, some (0, (mset Sp 10 : Int)), some (0, B 115 x), some (0, (i : Int)), some (0, s), none, none, none] [] WF M2 (0, 0) Q := by
      intro s M2 s1 F2 g1 g2
      have p0 : M2 129 0 = lws B x 0 := by rw [F2 129 (by omega)]; exact h0
      exact t_Mo_explain_50 hP (fun _ => fin M2 F2 g1 g2) (fun q => by omega) (fun q => by omega) (fun q => by omega) (fun q => by omega) (fun q => by omega) (fun q => by omega)
    have e0 : ∀ j, j ≠ (i : Int) → (updM (updM (updM M0 132 i (M0 132 ((i : Int) + 1))) 133 i (M0 133 ((i : Int) + 1))) 134 i 0) 132 j = M0 132 j ∧ (updM (updM (updM M0 132 i (M0 132 ((i : Int) + 1))) 133 i (M0 133 ((i : Int) + 1))) 134 i 0) 133 j = M0 133 j ∧ (updM (updM (updM M0 132 i (M0 132 ((i : Int) + 1))) 133 i (M0 133 ((i : Int) + 1))) 134 i 0) 134 j = M0 134 j := fun j hj => by
      rw [upd_c (by decide), upd_c (by decide), upd_i hj, upd_c (by decide), upd_i hj, upd_c (by decide), upd_i hj, upd_c (by decide), upd_c (by decide)]
      exact ⟨rfl, rfl, rfl⟩
    have F1 : Fr 132 134 M (updM (updM (updM M0 132 i (M0 132 ((i : Int) + 1))) 133 i (M0 133 ((i : Int) + 1))) 134 i 0) := ((F'.u (by omega)).u (by omega)).u (by omega)
    have r1 : (updM (updM (updM M0 132 i (M0 132 ((i : Int) + 1))) 133 i (M0 133 ((i : Int) + 1))) 134 i 0) 132 i = M0 132 ((i : Int) + 1) := by rw [upd_c (by decide), upd_c (by decide), upd_s]
    have r2 : (updM (updM (updM M0 132 i (M0 132 ((i : Int) + 1))) 133 i (M0 133 ((i : Int) + 1))) 134 i 0) 133 i = M0 133 ((i : Int) + 1) := by rw [upd_c (by decide), upd_s]
    have r3 : (updM (updM (updM M0 132 i (M0 132 ((i : Int) + 1))) 133 i (M0 133 ((i : Int) + 1))) 134 i 0) 134 i = 0 := upd_s _ _ _ _
    by_cases hle : lws B x 0 - 1 ≤ B 115 x - i
    · refine lpD (n := lws B x 0 - 1) (hi := B 115 x - i) (f := fun s => ∀ M2, Fr 132 134 M M2 → (∀ j, j ≠ (i : Int) → M2 132 j = M0 132 j ∧ M2 133 j = M0 133 j ∧ M2 134 j = M0 134 j) → BP (opn B x Sp i) (M0 132) (M0 133) i (s + 1) (B 115 x - i + 1) (M2 132 i) (M2 133 i) (M2 134 i) → P 141 50 [some (2, 112), none, some (0, (mset Sp 10 : Int)), some (0, B 115 x), some (0, (i : Int)), some (0, s), none, none, none] [] WF M2 (0, 0) Q) ?_ ?_ (B 115 x - i) hle (Int.le_refl _) _ F1 e0 (by rw [r1, r2, r3]; exact BP_0 (Int.le_refl _))
      · intro M2 F2 g1 g2
        rw [show lws B x 0 - 1 + 1 = lws B x 0 by omega] at g2
        exact ent _ M2 (by omega) F2 g1 g2
      · intro s s1 s2 ihs M2 F2 g1 g2
        rw [show s + (-1) + 1 = s by omega] at ihs
        have p0 : M2 129 0 = lws B x 0 := by rw [F2 129 (by omega)]; exact h0
        have a1 := (g1 ((i : Int) + s) (by omega)).1
        have a2 := (g1 ((i : Int) + s) (by omega)).2.1
        have a3 := hb ((i : Int) + s) (by omega) (by omega)
        have a4 := hb ((i : Int) + 1) (by omega) (by omega)
        dsimp only at a3 a4
        have tb : (andI (M2 131 (61 * (i : Int) + s)) (mset Sp 10 : Int) = 0) ↔ opn B x Sp i s = false := by
          rw [F2 131 (by omega), h131 i s (by omega) (by omega), andI_n _ (mset_le _ (n := 31) (by omega)), Int.natCast_eq_zero]
          constructor
          · intro h
            rw [Bool.eq_false_iff]
            intro g
            unfold opn at g
            rw [anyB_iff] at g
            obtain ⟨y, y1, y2⟩ := g
            rw [Bool.and_eq_true] at y2
            have := congrArg (fun z => Nat.testBit z y) h
            simp only [Nat.testBit_and, mset_tb, Nat.zero_testBit, decide_eq_true y1, Bool.true_and, y2.1, y2.2, hSp _ y2.1] at this
            cases this
          · intro h
            apply Nat.eq_of_testBit_eq
            intro y
            rw [Nat.testBit_and, mset_tb, mset_tb, Nat.zero_testBit, Bool.eq_false_iff]
            intro g
            rw [Bool.and_eq_true, Bool.and_eq_true, Bool.and_eq_true, Bool.and_eq_true, decide_eq_true_iff] at g
            rw [Bool.eq_false_iff] at h
            apply h
            unfold opn
            rw [anyB_iff]
            exact ⟨y, g.1.1, by rw [g.2.2, g.1.2.2]; rfl⟩
        have tt : ¬ andI (M2 131 (61 * (i : Int) + s)) (mset Sp 10 : Int) = 0 → opn B x Sp i s = true := fun h => by rw [tb, Bool.not_eq_false] at h; exact h
        have pb : (0 ≤ M2 133 i ∧ M2 133 i ≤ 60) ∧ (0 ≤ M2 132 i ∧ M2 132 i ≤ 60) := by
          rcases g2.1 with b | b
          · omega
          · have a5 := hb ((i : Int) + M2 134 i) (by omega) (by omega)
            dsimp only at a5
            omega
        have take : opn B x Sp i s = true → (M2 132 i < s + M0 132 ((i : Int) + s) ∨ s + M0 132 ((i : Int) + s) = M2 132 i ∧ 1 + M0 133 ((i : Int) + s) < M2 133 i ∨ s + M0 132 ((i : Int) + s) = M2 132 i ∧ 1 + M0 133 ((i : Int) + s) = M2 133 i ∧ M2 134 i = 0) → P 141 50 [some (2, 112), none, some (0, (mset Sp 10 : Int)), some (0, B 115 x), some (0, (i : Int)), some (0, s + (-1)), none, none, none] [] WF (updM (updM (updM M2 132 i (s + M2 132 ((i : Int) + s))) 133 i (1 + M2 133 ((i : Int) + s))) 134 i s) (0, 0) Q := fun ho hc => by
          rw [a1, a2]
          refine ihs _ (((F2.u (by omega)).u (by omega)).u (by omega)) (fun j hj => ?_) ?_
          · rw [upd_c (by decide), upd_c (by decide), upd_i hj, upd_c (by decide), upd_i hj, upd_c (by decide), upd_i hj, upd_c (by decide), upd_c (by decide)]
            exact g1 j hj
          · rw [upd_s, upd_c (by decide), upd_c (by decide), upd_s, upd_c (by decide), upd_s]
            exact BP_dtake (by omega) g2 (by omega) ho hc
        have skip := fun h => ihs M2 F2 g1 (BP_dskip (by omega) g2 h)
        have mid : ¬ M2 132 i < s + M2 132 ((i : Int) + s) → ¬ (s + M2 132 ((i : Int) + s) = M2 132 i ∧ 1 + M2 133 ((i : Int) + s) < M2 133 i) → P 141 92 [some (2, 112), none, some (0, (mset Sp 10 : Int)), some (0, B 115 x), some (0, (i : Int)), some (0, s), some (0, s + M2 132 ((i : Int) + s)), some (0, 1 + M2 133 ((i : Int) + s)), none] [] WF M2 (0, 0) Q := fun m1 m2 =>
          t_Mo_explain_92 hP (fun q1 q2 => skip (Or.inl (tb.mp q2))) (fun q1 q2 => skip (Or.inr (by omega))) (fun q1 q2 q3 => skip (Or.inl (tb.mp q3))) (fun q1 q2 q3 => skip (Or.inr (by omega))) (fun q1 q2 q3 q4 => skip (Or.inl (tb.mp q4))) (fun q1 q2 q3 q4 => skip (Or.inr (by omega))) (fun q1 q2 q3 q4 => skip (Or.inl (tb.mp q4))) (fun q1 q2 q3 q4 => take (tt q4) (by omega))
        exact t_Mo_explain_50 hP (fun q => by omega) (fun _ q1 q2 => skip (Or.inl (tb.mp q2))) (fun _ q1 q2 => take (tt q2) (by omega)) (fun _ q1 q2 => mid q1 (by omega)) (fun _ q1 q2 q3 q4 => skip (Or.inl (tb.mp q4))) (fun _ q1 q2 q3 q4 => take (tt q4) (by omega)) (fun _ q1 q2 q3 => mid q1 (by omega))
    · refine ent _ _ (by omega) F1 e0 ?_
      rw [r1, r2, r3]
      exact BP_0 (by omega)
  · refine ⟨?_, ?_, fun i hi => by omega⟩
    · show (updM (updM M 132 (B 115 x) 0) 133 (B 115 x) 0) 132 (B 115 x) = 0
      rw [upd_c (by decide), upd_s]
    · show (updM (updM M 132 (B 115 x) 0) 133 (B 115 x) 0) 133 (B 115 x) = 0
      rw [upd_s]
end EP
