/-! RUNS: lookAt, what is asked of them -/
theorem alS_bd {B : Mm_} {x y : Int} (h : alS B x y = true) : 0 ≤ y ∧ y < B 112 0 := by
  unfold alS srcB at h
  rw [decide_eq_true_iff] at h
  omega
theorem srcB_al {B : Mm_} {x k y : Int} (hk : k ≤ B 112 0) (h : srcB B x k y = true) : alS B x y = true := by
  unfold alS
  unfold srcB at h ⊢
  rw [decide_eq_true_iff] at h ⊢
  omega
theorem anyB_ext {p : Int → Bool} {n : Nat} : ∀ {N : Nat}, n ≤ N → (∀ k : Nat, n ≤ k → k < N → p k = false) → anyB p N = anyB p n
  | 0, h, _ => by rw [show n = 0 by omega]
  | N + 1, h, g => by
    by_cases e : n = N + 1
    · rw [e]
    · rw [anyB_s, g N (by omega) (by omega), anyB_ext (by omega) (fun k h1 h2 => g k h1 (by omega)), Bool.or_false]
theorem iteB {b : Bool} : ((if b = true then (1 : Int) else 0) = 0) ↔ b = false := by
  cases b <;> simp
section RY
variable {P : Jg_} {L : Nat} {xs : Nat → Int32} {B : Mm_}
theorem s_lookAt (hP : Clo P) {Q : Qp_} {M : Mm_} {x : Int} (hS : Sc B M) (hW : WfC L xs B) (hx : 0 ≤ x ∧ x < B 112 0) (hC : M 47 9 = -1 ∨ ((0 ≤ M 47 9 ∧ M 47 9 < B 112 0) ∧ Lk B (M 47 9) M)) (k : ∀ M', Fr 47 63 M M' → M' 47 9 = x → Lk B x M' → Q none WF M') : P 126 0 [some (2, 47), some (0, x), none, none, none, none] [] WF M (0, 0) Q := by
  obtain ⟨t0, t1, t2⟩ := rdT hS hW.2.1
  have X := rdX hS hW.2.1 (x := x) (by omega)
  refine t_Runs_lookAt_0 hP (fun q => ?_) (fun q => ?_)
  · refine s_takeUp hP hS hW hx fun M1 u1 u2 hL => t_Runs_lookAt_8 hP ?_
    have F1 : Fr 47 63 M M1 := fun c hc => u1 c (by omega) (by omega) (by omega)
    have hS1 := hS.fr F1
    have h11 : M1 1 1 = B 112 0 := (rdT hS1 hW.2.1).2.2
    rw [h11]
    refine s_sourceSet hP hS1 hW hx (by omega) (t_Runs_lookAt_14 hP ?_)
    obtain ⟨S, hSs⟩ : ∃ S, S = srS B x (B 112 0) := ⟨_, rfl⟩
    rw [← hSs]
    have Sb : S < 1024 := by rw [hSs]; exact srS_lt _ _ _
    have St : ∀ y : Nat, y < 10 → S.testBit y = alS B x y := fun y hy => by
      rw [hSs, srS_tb, decide_eq_true hy, Bool.true_and]
      rfl
    refine lpN (n := (B 112 0).toNat) (f := fun y : Nat => ∀ M', Fr 47 63 M M' → Lb B x M' → (∀ z i, 0 ≤ z ∧ z < (y : Int) → 0 ≤ i ∧ i < B 115 x → M' (49 + z) i = (mset (fun n => alS B x z && rnB B x i z n) 61 : Int)) → P 126 17 [some (2, 47), some (0, x), some (0, (S : Int)), some (0, (y : Int)), none, none] [] WF M' (0, 0) Q) ?_ ?_ 0 (Nat.zero_le _) M1 F1 hL (fun z i hz => by omega)
    · intro M' F' hL' hs
      have h11' : M' 1 1 = B 112 0 := (rdT (hS.fr F') hW.2.1).2.2
      refine t_Runs_lookAt_17 hP (fun _ => ?_) (fun q => by omega) (fun q => by omega)
      refine k _ (F'.u (by omega)) (upd_s _ _ _ _) ⟨?_, ?_, ?_, ?_⟩
      · rw [upd_i (by decide), upd_i (by decide), upd_i (by decide), upd_i (by decide), upd_i (by decide)]
        exact hL'.1
      · rw [upd_r (by decide)]
        exact hL'.2.1
      · rw [upd_r (by decide)]
        exact hL'.2.2
      · intro y i hy hi
        rw [upd_c (by omega)]
        exact hs y i (by omega) hi
    · intro y hy ih M' F' hL' hs
      have hS' := hS.fr F'
      have h11' : M' 1 1 = B 112 0 := (rdT hS' hW.2.1).2.2
      have Y := rdX hS hW.2.1 (x := y) (by omega)
      -- the inner loop
      have inner : ∀ b : Int, (b = 0 ∧ alS B x y = false ∨ b = 1 ∧ alS B x y = true) → ∀ M2, Fr 47 63 M M2 → Lb B x M2 → (∀ z i, 0 ≤ z ∧ z < (y : Int) → 0 ≤ i ∧ i < B 115 x → M2 (49 + z) i = (mset (fun n => alS B x z && rnB B x i z n) 61 : Int)) → (b = 1 → ∀ q : Nat, (q : Int) < B 115 x → M2 62 q = (mset (lkP B (lws B x 2) x y q) 60 : Int)) → P 126 37 [some (2, 47), some (0, x), some (0, (S : Int)), some (0, (y : Int)), some (0, b), none] [] WF M2 (0, 0) Q := by
        intro b hb M2 F2 hL2 hs2 h62
        refine t_Runs_lookAt_37 hP ?_
        refine lpN (n := (B 115 x).toNat) (f := fun i : Nat => ∀ M3, Fr 47 63 M M3 → Lb B x M3 → (∀ z i, 0 ≤ z ∧ z < (y : Int) → 0 ≤ i ∧ i < B 115 x → M3 (49 + z) i = (mset (fun n => alS B x z && rnB B x i z n) 61 : Int)) → (b = 1 → ∀ q : Nat, (q : Int) < B 115 x → M3 62 q = (mset (lkP B (lws B x 2) x y q) 60 : Int)) → (∀ q, 0 ≤ q ∧ q < (i : Int) → M3 (49 + (y : Int)) q = (mset (fun n => alS B x y && rnB B x q y n) 61 : Int)) → P 126 39 [some (2, 47), some (0, x), some (0, (S : Int)), some (0, (y : Int)), some (0, b), some (0, (i : Int))] [] WF M3 (0, 0) Q) ?_ ?_ 0 (Nat.zero_le _) M2 F2 hL2 hs2 h62 (fun q hq => by omega)
        · intro M3 F3 hL3 hs3 _ hy3
          have h10 : M3 47 10 = B 115 x := hL3.1.1
          refine t_Runs_lookAt_39 hP (fun _ => ih M3 F3 hL3 fun z i hz hi => ?_) (fun q => by omega) (fun q => by omega)
          by_cases e : z = y
          · rw [e]
            exact hy3 i (by omega)
          · exact hs3 z i (by omega) hi
        · intro i hi ihi M3 F3 hL3 hs3 h623 hy3
          have h10 : M3 47 10 = B 115 x := hL3.1.1
          refine t_Runs_lookAt_39 hP (fun q => by omega) (fun _ q => ?_) (fun _ q => ?_)
          · refine ihi _ (F3.u (by omega)) (hL3.c (upd_r (by omega) _ _) (upd_r (by omega) _ _) (upd_r (by omega) _ _)) (fun z j hz hj => by rw [upd_c (by omega)]; exact hs3 z j hz hj) (fun h => by omega) (fun j hj => ?_)
            by_cases e : j = i
            · rw [e, upd_s, mset_zero fun n _ => by
                rw [hb.elim (fun h => h.2) (fun h => by omega)]
                rfl]
              rfl
            · rw [upd_i e]
              exact hy3 j (by omega)
          · have b1 : b = 1 ∧ alS B x y = true := hb.elim (fun h => absurd h.1 q) id
            refine s_sizesAt hP hW.2.2.2 (by omega) (by omega) hL3 (by omega) (h623 b1.1) fun M4 F4 => t_Runs_lookAt_53 hP ⟨y, by omega, by omega⟩ ?_
            refine ihi _ ((F3.trans (F4.mono (by omega))).u (by omega)) (hL3.c ((upd_r (by omega) _ _).trans (F4 _ (by omega))) ((upd_r (by omega) _ _).trans (F4 _ (by omega))) ((upd_r (by omega) _ _).trans (F4 _ (by omega)))) (fun z j hz hj => by rw [upd_c (by omega), F4 _ (by omega)]; exact hs3 z j hz hj) (fun h j hj => by rw [upd_c (by omega), F4 _ (by omega)]; exact h623 h j hj) (fun j hj => ?_)
            by_cases e : j = i
            · rw [e, upd_s, b1.2]
              simp only [Bool.true_and]
            · rw [upd_i e, F4 _ (by omega)]
              exact hy3 j (by omega)
      refine t_Runs_lookAt_17 hP (fun q => by omega) (fun _ q => ?_) (fun _ q => ?_)
      · rw [tbI (by omega) (by omega), iteB, St y (by omega)] at q
        exact inner 0 (Or.inl ⟨rfl, q⟩) M' F' hL' hs (fun h => by omega)
      · rw [tbI (by omega) (by omega), iteB, St y (by omega), Bool.not_eq_false] at q
        refine s_holdAgainst hP hS' hW hx (by omega) hL' fun M2 F2 h62 => ?_
        exact inner 1 (Or.inr ⟨rfl, q⟩) M2 (F'.trans (F2.mono (by omega))) (hL'.c (F2 _ (by omega)) (F2 _ (by omega)) (F2 _ (by omega))) (fun z i hz hi => by rw [F2 _ (by omega)]; exact hs z i hz hi) (fun _ => h62)
  · rcases hC with h | ⟨h1, h2⟩
    · omega
    · rw [q] at h2
      exact k M (Fr.refl _ _ _) q h2
theorem row_tb {M : Mm_} {x : Int} (hL : Lk B x M) {y i n : Nat} (hy : (y : Int) < B 112 0) (hi : (i : Int) < B 115 x) (hn : n < 61) : andL (ushrL (M (49 + (y : Int)) i) n) 1 = if (alS B x y && rnB B x i y n) = true then 1 else 0 := by
  rw [hL.2.2.2 y i (by omega) (by omega), tbL (mset_le _ (n := 63) (by omega)) (by omega), mset_tb, decide_eq_true hn, Bool.true_and]
theorem s_sizesWithin (hP : Clo P) {Q : Qp_} {M : Mm_} {x : Int} {i : Nat} {Sp : Int → Bool} (hS : Sc B M) (hT : WfT B) (hL : Lk B x M) (hi : (i : Int) < B 115 x) (hi6 : i < 60) (hSp : ∀ y, Sp y = true → alS B x y = true) (k : Q (some (1, (mset (opn B x Sp i) 61 : Int))) WF M) : P 128 0 [some (2, 47), some (0, (i : Int)), some (0, (mset Sp 10 : Int)), none, none, none] [] WF M (0, 0) Q := by
  obtain ⟨t0, t1, t2⟩ := rdT hS hT
  refine t_Runs_sizesWithin_0 hP ?_
  refine lpN (n := (B 112 0).toNat) (f := fun y : Nat => P 128 4 [some (2, 47), some (0, (i : Int)), some (0, (mset Sp 10 : Int)), some (1, (mset (fun n => anyB (fun z => Sp z && rnB B x i z n) y) 61 : Int)), none, some (0, (y : Int))] [] WF M (0, 0) Q) ?_ ?_ 0 (Nat.zero_le _)
  · refine t_Runs_sizesWithin_4 hP (fun _ => ?_) (fun q => by omega) (fun q => by omega)
    have : mset (fun n => anyB (fun z => Sp z && rnB B x i z n) (B 112 0).toNat) 61 = mset (opn B x Sp i) 61 := mset_cong fun n _ => by
      unfold opn
      rw [anyB_ext (n := (B 112 0).toNat) (N := 10) (by omega) fun z h1 h2 => ?_]
      rw [Bool.and_eq_false_iff]
      left
      rw [Bool.eq_false_iff]
      intro h
      have := alS_bd (hSp _ h)
      omega
    rw [this]
    exact k
  · intro y hy ih
    refine t_Runs_sizesWithin_4 hP (fun q => by omega) (fun _ q => ?_) (fun _ q => ?_)
    · rw [tbI (mset_le _ (n := 31) (by omega)) (by omega), iteB, mset_tb, decide_eq_true (show y < 10 by omega), Bool.true_and] at q
      have : mset (fun n => anyB (fun z => Sp z && rnB B x i z n) (y + 1)) 61 = mset (fun n => anyB (fun z => Sp z && rnB B x i z n) y) 61 := mset_cong fun n _ => by
        rw [anyB_s, q, Bool.false_and, Bool.or_false]
      rw [this] at ih
      exact ih
    · rw [tbI (mset_le _ (n := 31) (by omega)) (by omega), iteB, mset_tb, decide_eq_true (show y < 10 by omega), Bool.true_and, Bool.not_eq_false] at q
      rw [hL.2.2.2 y i (by omega) (by omega), orL_n (mset_le _ (n := 63) (by omega)) (mset_le _ (n := 63) (by omega))]
      have : mset (fun n => anyB (fun z => Sp z && rnB B x i z n) y) 61 ||| mset (fun n => alS B x y && rnB B x i y n) 61 = mset (fun n => anyB (fun z => Sp z && rnB B x i z n) (y + 1)) 61 := mset_eq fun n => by
        rw [Nat.testBit_or, mset_tb, mset_tb, anyB_s, q, hSp _ q, Bool.true_and, ← Bool.and_or_distrib_left]
      rw [this]
      exact ih
/-- the greatest size of a run that begins here -/
noncomputable def grN (B : Mm_) (x : Int) (S : Int → Bool) (i : Int) : Nat → Int
  | 0 => 0
  | n + 1 => if opn B x S i ((n + 1 : Nat) : Int) = true then ((n + 1 : Nat) : Int) else grN B x S i n
theorem s_longestAt (hP : Clo P) {Q : Qp_} {M : Mm_} {x : Int} {i : Nat} {Sp : Int → Bool} (hS : Sc B M) (hT : WfT B) (hL : Lk B x M) (hi : (i : Int) < B 115 x) (hxb : B 115 x ≤ 60) (hSp : ∀ y, Sp y = true → alS B x y = true) (k : Q (some (0, grN B x Sp i (B 115 x - i).toNat)) WF M) : P 129 0 [some (2, 47), some (0, (i : Int)), some (0, (mset Sp 10 : Int)), none, none, none] [] WF M (0, 0) Q := by
  have f10 := hL.1.1
  refine t_Runs_longestAt_0 hP (s_sizesWithin hP hS hT hL hi (by omega) hSp (t_Runs_longestAt_4 hP ?_))
  rw [hL.1.1]
  have key : ∀ n : Nat, n ≤ 60 → (∀ r, r = grN B x Sp i n → Q (some (0, r)) WF M) → P 129 10 [none, none, none, some (1, (mset (opn B x Sp i) 61 : Int)), none, some (0, (n : Int))] [] WF M (0, 0) Q := by
    intro n
    induction n with
    | zero =>
      intro _ kk
      refine t_Runs_longestAt_10 hP (fun _ => kk _ rfl) (fun q => absurd (by decide) q) (fun q => absurd (by decide) q)
    | succ n ih =>
      intro hn kk
      have tb := tbL (a := mset (opn B x Sp i) 61) (k := n + 1) (mset_le _ (n := 63) (by omega)) (by omega)
      rw [mset_tb, decide_eq_true (show n + 1 < 61 by omega), Bool.true_and] at tb
      refine t_Runs_longestAt_10 hP (fun q => by omega) (fun _ q => ?_) (fun _ q => ?_)
      · rw [tb, iteB, Bool.not_eq_false] at q
        refine kk _ ?_
        unfold grN
        rw [if_pos q]
        unfold maxI
        rw [if_neg (by omega)]
      · rw [tb, iteB] at q
        rw [show ((n + 1 : Nat) : Int) + (-1) = (n : Int) by omega]
        refine ih (by omega) fun r hr => kk r ?_
        unfold grN
        rw [if_neg (by rw [q]; decide)]
        exact hr
  rw [show B 115 x - (i : Int) = ((B 115 x - i).toNat : Int) by omega]
  refine key _ (by omega) fun r hr => ?_
  rw [hr]
  exact k
theorem s_firstSource (hP : Clo P) {Q : Qp_} {M : Mm_} {x : Int} {i n : Nat} {Sp : Int → Bool} (hS : Sc B M) (hT : WfT B) (hL : Lk B x M) (hi : (i : Int) < B 115 x) (hi6 : i < 60) (hn : n < 61) (hSp : ∀ y, Sp y = true → alS B x y = true) (k : Q (some (0, frY B x Sp i n)) WF M) : P 130 0 [some (2, 47), some (0, (i : Int)), some (0, (n : Int)), some (0, (mset Sp 10 : Int)), none] [] WF M (0, 0) Q := by
  obtain ⟨t0, t1, t2⟩ := rdT hS hT
  refine t_Runs_firstSource_0 hP ?_
  refine lpN (n := (B 112 0).toNat) (f := fun y : Nat => (∀ z : Nat, z < y → (Sp z && rnB B x i z n) = false) → P 130 2 [some (2, 47), some (0, (i : Int)), some (0, (n : Int)), some (0, (mset Sp 10 : Int)), some (0, (y : Int))] [] WF M (0, 0) Q) ?_ ?_ 0 (Nat.zero_le _) (fun z hz => by omega)
  · intro h
    refine t_Runs_firstSource_2 hP (fun _ => ?_) (fun q => by omega) (fun q => by omega) (fun q => by omega)
    have : frY B x Sp i n = -1 := fstB_none fun z hz => by
      by_cases e : z < (B 112 0).toNat
      · exact h z e
      · rw [Bool.and_eq_false_iff]
        left
        rw [Bool.eq_false_iff]
        intro h
        have := alS_bd (hSp _ h)
        omega
    rw [this] at k
    exact k
  · intro y hy ih h
    have tb := row_tb hL (y := y) (i := i) (n := n) (by omega) hi hn
    have ts : andI (ushrI (mset Sp 10 : Int) (y : Int)) 1 = if Sp y = true then 1 else 0 := by
      rw [tbI (mset_le _ (n := 31) (by omega)) (by omega), mset_tb, decide_eq_true (show y < 10 by omega), Bool.true_and]
    refine t_Runs_firstSource_2 hP (fun q => by omega) (fun _ q => ih fun z hz => ?_) (fun _ q1 q2 => ih fun z hz => ?_) (fun _ q1 q2 => ?_)
    · by_cases e : z = y
      · rw [ts, iteB] at q
        rw [e, q]
        rfl
      · exact h z (by omega)
    · by_cases e : z = y
      · rw [ts, iteB, Bool.not_eq_false] at q1
        rw [tb, iteB, hSp _ q1, Bool.true_and] at q2
        rw [e, q2, Bool.and_false]
      · exact h z (by omega)
    · rw [ts, iteB, Bool.not_eq_false] at q1
      rw [tb, iteB, hSp _ q1, Bool.true_and, Bool.not_eq_false] at q2
      have : frY B x Sp i n = y := fstB_eq (by omega) (by rw [q1, q2]; rfl) fun j j0 j1 => by
        have := h j.toNat (by omega)
        rwa [Int.toNat_of_nonneg j0] at this
      rw [this] at k
      exact k
theorem s_leastPlace (hP : Clo P) {Q : Qp_} {M : Mm_} {x y : Int} {i n : Nat} (hS : Sc B M) (hW : WfC L xs B) (hx : 0 ≤ x ∧ x < B 112 0) (hy : 0 ≤ y ∧ y < B 112 0) (hL : Lk B x M) (hin : (i : Int) + n ≤ B 115 x) (hr : rnB B x i y n = true) (k : ∀ M', Fr 61 63 M M' → Q (some (0, frJ B x i y n)) WF M') : P 131 0 [some (2, 47), some (0, y), some (0, (i : Int)), some (0, (n : Int)), none, none, none] [] WF M (0, 0) Q := by
  obtain ⟨t0, t1, t2⟩ := rdT hS hW.2.1
  have X := rdX hS hW.2.1 (x := x) (by omega)
  have Y := rdX hS hW.2.1 (x := y) (by omega)
  have lb := lws_bd hW.2.2.2 x
  have hn2 : 2 ≤ n := by
    by_cases h : 2 ≤ n
    · exact h
    · rw [rnB_no (by omega)] at hr
      cases hr
  refine t_Runs_leastPlace_0 hP (fun q => by omega) (fun _ q => by omega) (fun _ _ => ?_)
  refine s_holdAgainst hP hS hW hx hy hL.b fun M1 F1 h62 => t_Runs_leastPlace_10 hP (s_begin hP (by omega) fun M2 F2 b0 b1 b2 b3 => t_Runs_leastPlace_13 hP ?_)
  rw [h62 i (by omega)] at b0
  have F2' : Fr 61 63 M M2 := (F1.mono (by omega)).trans (F2.mono (by omega))
  have sc : ∀ (E : Nat) (M' : Mm_), Fr 61 63 M M' → E < 2 ^ 60 → (∀ j : Nat, E.testBit j = true ↔ j < 60 ∧ isR B (lws B x) x i y j n = true) → P 131 29 [some (2, 47), some (0, y), none, none, some (1, (E : Int)), none, some (0, 0)] [] WF M' (0, 0) Q := by
    intro E M' F' hE hEb
    have h4 : M' (3 + 2 * y) 4 = B 115 y := by rw [F' _ (by omega)]; exact Y.2.2.2.1
    refine lpN (n := (B 115 y).toNat) (f := fun j : Nat => (∀ z : Nat, z < j → isR B (lws B x) x i y z n = false) → P 131 29 [some (2, 47), some (0, y), none, none, some (1, (E : Int)), none, some (0, (j : Int))] [] WF M' (0, 0) Q) ?_ ?_ 0 (Nat.zero_le _) (fun z hz => by omega)
    · intro h
      exfalso
      unfold rnB at hr
      rw [anyB_iff] at hr
      obtain ⟨j, j1, j2⟩ := hr
      by_cases e : j < (B 115 y).toNat
      · rw [h j e] at j2
        cases j2
      · unfold isR at j2
        rw [decide_eq_true_iff] at j2
        omega
    · intro j hj ih h
      have tb := tbL (a := E) (k := j) (by omega) (by omega)
      refine t_Runs_leastPlace_29 hP (fun q => by omega) (fun _ q => ih fun z hz => ?_) (fun _ q => ?_)
      · by_cases e : z = j
        · rw [tb, iteB] at q
          rw [e, Bool.eq_false_iff]
          intro g
          rw [(hEb j).mpr ⟨by omega, g⟩] at q
          cases q
        · exact h z (by omega)
      · rw [tb, iteB, Bool.not_eq_false] at q
        have : frJ B x i y n = j := fstB_eq (by omega) ((hEb j).mp q).2 fun z z0 z1 => by
          have := h z.toNat (by omega)
          rwa [Int.toNat_of_nonneg z0] at this
        have k := k M' F'
        rw [this] at k
        exact k
  have lp := lpN (n := n) (f := fun m : Nat => 2 ≤ m → ∀ M', Fr 61 63 M M' → (∀ q : Nat, (q : Int) < B 115 x → M' 62 q = (mset (lkP B (lws B x 2) x y q) 60 : Int)) → AL B (lws B x 2) (lws B x 1) x y i m M' → ∀ E : Nat, E < 2 ^ 60 → (∀ j : Nat, E.testBit j = true ↔ j < 60 ∧ lkP B (lws B x 2) x y i j = true ∧ lkP B (lws B x 2) x y ((i : Int) + m - 1) ((j : Int) + m - 1) = true ∧ (slE B (lws B x 2) x y i j m : Int) ≤ lws B x 1) → P 131 17 [some (2, 47), some (0, y), some (0, (i : Int)), some (0, (n : Int)), some (1, (E : Int)), none, some (0, (m : Int) + 1)] [] WF M' (0, 0) Q) ?_ ?_ 2 hn2 (Nat.le_refl _)
  · have f12 : M2 47 12 = lws B x 1 := by rw [F2' 47 (by omega)]; exact hL.1.2.2.1
    refine t_Runs_leastPlace_17 hP (fun q => by omega) (fun _ => ?_)
    have h62' : ∀ q : Nat, (q : Int) < B 115 x → M2 62 q = (mset (lkP B (lws B x 2) x y q) 60 : Int) := fun q hq => by rw [F2 62 (by omega)]; exact h62 q hq
    have A1 := AL_1 (B := B) (mean := lws B x 2) (sl := lws B x 1) (x := x) (y := y) (i := i) (M := M2) (by omega) b0 b1 b2 b3
    refine s_extend hP (m := 1) (by omega) (by omega) f12 (by omega) (by exact h62' (i + 1) (by omega)) A1 fun M3 E F3 A3 hE hEb => t_Runs_leastPlace_24 hP ?_
    refine lp M3 (F2'.trans (F3.mono (by omega))) (fun q hq => by rw [F3 62 (by omega)]; exact h62' q hq) A3 E hE fun j => ?_
    rw [hEb j, show (i : Int) + ((2 : Nat) : Int) - 1 = (i : Int) + ((1 : Nat) : Int) by omega, show (j : Int) + ((2 : Nat) : Int) - 1 = (j : Int) + ((1 : Nat) : Int) by omega]
  · intro m2 M' F' h62' A' E hE hEb
    refine t_Runs_leastPlace_17 hP (fun _ => sc E M' F' hE fun j => ?_) (fun q => by omega)
    rw [hEb j]
    refine and_congr_right fun h1 => ?_
    rw [isR_iff (by omega) hin]
    have hr2 := hr
    rw [rnB_iff (by omega) hin] at hr2
    obtain ⟨j', _, g1, g2, _⟩ := hr2
    exact ⟨fun h => ⟨g1, g2, h.1, h.2.1, h.2.2⟩, fun h => ⟨h.2.2.1, h.2.2.2.1, h.2.2.2.2⟩⟩
  · intro m hm ih m2 M' F' h62' A' E hE hEb
    have f12 : M' 47 12 = lws B x 1 := by rw [F' 47 (by omega)]; exact hL.1.2.2.1
    refine t_Runs_leastPlace_17 hP (fun q => by omega) (fun _ => ?_)
    refine s_extend hP (by omega) (by omega) f12 (by omega) (by exact h62' (i + m) (by omega)) A' fun M3 E3 F3 A3 hE3 hEb3 => t_Runs_leastPlace_24 hP ?_
    refine ih (by omega) M3 (F'.trans (F3.mono (by omega))) (fun q hq => by rw [F3 62 (by omega)]; exact h62' q hq) A3 E3 hE3 fun j => ?_
    rw [hEb3 j, show (i : Int) + ((m + 1 : Nat) : Int) - 1 = (i : Int) + m by omega, show (j : Int) + ((m + 1 : Nat) : Int) - 1 = (j : Int) + m by omega]
end RY
