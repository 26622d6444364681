/-! judged, hangs -/
noncomputable def citB (A B : Mm_) (x i : Int) : Bool := anyB (fun m => decide (A 120 m = x ∧ (A 121 m ≤ i ∧ i ≤ A 122 m) ∧ stn A B m = 0)) (A 112 9).toNat
noncomputable def nTk (B : Mm_) (x : Int) (S : Int → Bool) : Int := (cntB (tkB (exZ B x S)) (B 115 x).toNat : Int)
noncomputable def nBo (A B : Mm_) (x : Int) (S : Int → Bool) : Int := (cntB (fun i => tkB (exZ B x S) i && !citB A B x i) (B 115 x).toNat : Int)
noncomputable def shr (A B : Mm_) (x : Int) (S : Int → Bool) : Int := if B 115 x = 0 then 0 else nBo A B x S * 100 / B 115 x
noncomputable def vdc (A B : Mm_) (x : Int) (S : Int → Bool) : Int := if nTk B x S = 0 then 0 else if nBo A B x S = 0 then 1 else if lws B x 6 ≤ shr A B x S then 4 else if shr A B x S ≤ lws B x 5 then 2 else 3
theorem nBo_bd (A B : Mm_) (x : Int) (S : Int → Bool) : 0 ≤ nBo A B x S ∧ nBo A B x S ≤ (B 115 x).toNat := by
  have := cntB_le (fun i => tkB (exZ B x S) i && !citB A B x i) (B 115 x).toNat
  unfold nBo
  omega
section JD
variable {P : Jg_} {L : Nat} {xs : Nat → Int32} {A B : Mm_}
theorem s_right (hP : Clo P) {Q : Qp_} {M : Mm_} {x : Int} (hI : IV L xs A B M) (k : ∀ R : Nat, R < 2 ^ 60 → (∀ i : Nat, i < 60 → R.testBit i = citB A B x i) → Q (some (1, (R : Int))) WF M) : P 147 0 [some (2, 27), some (0, x), none, none, none, none] [] WF M (0, 0) Q := by
  obtain ⟨hS, hW, hC, hSn, hN⟩ := hI
  have hT := hW.2.1.1.2.1
  have hm3 := hN.2.2.1
  have m0 : M 27 5 = A 112 9 := (congrFun (hSn.r 27) 5).trans hm3.2.2
  refine t_Marks_rightPlaces_0 hP ?_
  refine lpN (n := (A 112 9).toNat) (f := fun m : Nat => ∀ R : Nat, R < 2 ^ 60 → (∀ i : Nat, i < 60 → R.testBit i = anyB (fun m => decide (A 120 m = x ∧ (A 121 m ≤ i ∧ (i : Int) ≤ A 122 m) ∧ stn A B m = 0)) m) → P 147 4 [some (2, 27), some (0, x), some (1, (R : Int)), none, some (0, (m : Int)), none] [] WF M (0, 0) Q) ?_ ?_ 0 (Nat.zero_le _) 0 (by decide) (fun i _ => Nat.zero_testBit _)
  · intro R hR h
    exact t_Marks_rightPlaces_4 hP (fun _ => k R hR h) (fun q => by omega) (fun q => by omega)
  · intro m hm ih R hR h
    obtain ⟨⟨a1, a2, a3, a4⟩, a5, a6, a7, a8⟩ := hN.2.2.2.1 m (by omega)
    have m1 : M 28 m = A 120 m := (congrFun (hSn.r 28) m).trans a1
    have m2 : M 29 m = A 121 m := (congrFun (hSn.r 29) m).trans a2
    have m4 : M 30 m = A 122 m := (congrFun (hSn.r 30) m).trans a3
    have X := (hW.2.1.2.1 (A 120 m) (by omega)).1
    have no : ¬ (A 120 m = x ∧ stn A B m = 0) → P 147 4 [some (2, 27), some (0, x), some (1, (R : Int)), none, some (0, (m : Int) + 1), none] [] WF M (0, 0) Q := fun g => by
      refine ih R hR fun i hi => ?_
      rw [anyB_s, h i hi, decide_eq_false (fun q => g ⟨q.1, q.2.2⟩), Bool.or_false]
    refine t_Marks_rightPlaces_4 hP (fun q => by omega) (fun _ q => no (by omega)) (fun _ q => ?_)
    refine s_standing_c hP hS hW hSn hN (by omega) (t_Marks_rightPlaces_17 hP (fun q2 => no fun g => q2 g.2) (fun q2 => ?_))
    rw [m2]
    refine lpI (lo := A 121 m) (n := A 122 m + 1) (f := fun c => ∀ R2 : Nat, R2 < 2 ^ 60 → (∀ i : Nat, i < 60 → R2.testBit i = (R.testBit i || decide (A 121 m ≤ i ∧ (i : Int) < c))) → P 147 23 [some (2, 27), some (0, x), some (1, (R2 : Int)), none, some (0, (m : Int)), some (0, c)] [] WF M (0, 0) Q) ?_ ?_ (A 121 m) (Int.le_refl _) (by omega) R hR (fun i _ => by rw [decide_eq_false (by omega), Bool.or_false])
    · intro R2 hR2 h2
      refine t_Marks_rightPlaces_23 hP (fun _ => ih R2 hR2 fun i hi => ?_) (fun q => by omega)
      rw [anyB_s, h2 i hi, h i hi]
      have : decide (A 121 m ≤ (i : Int) ∧ (i : Int) < A 122 m + 1) = decide (A 120 m = x ∧ (A 121 m ≤ (i : Int) ∧ (i : Int) ≤ A 122 m) ∧ stn A B m = 0) := by
        rw [decide_eq_decide]
        exact ⟨fun g => ⟨by omega, by omega, q2⟩, fun g => by omega⟩
      rw [this]
    · intro c c0 c1 ihc R2 hR2 h2
      refine t_Marks_rightPlaces_23 hP (fun q => by omega) (fun _ => ?_)
      obtain ⟨cn, rfl⟩ := Int.eq_ofNat_of_zero_le (show 0 ≤ c by omega)
      rw [sbL (by omega) (by omega)]
      refine ihc _ (or_bd hR2 (by omega)) fun i hi => ?_
      rw [or_tb, h2 i hi, Bool.or_assoc, ← Bool.decide_or]
      have : decide ((A 121 m ≤ (i : Int) ∧ (i : Int) < cn) ∨ cn = i) = decide (A 121 m ≤ (i : Int) ∧ (i : Int) < (cn : Int) + 1) := by
        rw [decide_eq_decide]
        omega
      rw [this]
theorem s_takenC (hP : Clo P) {Q : Qp_} {M : Mm_} {x : Int} {S : Int → Bool} (hxb : B 115 x ≤ 60) (h7 : M 64 7 = (mset (tkB (exZ B x S)) (B 115 x).toNat : Int)) (k : Q (some (0, nTk B x S)) WF M) : P 146 0 [some (2, 0)] [] WF M (0, 0) Q := by
  refine t_BW_takenCount_0 hP ?_
  rw [h7]
  exact s_bitM hP (by omega) (t_BW_takenCount_4 hP k)
theorem s_borrowC (hP : Clo P) {Q : Qp_} {M : Mm_} {x : Int} {S : Int → Bool} (hI : IV L xs A B M) (hxb : B 115 x ≤ 60) (h7 : M 64 7 = (mset (tkB (exZ B x S)) (B 115 x).toNat : Int)) (k : Q (some (0, nBo A B x S)) WF M) : P 148 0 [some (2, 0), some (0, x)] [] WF M (0, 0) Q := by
  refine t_BW_borrowedCount_0 hP (s_right hP hI fun R hR hRb => ?_)
  rw [h7]
  refine t_BW_borrowedCount_7 hP ?_
  rw [andnL _ (mset_le _ (n := 63) (by omega))]
  have e : mset (tkB (exZ B x S)) (B 115 x).toNat ^^^ (mset (tkB (exZ B x S)) (B 115 x).toNat &&& R) = mset (fun i => tkB (exZ B x S) i && !citB A B x i) (B 115 x).toNat := mset_eq fun j => by
    rw [andn_tb, mset_tb]
    by_cases h : j < (B 115 x).toNat
    · rw [hRb j (by omega), Bool.and_assoc]
    · rw [decide_eq_false h, Bool.false_and, Bool.false_and, Bool.false_and]
  rw [e]
  exact s_bitM hP (by omega) (t_BW_borrowedCount_11 hP k)
theorem s_verdictC (hP : Clo P) {Q : Qp_} {M : Mm_} {x : Int} {S : Int → Bool} (hI : IV L xs A B M) (hx : 0 ≤ x ∧ x < B 112 0) (h7 : M 64 7 = (mset (tkB (exZ B x S)) (B 115 x).toNat : Int)) (k : Q (some (0, vdc A B x S)) WF M) : P 150 0 [some (2, 0), some (0, x), none, none, none] [] WF M (0, 0) Q := by
  have hT := hI.2.1.2.1.1.2.1
  have X := rdX hI.1 hI.2.1.2.1 (x := x) (by omega)
  have bb := nBo_bd A B x S
  refine t_BW_verdictOn_0 hP (s_takenC hP (S := S) (by omega) h7 (t_BW_verdictOn_2 hP (fun q => ?_) (fun q => ?_)))
  · refine s_borrowC hP hI (S := S) (by omega) h7 ?_
    have go : ∀ sh, sh = shr A B x S → ¬ nBo A B x S = 0 → P 107 0 [some (2, 35), some (0, 6), some (0, M (3 + 2 * x) 3), none, none, none, none] [] WF M (0, 0) (fun v w' M' => P 150 31 [some (2, 0), none, none, some (0, M (3 + 2 * x) 3), some (0, sh)] (v.toList ++ [(0, sh)]) w' M' (0, 0) Q) := by
      intro sh hsh nb
      rw [X.2.2.2.2.2.1]
      refine s_holding hP hI.1 hI.2.1 (by decide) (t_BW_verdictOn_31 hP (fun q1 => ?_) (fun q1 => ?_))
      · refine s_holding hP hI.1 hI.2.1 (by decide) (t_BW_verdictOn_40 hP (fun q2 => ?_) (fun q2 => ?_))
        · unfold vdc at k
          rw [if_neg q, if_neg nb, if_neg (show ¬ lws B x 6 ≤ shr A B x S by rw [← hsh]; exact Int.not_le.mpr q1), if_neg (show ¬ shr A B x S ≤ lws B x 5 by rw [← hsh]; exact Int.not_le.mpr q2)] at k
          exact k
        · unfold vdc at k
          rw [if_neg q, if_neg nb, if_neg (show ¬ lws B x 6 ≤ shr A B x S by rw [← hsh]; exact Int.not_le.mpr q1), if_pos (show shr A B x S ≤ lws B x 5 by rw [← hsh]; exact Int.not_lt.mp q2)] at k
          exact k
      · unfold vdc at k
        rw [if_neg q, if_neg nb, if_pos (show lws B x 6 ≤ shr A B x S by rw [← hsh]; exact Int.not_lt.mp q1)] at k
        exact k
    refine t_BW_verdictOn_8 hP (fun q1 q2 => ?_) (fun q1 q2 => ?_) (fun q1 => ?_)
    · refine go _ ?_ q1
      unfold shr
      rw [X.2.2.2.1] at q2 ⊢
      rw [if_neg q2]
    · refine go _ ?_ q1
      unfold shr
      rw [X.2.2.2.1] at q2
      rw [if_pos q2]
    · unfold vdc at k
      rw [if_neg q, if_pos q1] at k
      exact k
  · unfold vdc at k
    rw [if_pos q] at k
    exact k
theorem s_isCited (hP : Clo P) {Q : Qp_} {M : Mm_} {x i : Int} (hI : IV L xs A B M) (k1 : citB A B x i = true → Q (some (0, 1)) WF M) (k0 : citB A B x i = false → Q (some (0, 0)) WF M) : P 152 0 [some (2, 112), some (0, x), some (0, i), none, none] [] WF M (0, 0) Q := by
  obtain ⟨hS, hW, hC, hSn, hN⟩ := hI
  have hT := hW.2.1.1.2.1
  have hm3 := hN.2.2.1
  have m0 : M 112 9 = A 112 9 := hSn 112 9 (by unfold Pn; omega)
  refine t_Mo_isCited_0 hP ?_
  obtain ⟨p, hp⟩ : ∃ p : Int → Bool, p = fun m => decide (A 120 m = x ∧ (A 121 m ≤ i ∧ i ≤ A 122 m) ∧ stn A B m = 0) := ⟨_, rfl⟩
  have hc : citB A B x i = anyB p (A 112 9).toNat := by rw [hp]; rfl
  refine lpN (n := (A 112 9).toNat) (f := fun m : Nat => ∀ b : Int, (b = 0 ∧ anyB p m = false ∨ b = 1 ∧ anyB p m = true) → P 152 4 [some (2, 112), some (0, x), some (0, i), some (0, b), some (0, (m : Int))] [] WF M (0, 0) Q) ?_ ?_ 0 (Nat.zero_le _) 0 (Or.inl ⟨rfl, rfl⟩)
  · intro b hb
    refine t_Mo_isCited_4 hP (fun _ => ?_) (fun q => by omega) (fun q => by omega) (fun q => by omega) (fun q => by omega) (fun q => by omega)
    rcases hb with ⟨rfl, hb⟩ | ⟨rfl, hb⟩
    · exact k0 (hc.trans hb)
    · exact k1 (hc.trans hb)
  · intro m hm ih b hb
    have m1 : M 120 m = A 120 m := congrFun (hSn.r 120) m
    have m2 : M 121 m = A 121 m := congrFun (hSn.r 121) m
    have m3 : M 122 m = A 122 m := congrFun (hSn.r 122) m
    have hpm : p m = decide (A 120 m = x ∧ (A 121 m ≤ i ∧ i ≤ A 122 m) ∧ stn A B m = 0) := by rw [hp]
    rw [anyB_s] at ih
    have no : b = 0 → ¬ (A 120 m = x ∧ (A 121 m ≤ i ∧ i ≤ A 122 m) ∧ stn A B m = 0) → P 152 4 [some (2, 112), some (0, x), some (0, i), some (0, 0), some (0, (m : Int) + 1)] [] WF M (0, 0) Q := fun hb0 g => by
      refine ih 0 (Or.inl ⟨rfl, ?_⟩)
      rw [hpm, decide_eq_false g, Bool.or_false]
      exact hb.elim (fun h => h.2) (fun h => by omega)
    refine t_Mo_isCited_4 hP (fun q => by omega) (fun _ q => ?_) (fun _ q1 q2 => no q1 (by omega)) (fun _ q1 q2 q3 => no q1 (by omega)) (fun _ q1 q2 q3 q4 => no q1 (by omega)) (fun _ q1 q2 q3 q4 => ?_)
    · refine ih 1 (Or.inr ⟨rfl, ?_⟩)
      rw [hb.elim (fun h => absurd h.1 q) (fun h => h.2)]
      rfl
    · refine s_standing_m hP hS hW hSn hN (by omega) (t_Mo_isCited_33 hP (fun q5 => no q1 fun g => q5 g.2.2) (fun q5 => ?_))
      refine ih 1 (Or.inr ⟨rfl, ?_⟩)
      rw [hpm, decide_eq_true ⟨by omega, by omega, q5⟩, Bool.or_true]
theorem s_borrowM (hP : Clo P) {Q : Qp_} {M : Mm_} {x : Int} {S : Int → Bool} (hI : IV L xs A B M) (hx : 0 ≤ x ∧ x < B 112 0) (hE : EM B x S M) (k : Q (some (0, nBo A B x S)) WF M) : P 153 0 [some (2, 112), some (0, x), none, none, none] [] WF M (0, 0) Q := by
  have hT := hI.2.1.2.1.1.2.1
  have lb := lws_bd hI.2.1.2.2.2 x
  have X := rdX hI.1 hI.2.1.2.1 (x := x) (by omega)
  obtain ⟨e1, e2, e3, e4⟩ := hE
  obtain ⟨Z, hZ⟩ : ∃ Z, Z = exZ B x S := ⟨_, rfl⟩
  unfold nBo at k
  rw [← hZ] at e2 k
  have zb : ∀ i, 0 ≤ i ∧ i < B 115 x → 0 ≤ Z i ∧ i + Z i ≤ B 115 x := fun i hi => by
    rw [hZ]
    rcases EX_Z e1 hi with g | g
    · show 0 ≤ (exF B x S i).2.2 ∧ i + (exF B x S i).2.2 ≤ _
      omega
    · show 0 ≤ (exF B x S i).2.2 ∧ i + (exF B x S i).2.2 ≤ _
      omega
  refine t_Mo_borrowed_0 hP ?_
  refine lpN (n := (B 115 x).toNat) (f := fun i : Nat => ∀ nx : Int, (nx ≤ i ∧ cst Z i = i ∨ (i : Int) < nx ∧ nx = cst Z i + Z (cst Z i) ∧ cst Z i < i) → P 153 6 [some (2, 112), some (0, x), some (0, (cntB (fun i => tkB Z i && !citB A B x i) i : Int)), some (0, nx), some (0, (i : Int))] [] WF M (0, 0) Q) ?_ ?_ 0 (Nat.zero_le _) 0 (Or.inl ⟨Int.le_refl _, rfl⟩)
  · intro nx _
    exact t_Mo_borrowed_6 hP (fun _ => k) (fun q => by omega) (fun q => by omega) (fun q => by omega) (fun q => by omega) (fun q => by omega) (fun q => by omega)
  · intro i hi ih nx g5
    have zi := zb i (by omega)
    have z1 := e2 i (by omega)
    have cb := cntB_le (fun i => tkB Z i && !citB A B x i) i
    have nxb : nx ≤ 60 ∨ nx ≤ i := by
      rcases g5 with g | g
      · right; omega
      · left
        have cd := cst_bd Z i
        have := zb (cst Z i) (by omega)
        omega
    have taken : tkB Z (i : Int) = true → ∀ nx2 : Int, (nx2 ≤ (i : Int) + 1 ∧ cst Z (i + 1) = ((i + 1 : Nat) : Int) ∨ (i : Int) + 1 < nx2 ∧ nx2 = cst Z (i + 1) + Z (cst Z (i + 1)) ∧ cst Z (i + 1) < (i : Int) + 1) → P 152 0 [some (2, 112), some (0, x), some (0, (i : Int)), none, none] [] WF M (0, 0) (fun v w' M' => P 153 37 [some (2, 112), some (0, x), none, some (0, nx2), some (0, (i : Int))] (v.toList ++ [(0, (cntB (fun i => tkB Z i && !citB A B x i) i : Int))]) w' M' (0, 0) Q) := by
      intro tk nx2 hn2
      refine s_isCited hP hI (fun g => t_Mo_borrowed_37 hP (fun _ => ?_) (fun q => by omega)) (fun g => t_Mo_borrowed_37 hP (fun q => absurd rfl q) (fun _ => ?_))
      · have := ih nx2 hn2
        rw [cntB_f (by rw [g]; simp)] at this
        rw [Int.add_zero]
        exact this
      · have := ih nx2 hn2
        rw [cntB_t (by rw [g, tk]; rfl)] at this
        exact this
    refine t_Mo_borrowed_6 hP (fun q => by omega) (fun _ q1 q2 => by omega) (fun _ q1 q2 => ?_) (fun _ q1 q2 q3 => ?_) (fun _ q1 q2 q3 => by omega) (fun _ q1 q2 q3 => by omega) (fun _ q1 q2 q3 => ?_)
    · have g6 := g5.resolve_left (by omega)
      have cd := cst_bd Z i
      refine taken ?_ nx ?_
      · unfold tkB
        rw [Int.toNat_natCast, decide_eq_true_iff]
        omega
      · rw [cst_s]
        by_cases e : (i : Int) + 1 < cst Z i + Z (cst Z i)
        · rw [if_pos e]
          right
          exact ⟨by omega, g6.2.1, by omega⟩
        · rw [if_neg e]
          left
          exact ⟨by omega, rfl⟩
    · have g6 := g5.resolve_right (by omega)
      have zz : Z i = 0 := by omega
      have := ih nx (Or.inl ⟨by omega, cst_1 g6.2 (by omega)⟩)
      have tk : tkB Z (i : Int) = false := by
        unfold tkB
        rw [Int.toNat_natCast, g6.2, decide_eq_false_iff_not]
        omega
      rw [cntB_f (by rw [tk]; simp)] at this
      rw [Int.add_zero]
      exact this
    · have g6 := g5.resolve_right (by omega)
      rw [z1] at q2 ⊢
      refine taken ?_ _ ?_
      · unfold tkB
        rw [Int.toNat_natCast, g6.2, decide_eq_true_iff]
        omega
      · rw [cst_s, g6.2]
        by_cases e : (i : Int) + 1 < i + Z i
        · rw [if_pos e]
          right
          exact ⟨by omega, rfl, by omega⟩
        · rw [if_neg e]
          left
          exact ⟨by omega, rfl⟩
theorem s_shareM (hP : Clo P) {Q : Qp_} {M : Mm_} {x : Int} {S : Int → Bool} (hI : IV L xs A B M) (hx : 0 ≤ x ∧ x < B 112 0) (hE : EM B x S M) (k : Q (some (0, shr A B x S)) WF M) : P 154 0 [some (2, 112), some (0, x)] [] WF M (0, 0) Q := by
  have hT := hI.2.1.2.1.1.2.1
  have X := rdX hI.1 hI.2.1.2.1 (x := x) (by omega)
  have bb := nBo_bd A B x S
  unfold shr at k
  refine t_Mo_share_0 hP (fun q => s_borrowM hP hI hx hE (t_Mo_share_10 hP ?_)) (fun q => ?_)
  · rw [X.2.2.1] at q ⊢
    rw [if_neg q] at k
    exact k
  · rw [X.2.2.1] at q
    rw [if_pos q] at k
    exact k
theorem EM_nTk {x : Int} {S : Int → Bool} (hR : WfR B) (hxb : 0 ≤ B 115 x) (hE : EX (opn B x S) (lws B x 0) (B 115 x) (exF B x S)) : nTk B x S = (exF B x S 0).1 := by
  have lb := lws_bd hR x
  have e1' : EX (opn B x S) (lws B x 0) (((B 115 x).toNat : Nat) : Int) (exF B x S) := by
    rw [Int.toNat_of_nonneg hxb]
    exact hE
  have tot := (chain_sum (by omega) e1' 0 (Nat.zero_le _) (Or.inr rfl)).2
  unfold nTk
  have t2 : (cntB (tkB (exZ B x S)) (B 115 x).toNat : Int) = ((0 : Nat) : Int) + (exF B x S ((0 : Nat) : Int)).1 := tot
  simpa using t2
theorem s_verdictM (hP : Clo P) {Q : Qp_} {M : Mm_} {x k : Int} {S : Int → Bool} (hI : IV L xs A B M) (hx : 0 ≤ x ∧ x < B 112 0) (hL : LM B x k M) (hE : EM B x S M) (kk : Q (some (0, vdc A B x S)) WF M) : P 155 0 [some (2, 112), some (0, x)] [] WF M (0, 0) Q := by
  have hT := hI.2.1.2.1.1.2.1
  have X := rdX hI.1 hI.2.1.2.1 (x := x) (by omega)
  have tk := EM_nTk hI.2.1.2.2.2 X.1.1 hE.1
  have l6 := hL.2.1 6 (by decide)
  have l5 := hL.2.1 5 (by decide)
  unfold vdc at kk
  rw [tk, ← hE.2.2.1] at kk
  refine t_Mo_verdict_0 hP (fun q => s_borrowM hP hI hx hE (t_Mo_verdict_10 hP (fun q1 => s_shareM hP hI hx hE (t_Mo_verdict_16 hP (fun q2 => s_shareM hP hI hx hE (t_Mo_verdict_26 hP (fun q3 => ?_) (fun q3 => ?_))) (fun q2 => ?_))) (fun q1 => ?_))) (fun q => ?_)
  · rw [if_neg q, if_neg q1, if_neg (by omega), if_neg (by omega)] at kk
    exact kk
  · rw [if_neg q, if_neg q1, if_neg (by omega), if_pos (by omega)] at kk
    exact kk
  · rw [if_neg q, if_neg q1, if_pos (by omega)] at kk
    exact kk
  · rw [if_neg q, if_pos q1] at kk
    exact kk
  · rw [if_pos q] at kk
    exact kk
theorem tw_judged (hP : Clo P) {x k w : Int} : Two P L xs 151 [some (2, 0), some (0, x), some (0, k), some (0, w), none] 156 [some (2, 112), some (0, x), some (0, k), some (0, w)] := by
  intro M hI
  have hI0 := hI
  obtain ⟨A, B, hI⟩ := hI
  have hI1 := hI
  obtain ⟨hS, hW, hC, hSn, hN⟩ := hI
  obtain ⟨t0, t1, t2⟩ := rdT hS hW.2.1
  by_cases h1 : 0 ≤ x ∧ x < B 112 0
  · have X := rdX hS hW.2.1 (x := x) (by omega)
    by_cases h2 : (0 ≤ k ∧ k ≤ B 112 0) ∧ (0 ≤ w ∧ w ≤ 3)
    · have hSp : ∀ y, srcB B x k y = true → alS B x y = true := fun y h => srcB_al h2.1.2 h
      obtain ⟨S, hS0⟩ : ∃ S, S = srcB B x k := ⟨_, rfl⟩
      have srm : (srS B x k : Int) = (mset S 10 : Int) := by rw [hS0]; rfl
      have bb := nBo_bd A B x S
      refine ⟨fun r M1 => r = (if w = 0 then nTk B x S else if w = 1 then nBo A B x S else if w = 2 then shr A B x S else vdc A B x S) ∧ IV L xs A B M1, fun Q kk => ?_, fun r M1 hR => ?_⟩
      · refine t_BW_judged_0 hP (s_refusal hP hS hW.2.1 fun r _ _ hr => ?_)
        have := hr h1 h2.1
        subst this
        refine t_BW_judged_4 hP (fun _ q => by omega) (fun _ _ _ => ?_) (fun _ _ q => by omega) (fun q => absurd rfl q)
        refine s_lookedAt hP hI1 h1 h2.1 fun M' hI' h9 hL => t_BW_judged_22 hP ?_
        rw [srm]
        refine s_explC2 hP hI' h1 hL (by rw [hS0]; exact hSp) fun M2 hI2 hL2 h47 e1 e2 e3 e4 => ?_
        have X2 := rdX hI2.1 hW.2.1 (x := x) (by omega)
        refine t_BW_judged_23 hP (fun q => ?_) (fun q => ?_) (fun q => ?_) (fun q => ?_)
        · exact s_verdictC hP hI2 h1 e3 (t_BW_judged_42 hP (kk _ _ ⟨by rw [if_neg (by omega), if_neg (by omega), if_neg (by omega)], hI2⟩))
        · exact s_takenC hP (S := S) (by omega) e3 (t_BW_judged_27 hP (kk _ _ ⟨by rw [if_pos q], hI2⟩))
        · exact s_borrowC hP hI2 (S := S) (by omega) e3 (t_BW_judged_31 hP (kk _ _ ⟨by rw [if_neg (by omega), if_pos q], hI2⟩))
        · refine s_borrowC hP hI2 (S := S) (by omega) e3 (t_BW_judged_37 hP (fun q2 => kk _ _ ⟨?_, hI2⟩) (fun q2 => kk _ _ ⟨?_, hI2⟩))
          · rw [if_neg (by omega), if_neg (by omega), if_pos q]
            unfold shr
            rw [X2.2.2.2.1] at q2 ⊢
            rw [if_neg q2]
          · rw [if_neg (by omega), if_neg (by omega), if_pos q]
            unfold shr
            rw [X2.2.2.2.1] at q2
            rw [if_pos q2]
      · obtain ⟨rfl, hI2⟩ := hR
        refine ⟨hI2.ro, fun Q kk => ?_⟩
        obtain ⟨u0, u1, u2⟩ := rdT hI2.1 hW.2.1
        refine t_Mo_judged_0 hP ?_ ?_ ?_ ?_ ?_ ?_ ?_ <;> intros <;> first | (exfalso; omega) | skip
        refine s_look2 hP hI2 h1 h2.1 fun M3 hI3 hL3 _ => t_Mo_judged_22 hP ?_
        rw [hL3.1, srm]
        refine s_expM2 hP hI3 h1 hL3 (by rw [hS0]; exact fun y h => h) fun M4 hI4 hL4 hE4 _ => ?_
        have kk := kk M4 ⟨A, B, hI4⟩
        refine t_Mo_judged_27 hP (fun q1 q2 q3 => ?_) (fun q1 q2 q3 => ?_) (fun q1 q2 => ?_) (fun q1 => t_Mo_judged_51 hP ?_)
        · rw [if_neg q1, if_neg q2, if_neg q3] at kk
          exact s_verdictM hP hI4 h1 hL4 hE4 (t_Mo_judged_51 hP kk)
        · rw [if_neg q1, if_neg q2, if_pos q3] at kk
          exact s_shareM hP hI4 h1 hE4 (t_Mo_judged_47 hP (t_Mo_judged_51 hP kk))
        · rw [if_neg q1, if_pos q2] at kk
          exact s_borrowM hP hI4 h1 hE4 (t_Mo_judged_40 hP (t_Mo_judged_51 hP kk))
        · rw [if_pos q1, EM_nTk hW.2.2.2 X.1.1 hE4.1] at kk
          rw [hE4.2.2.1]
          exact kk
    · refine ⟨fun r M1 => r = -1002 ∧ M1 = M, fun Q kk => ?_, fun r M1 hR => ?_⟩
      · refine t_BW_judged_0 hP (s_refusal hP hS hW.2.1 fun r r1 r2 r3 => ?_)
        by_cases hk : 0 ≤ k ∧ k ≤ B 112 0
        · have := r3 h1 hk
          subst this
          refine t_BW_judged_4 hP ?_ ?_ ?_ ?_ <;> intros <;> first | (exfalso; omega) | exact kk _ _ ⟨rfl, rfl⟩
        · have := r2 h1 hk
          subst this
          refine t_BW_judged_4 hP ?_ ?_ ?_ ?_ <;> intros <;> first | (exfalso; omega) | exact kk _ _ ⟨rfl, rfl⟩
      · obtain ⟨rfl, rfl⟩ := hR
        refine ⟨hI0.ro, fun Q kk => ?_⟩
        refine t_Mo_judged_0 hP ?_ ?_ ?_ ?_ ?_ ?_ ?_ <;> intros <;> first | (exfalso; omega) | exact kk _ hI0 | (refine t_Mo_judged_16 hP ?_; exact kk _ hI0)
  · refine ⟨fun r M1 => r = -1001 ∧ M1 = M, fun Q kk => ?_, fun r M1 hR => ?_⟩
    · refine t_BW_judged_0 hP (s_refusal hP hS hW.2.1 fun r r1 r2 r3 => ?_)
      have := r1 h1
      subst this
      refine t_BW_judged_4 hP ?_ ?_ ?_ ?_ <;> intros <;> first | (exfalso; omega) | exact kk _ _ ⟨rfl, rfl⟩
    · obtain ⟨rfl, rfl⟩ := hR
      refine ⟨hI0.ro, fun Q kk => ?_⟩
      refine t_Mo_judged_0 hP ?_ ?_ ?_ ?_ ?_ ?_ ?_ <;> intros <;> first | (exfalso; omega) | exact kk _ hI0 | (refine t_Mo_judged_16 hP ?_; exact kk _ hI0)
def subS (S : Int → Bool) (y : Int) : Int → Bool := fun z => S z && !decide (z = y)
theorem subS_m {S : Int → Bool} {y : Nat} (hy : y < 10) : andI (mset S 10 : Int) (xorI (shlI 1 (y : Int)) (-1)) = (mset (subS S y) 10 : Int) := by
  rw [clI (mset_le _ (n := 31) (by omega)) (by omega)]
  refine congrArg _ (mset_eq fun j => ?_)
  rw [andn_tb, mset_tb, Nat.testBit_two_pow]
  unfold subS
  have : decide (y = j) = decide ((j : Int) = y) := by
    rw [decide_eq_decide]
    omega
  rw [this, Bool.and_assoc]
theorem subS_le {S : Int → Bool} {y z : Int} (h : subS S y z = true) : S z = true := by
  unfold subS at h
  rw [Bool.and_eq_true] at h
  exact h.1
theorem tw_hangs (hP : Clo P) {x k : Int} : Two P L xs 163 [some (2, 0), some (0, x), some (0, k), none, none, none, none, none] 164 [some (2, 112), some (0, x), some (0, k), none, none, none] := by
  intro M hI
  have hI0 := hI
  obtain ⟨A, B, hI⟩ := hI
  have hI1 := hI
  obtain ⟨hS, hW, hC, hSn, hN⟩ := hI
  obtain ⟨t0, t1, t2⟩ := rdT hS hW.2.1
  by_cases h1 : 0 ≤ x ∧ x < B 112 0
  · have X := rdX hS hW.2.1 (x := x) (by omega)
    by_cases h2 : 0 ≤ k ∧ k ≤ B 112 0
    · have hSp : ∀ y, srcB B x k y = true → alS B x y = true := fun y h => srcB_al h2.2 h
      obtain ⟨S, hS0⟩ : ∃ S, S = srcB B x k := ⟨_, rfl⟩
      have srm : (srS B x k : Int) = (mset S 10 : Int) := by rw [hS0]; rfl
      have Sk : ∀ y : Int, ¬ y < k → S y = false := fun y hy => by rw [hS0]; unfold srcB; rw [decide_eq_false_iff_not]; omega
      obtain ⟨hg, hhg⟩ : ∃ hg : Int → Bool, hg = fun y => S y && !decide (vdc A B x (subS S y) = vdc A B x S) := ⟨_, rfl⟩
      refine ⟨fun r M1 => r = (mset hg 10 : Int) ∧ IV L xs A B M1, fun Q kk => ?_, fun r M1 hR => ?_⟩
      · refine t_BW_hangs_0 hP (s_refusal hP hS hW.2.1 fun r _ _ hr => ?_)
        have := hr h1 h2
        subst this
        refine t_BW_hangs_4 hP (fun _ => ?_) (fun q => absurd rfl q)
        refine s_lookedAt hP hI1 h1 h2 fun M' hI' h9 hL => t_BW_hangs_13 hP ?_
        rw [srm]
        refine s_explC2 hP hI' h1 hL (by rw [hS0]; exact hSp) fun M2 hI2 hL2 h47 e1 e2 e3 e4 => t_BW_hangs_18 hP (s_verdictC hP hI2 h1 e3 (t_BW_hangs_21 hP ?_))
        refine lpN (n := (B 112 0).toNat) (f := fun y : Nat => ∀ M3, IV L xs A B M3 → Lk B x M3 → P 163 26 [some (2, 0), some (0, x), none, none, some (0, (mset S 10 : Int)), some (0, vdc A B x S), some (0, (mset hg y : Int)), some (0, (y : Int))] [] WF M3 (0, 0) Q) ?_ ?_ 0 (Nat.zero_le _) M2 hI2 hL2
        · intro M3 hI3 hL3
          have u2 := (rdT hI3.1 hW.2.1).2.2
          refine t_BW_hangs_26 hP (fun _ => kk _ _ ⟨?_, hI3⟩) (fun q => by omega) (fun q => by omega)
          rw [mset_ext (n := (B 112 0).toNat) (N := 10) (by omega) fun z z1 z2 => ?_]
          rw [hhg]
          show (S z && _) = false
          rw [Sk z (by omega), Bool.false_and]
        · intro y hy ih M3 hI3 hL3
          have u2 := (rdT hI3.1 hW.2.1).2.2
          have tb : andI (ushrI (mset S 10 : Int) (y : Int)) 1 = if S y = true then 1 else 0 := by
            rw [tbI (mset_le _ (n := 31) (by omega)) (by omega), mset_tb, decide_eq_true (show y < 10 by omega), Bool.true_and]
          have mb := mset_lt hg y
          refine t_BW_hangs_26 hP (fun q => by omega) (fun _ q => ?_) (fun _ q => ?_)
          · rw [tb, iteB] at q
            have := ih M3 hI3 hL3
            rw [mset_skip (p := hg) (n := y) (by rw [hhg]; show ¬ (S y && _) = true; rw [q]; simp)] at this
            exact this
          · rw [tb, iteB, Bool.not_eq_false] at q
            rw [subS_m (by omega)]
            refine s_explC2 hP hI3 h1 hL3 (fun z hz => hSp _ (by rw [← hS0]; exact subS_le hz)) fun M4 hI4 hL4 _ f1 f2 f3 f4 => t_BW_hangs_47 hP (s_verdictC hP hI4 h1 f3 (t_BW_hangs_50 hP (fun q2 => ?_) (fun q2 => ?_)))
            · have := ih M4 hI4 hL4
              rw [mset_skip (p := hg) (n := y) (by rw [hhg]; show ¬ (S y && !decide (vdc A B x (subS S y) = vdc A B x S)) = true; rw [decide_eq_true q2]; simp)] at this
              exact this
            · have := ih M4 hI4 hL4
              rw [mset_I (by omega) (by rw [hhg]; show (S y && !decide (vdc A B x (subS S y) = vdc A B x S)) = true; rw [decide_eq_false q2, q]; rfl)]
              exact this
      · obtain ⟨rfl, hI2⟩ := hR
        refine ⟨hI2.ro, fun Q kk => ?_⟩
        obtain ⟨u0, u1, u2⟩ := rdT hI2.1 hW.2.1
        refine t_Mo_hangs_0 hP ?_ ?_ ?_ ?_ ?_ <;> intros <;> first | (exfalso; omega) | skip
        refine s_look2 hP hI2 h1 h2 fun M3 hI3 hL3 _ => t_Mo_hangs_16 hP ?_
        rw [hL3.1, srm]
        refine s_expM2 hP hI3 h1 hL3 (by rw [hS0]; exact fun y h => h) fun M4 hI4 hL4 hE4 _ => t_Mo_hangs_21 hP (s_verdictM hP hI4 h1 hL4 hE4 (t_Mo_hangs_24 hP ?_))
        refine lpN (n := k.toNat) (f := fun y : Nat => ∀ M5, IV L xs A B M5 → LM B x k M5 → P 164 29 [some (2, 112), some (0, x), some (0, k), some (0, vdc A B x S), some (0, (mset hg y : Int)), some (0, (y : Int))] [] WF M5 (0, 0) Q) ?_ ?_ 0 (Nat.zero_le _) M4 hI4 hL4
        · intro M5 hI5 hL5
          refine t_Mo_hangs_29 hP (fun _ => ?_) (fun q => by omega) (fun q => by omega)
          have := kk M5 ⟨A, B, hI5⟩
          rw [mset_ext (n := k.toNat) (N := 10) (by omega) fun z z1 z2 => by
            rw [hhg]
            show (S z && _) = false
            rw [Sk z (by omega), Bool.false_and]] at this
          exact this
        · intro y hy ih M5 hI5 hL5
          have tb : (andI (shrI (M5 112 30) (y : Int)) 1 = 1) ↔ S y = true := by
            rw [hL5.1, srm, tbIs (mset_le _ (n := 31) (by omega)) (by omega), mset_tb, decide_eq_true (show y < 10 by omega), Bool.true_and]
            cases S y <;> simp
          have mb : mset hg y < 2147483648 := mset_le _ (n := 31) (by omega)
          refine t_Mo_hangs_29 hP (fun q => by omega) (fun _ q => ?_) (fun _ q => ?_)
          · rw [tb] at q
            have := ih M5 hI5 hL5
            rw [mset_skip (p := hg) (n := y) (by rw [hhg]; show ¬ (S y && _) = true; rw [Bool.eq_false_iff.mpr q]; simp)] at this
            exact this
          · rw [tb] at q
            rw [hL5.1, srm, subS_m (by omega)]
            refine s_expM2 hP hI5 h1 hL5 (fun z hz => by rw [← hS0]; exact subS_le hz) fun M6 hI6 hL6 hE6 _ => t_Mo_hangs_51 hP (s_verdictM hP hI6 h1 hL6 hE6 (t_Mo_hangs_55 hP (fun q2 => ?_) (fun q2 => ?_)))
            · have := ih M6 hI6 hL6
              rw [mset_skip (p := hg) (n := y) (by rw [hhg]; show ¬ (S y && !decide (vdc A B x (subS S y) = vdc A B x S)) = true; rw [decide_eq_true q2]; simp)] at this
              rw [orI_0 mb]
              exact this
            · have := ih M6 hI6 hL6
              rw [mset_I (by omega) (by rw [hhg]; show (S y && !decide (vdc A B x (subS S y) = vdc A B x S)) = true; rw [decide_eq_false q2, q]; rfl)]
              exact this
    · refine ⟨fun r M1 => r = -1002 ∧ M1 = M, fun Q kk => ?_, fun r M1 hR => ?_⟩
      · refine t_BW_hangs_0 hP (s_refusal hP hS hW.2.1 fun r r1 r2 r3 => ?_)
        have := r2 h1 h2
        subst this
        exact t_BW_hangs_4 hP (fun q => by omega) (fun _ => kk _ _ ⟨rfl, rfl⟩)
      · obtain ⟨rfl, rfl⟩ := hR
        refine ⟨hI0.ro, fun Q kk => ?_⟩
        refine t_Mo_hangs_0 hP ?_ ?_ ?_ ?_ ?_ <;> intros <;> first | (exfalso; omega) | exact kk _ hI0
  · refine ⟨fun r M1 => r = -1001 ∧ M1 = M, fun Q kk => ?_, fun r M1 hR => ?_⟩
    · refine t_BW_hangs_0 hP (s_refusal hP hS hW.2.1 fun r r1 r2 r3 => ?_)
      have := r1 h1
      subst this
      exact t_BW_hangs_4 hP (fun q => by omega) (fun _ => kk _ _ ⟨rfl, rfl⟩)
    · obtain ⟨rfl, rfl⟩ := hR
      refine ⟨hI0.ro, fun Q kk => ?_⟩
      refine t_Mo_hangs_0 hP ?_ ?_ ?_ ?_ ?_ <;> intros <;> first | (exfalso; omega) | exact kk _ hI0
end JD
