/-! rule -/
section RU
variable {P : Jg_} {L : Nat} {xs : Nat → Int32}
theorem s_add (hP : Clo P) {Q : Qp_} {M : Mm_} {day st R : Int} (hR : M 35 3 = R ∧ 0 ≤ R ∧ R < 8) (k : ∀ M', (∀ c, ¬ (35 ≤ c ∧ c ≤ 37 ∨ c = 39 + R) → M' c = M c) → M' 35 3 = R + 1 → (∀ j, M' 36 j = if j = R then day else M 36 j) → (∀ j, M' 37 j = if j = R then st else M 37 j) → (∀ what, 0 ≤ what ∧ what < 7 → M' (39 + R) what = M 34 what) → Q (some (0, R)) WF M') : P 92 0 [some (2, 35), some (0, day), some (2, 34), some (0, st), none] [] WF M (0, 0) Q := by
  refine t_RuleBook_add_0 hP (fun _ => ?_) (fun q => by omega)
  rw [hR.1]
  refine lpN (n := 7) (f := fun i : Nat => ∀ M', (∀ c, ¬ (35 ≤ c ∧ c ≤ 37 ∨ c = 39 + R) → M' c = M c) → M' 35 3 = R → (∀ j, M' 36 j = if j = R then day else M 36 j) → (∀ j, M' 37 j = if j = R then st else M 37 j) → (∀ what : Int, 0 ≤ what ∧ what < i → M' (39 + R) what = M 34 what) → P 92 20 [some (2, 35), none, some (2, 34), none, some (0, (i : Int))] [] WF M' (0, 0) Q) ?_ ?_ 0 (Nat.zero_le _) _ ?_ ?_ ?_ ?_ (fun what hw => by omega)
  · intro M' h1 h2 h3 h4 h5
    refine t_RuleBook_add_20 hP (fun _ => ?_) (fun q => by omega)
    rw [h2, show R + 1 - 1 = R by omega]
    refine k _ (fun c hc => ?_) (upd_s _ _ _ _) (fun j => ?_) (fun j => ?_) (fun what hw => ?_)
    · rw [upd_r (by omega)]
      exact h1 c hc
    · rw [upd_c (by decide)]
      exact h3 j
    · rw [upd_c (by decide)]
      exact h4 j
    · rw [upd_c (by omega)]
      exact h5 what (by omega)
  · intro i hi ih M' h1 h2 h3 h4 h5
    refine t_RuleBook_add_20 hP (fun q => by omega) (fun _ => ?_)
    rw [h2]
    refine ih _ (fun c hc => ?_) ?_ (fun j => ?_) (fun j => ?_) (fun what hw => ?_)
    · rw [upd_r (by omega)]
      exact h1 c hc
    · rw [upd_c (by omega)]
      exact h2
    · rw [upd_c (by omega)]
      exact h3 j
    · rw [upd_c (by omega)]
      exact h4 j
    · by_cases e : what = i
      · rw [e, upd_s, h1 34 (by omega)]
      · rw [upd_i e]
        exact h5 what (by omega)
  · intro c hc
    rw [upd_r (by omega), upd_r (by omega)]
  · rw [upd_c (by decide), upd_c (by decide)]
    exact hR.1
  · intro j
    rw [upd_c (by decide)]
    by_cases e : j = R
    · rw [e, upd_s, if_pos rfl]
    · rw [upd_i e, if_neg e]
  · intro j
    by_cases e : j = R
    · rw [e, upd_s, if_pos rfl]
    · rw [upd_i e, upd_c (by decide), if_neg e]
def KR (base : Int) (g m : Int → Int) (c : Nat) (j : Int) : Int := if base ≤ j ∧ j < base + c then g (j - base) else m j
theorem s_ruleM (hP : Clo P) {Q : Qp_} {M1 : Mm_} {n R base day : Int} {b : Int → Int} {c : Nat} (hn : 0 ≤ n ∧ n ≤ 120) (h23 : M1 112 23 = n) (hb : ∀ z, 0 ≤ z ∧ z < n → M1 130 z = b z) (hb0 : ∀ z, 0 ≤ z ∧ z < n → 0 ≤ b z) (hR : M1 112 14 = R ∧ 0 ≤ R ∧ R < 8) (h17 : M1 112 17 = base ∧ 0 ≤ base ∧ base ≤ 56) (hd : 0 ≤ day ∧ day ≤ 999) (hg : GO b n R c) (hc : n ≤ pos b n R c ∨ pos b n R c < n ∧ ¬ (clz b n R c).1 = 0) (k1 : n ≤ pos b n R c → ∀ M', MS M1 (pos b n R c) (-1) (KR base (ck b n R) (M1 126) c) (KR base (cn b n R) (M1 127) c) M' → Q (some (0, R)) WF (updM (updM (updM (updM (updM (updM (updM M' 112 23 0) 124 R day) 125 R base) 112 17 (base + c)) 112 14 (R + 1)) 125 (R + 1) (base + c)) 112 8 0)) (k0 : pos b n R c < n → ¬ (clz b n R c).1 = 0 → ∀ M' p' kd' nb', MS M1 p' (clz b n R c).2.1 kd' nb' M' → (∀ j, j < base → kd' j = M1 126 j ∧ nb' j = M1 127 j) → Q (some (0, -10 - (clz b n R c).1)) WF (updM M' 112 23 0)) : P 103 0 [some (2, 112), some (0, day), none, none] [] WF M1 (0, 0) Q := by
  have hR8 : 0 ≤ R ∧ R ≤ 8 := by omega
  have c8 := GO_8 hn.1 hR8 hg
  refine t_Mo_rule_0 hP (fun q => by omega) (fun _ q => by omega) (fun _ _ _ => ?_) (fun _ _ q => by omega)
  have cx : ∀ i : Nat, CLS b n R (decide (8 ≤ (i : Int))) (pos b n R i) = clz b n R i := fun i => by
    unfold clz
    rw [Int.toNat_natCast]
  refine lpN (n := c) (f := fun i : Nat => ∀ M' z, 0 ≤ z ∧ z ≤ n → av (isB b) n z = pos b n R i → MS M1 z (-1) (KR base (ck b n R) (M1 126) i) (KR base (cn b n R) (M1 127) i) M' → P 103 24 [some (2, 112), some (0, day), some (0, (i : Int)), some (0, 0)] [] WF M' (0, 0) Q) ?_ ?_ 0 (Nat.zero_le _) _ 0 (by omega) rfl ?_
  · intro M' z hz ez h
    refine t_Mo_rule_24 hP (fun q => absurd rfl q) (fun q => absurd rfl q) (fun _ => s_hereM hP hn.2 h23 hb _ _ _ rfl hz.1 h fun M2 h2 => ?_)
    rw [ez] at h2 ⊢
    have e14 : M2 112 14 = R := (h2.2.1 14 (by decide)).trans hR.1
    have e17 : M2 112 17 = base := (h2.2.1 17 (by decide)).trans h17.1
    rcases hc with hc | ⟨hc, hx⟩
    · rw [if_neg (by omega)]
      refine t_Mo_rule_28 hP (fun _ _ => ?_) (fun _ q => absurd (Int.le_refl _) q) (fun q => absurd (by decide) q) (fun q => absurd (by decide) q)
      have := k1 hc M2 h2
      rw [e14, e17, show R + 1 - 1 = R by omega]
      exact this
    · have pb := pos_bd hn.1 hR8 hg
      rw [if_pos hc]
      have cp := CLS_pos (b := b) (n := n) (R := R) (p := pos b n R c) (tm := decide (8 ≤ (c : Int)))
      rw [cx c] at cp
      have bad : ∀ M3 p' kd' nb', MS M1 p' (clz b n R c).2.1 kd' nb' M3 → (∀ j, j ≠ base + c → kd' j = KR base (ck b n R) (M1 126) c j ∧ nb' j = KR base (cn b n R) (M1 127) c j) → P 103 41 [some (2, 112), some (0, day), some (0, (c : Int)), none] [(0, (clz b n R c).1)] WF M3 (0, 0) Q := fun M3 p' kd' nb' h3 g3 => by
        refine t_Mo_rule_41 hP (fun _ => t_Mo_rule_24 hP (fun _ q => by omega) (fun _ _ => k0 hc hx M3 p' kd' nb' h3 fun j hj => ?_) (fun q => absurd q hx)) (fun q => absurd q hx)
        have := g3 j (by omega)
        unfold KR at this
        rw [if_neg (by omega), if_neg (by omega)] at this
        exact this
      have bp := hb0 (pos b n R c) (by omega)
      refine t_Mo_rule_28 hP (fun q => by omega) (fun q => by omega) (fun _ q => ?_) (fun _ q => ?_)
      · rw [e17]
        exact s_clauseM hP hn.2 h23 hb hR.1 hR8 (by omega) (by omega) pb.2.2 _ (by decide) h2 ((congrArg (fun t => CLS b n R t (pos b n R c)) (decide_eq_false (by omega)).symm).trans (cx c)) (fun z => absurd z hx) (fun _ M3 p' kd' nb' h3 g3 => bad M3 p' kd' nb' h3 g3)
      · rw [e17]
        exact s_clauseM hP hn.2 h23 hb hR.1 hR8 (by omega) (by omega) pb.2.2 _ (by decide) h2 ((congrArg (fun t => CLS b n R t (pos b n R c)) (decide_eq_true (by omega)).symm).trans (cx c)) (fun z => absurd z hx) (fun _ M3 p' kd' nb' h3 g3 => bad M3 p' kd' nb' h3 g3)
  · intro i hi ih M' z hz ez h
    refine t_Mo_rule_24 hP (fun q => absurd rfl q) (fun q => absurd rfl q) (fun _ => s_hereM hP hn.2 h23 hb _ _ _ rfl hz.1 h fun M2 h2 => ?_)
    rw [ez] at h2 ⊢
    have e17 : M2 112 17 = base := (h2.2.1 17 (by decide)).trans h17.1
    have pb := pos_bd hn.1 hR8 (c := i) fun j hj => hg j (by omega)
    have gi := hg i hi
    rw [if_pos gi.1]
    have bp := hb0 (pos b n R i) (by omega)
    refine t_Mo_rule_28 hP (fun q => by omega) (fun q => by omega) (fun _ q => ?_) (fun _ q => by omega)
    rw [e17]
    refine s_clauseM hP hn.2 h23 hb hR.1 hR8 (by omega) (by omega) pb.2.2 _ (by decide) h2 ((congrArg (fun t => CLS b n R t (pos b n R i)) (decide_eq_false (by omega)).symm).trans (cx i)) (fun _ M3 h3 => t_Mo_rule_41 hP (fun q => absurd rfl q) (fun _ => ?_)) (fun z => absurd gi.2 z)
    have v := CLS_v pb.2.1 hR8 (cx i) gi.2
    refine ih M3 (clz b n R i).2.2.2.2 (by omega) ?_ ?_
    · show _ = av (isB b) n (CLS b n R (decide (8 ≤ (i : Int))) (pos b n R i)).2.2.2.2
      rw [cx i]
    · have kr : ∀ (g m : Int → Int), (fun j => if j = base + (i : Int) then g i else KR base g m i j) = KR base g m (i + 1) := fun g m => funext fun j => by
        unfold KR
        by_cases e : j = base + (i : Int)
        · rw [if_pos e, if_pos (by omega), e, show base + (i : Int) - base = i by omega]
        · rw [if_neg e]
          by_cases e2 : base ≤ j ∧ j < base + (i : Int)
          · rw [if_pos e2, if_pos (by omega)]
          · rw [if_neg e2, if_neg (by omega)]
      rw [← kr, ← kr]
      exact h3
  · have kr : ∀ (g m : Int → Int), KR base g m 0 = m := fun g m => funext fun j => by
      unfold KR
      rw [if_neg (by omega)]
    rw [kr, kr]
    refine ⟨fun c c1 _ _ => by rw [upd_r c1, upd_r c1], fun j hj => ?_, upd_s _ _ _ _, ?_, fun j => ?_, fun j => ?_⟩
    · rw [upd_i (by omega), upd_i (by omega)]
    · rw [upd_i (by decide), upd_s]
    · rw [upd_c (by decide), upd_c (by decide)]
    · rw [upd_c (by decide), upd_c (by decide)]
theorem tw_rule (hP : Clo P) {day : Int} : Two P L xs 93 [some (2, 0), some (0, day), none] 103 [some (2, 112), some (0, day), none, none] := by
  intro M hI
  have hI0 := hI
  obtain ⟨A, B, hS, hW, hC, hSn, hN⟩ := hI
  obtain ⟨t0, t1, t2⟩ := rdT hS hW.2.1
  obtain ⟨g1, g2, g3, g4, g5, g6⟩ := hN
  have hWR := hW.2.2.2
  have w0 := hWR.1
  have m14 : M 112 14 = B 112 14 := hS 112 14 (by unfold Pc; omega)
  have m17 : M 112 17 = B 112 17 := hS 112 17 (by unfold Pc; omega)
  have m35 : M 35 3 = B 112 14 := (congrFun (hS.r 35) 3).trans hWR.1.2.2.1
  have m323 : M 32 3 = A 112 23 := (congrFun (hSn.r 32) 3).trans g5.1
  have m23 : M 112 23 = A 112 23 := hSn 112 23 (by unfold Pn; omega)
  by_cases h1 : 0 ≤ day ∧ day ≤ 999
  · by_cases h2 : B 112 14 < 8
    · obtain ⟨R, hR⟩ : ∃ R, R = B 112 14 := ⟨_, rfl⟩
      obtain ⟨n, hn⟩ : ∃ n, n = A 112 23 := ⟨_, rfl⟩
      obtain ⟨base, hbs⟩ : ∃ base, base = B 112 17 := ⟨_, rfl⟩
      rw [← hR] at m14 m35 h2
      rw [← hn] at m323 m23
      rw [← hbs] at m17
      have bb := hWR.2.2.1 (B 112 14) (by have := hWR.1; omega)
      rw [hWR.1.2.2.2, ← hbs, ← hR] at bb
      have R0 : 0 ≤ R ∧ R < 8 := by have := hWR.1; omega
      have hn0 : 0 ≤ n ∧ n ≤ 120 := by omega
      have hb : ∀ z, 0 ≤ z ∧ z < n → M 130 z = M 33 z ∧ 0 ≤ M 33 z := fun z hz => by
        rw [hSn.r 130, hSn.r 33]
        have := g6 z (by omega)
        omega
      refine ⟨fun r M1 => (∃ (c : Nat) (t : Int → Int), r = R ∧ GO (M 33) n R c ∧ n ≤ pos (M 33) n R c ∧ (∀ j, 0 ≤ j ∧ j < 7 → t j = -1) ∧ (∀ cc, ¬ (32 ≤ cc ∧ cc ≤ 37 ∨ cc = 39 + R ∨ cc = 47 ∨ cc = 70) → M1 cc = M cc) ∧ (M1 32 3 = 0 ∧ M1 32 6 = -1 ∧ M1 35 3 = R + 1 ∧ M1 47 9 = -1 ∧ M1 70 5 = 0) ∧ (∀ j, M1 36 j = if j = R then day else M 36 j) ∧ (∀ j, M1 37 j = if j = R then STr (M 33) n R c else M 37 j) ∧ ∀ what, 0 ≤ what ∧ what < 7 → M1 (39 + R) what = TLr (M 33) n R t c what) ∨ (∃ c : Nat, r = -10 - (clz (M 33) n R c).1 ∧ GO (M 33) n R c ∧ pos (M 33) n R c < n ∧ ¬ (clz (M 33) n R c).1 = 0 ∧ (∀ cc, cc ≠ 32 → cc ≠ 34 → M1 cc = M cc) ∧ M1 32 3 = 0 ∧ M1 32 6 = (clz (M 33) n R c).2.1), fun Q k => ?_, fun r M1 hR' => ?_⟩
      · refine t_BW_rule_0 hP (fun q => by omega) (fun _ q => by omega) (fun _ _ _ => ?_) (fun _ _ q => by omega)
        rw [m35]
        refine s_readC hP hn0 (by omega) (fun a ha => (hS.r a (by omega)).trans (hW.1 a ha)) m323 (fun c Mr t hg hp ht h => t_BW_rule_18 hP (fun _ => ?_) (fun q => absurd rfl q)) (fun c Mr p' st' tl' hg hp hx h => t_BW_rule_18 hP (fun q => absurd q hx) (fun _ => ?_) (s1 := fun _ => ?_))
        · obtain ⟨y1, y2, y3, y4, y5, y6, y7⟩ := h
          refine s_add hP (R := R) ⟨?_, R0⟩ fun M' z1 z2 z3 z4 z5 => t_BW_rule_37 hP (k _ _ (Or.inl ⟨c, t, rfl, hg, hp, ht, fun cc hcc => ?_, ⟨?_, ?_, z2, ?_, ?_⟩, fun j => ?_, fun j => ?_, fun what hw => ?_⟩))
          · rw [upd_c (by decide), upd_c (by decide), y1 35 (by decide) (by decide)]
            exact m35
          · rw [z1 cc (by omega), upd_r (by omega), upd_r (by omega)]
            exact y1 cc (by omega) (by omega)
          · rw [z1 32 (by omega), upd_c (by decide), upd_c (by decide)]
            exact y2
          · rw [z1 32 (by omega), upd_c (by decide), upd_c (by decide)]
            exact y5
          · rw [z1 47 (by omega), upd_c (by decide), upd_s]
          · rw [z1 70 (by omega), upd_s]
          · rw [z3, upd_c (by decide), upd_c (by decide), y1 36 (by decide) (by decide)]
          · rw [z4, upd_c (by decide), upd_c (by decide), y1 37 (by decide) (by decide), y6]
          · rw [z5 what hw, upd_c (by decide), upd_c (by decide)]
            exact y7 what
        · obtain ⟨y1, y2, y3, y4, y5, y6, y7⟩ := h
          exact k _ _ (Or.inr ⟨c, rfl, hg, hp, hx, y1, y2, y5⟩)
        · have := CLS_pos (b := M 33) (n := n) (R := R) (p := pos (M 33) n R ((c : Int)).toNat) (tm := decide (8 ≤ (c : Int)))
          have e : (clz (M 33) n R c).1 = (CLS (M 33) n R (decide (8 ≤ (c : Int))) (pos (M 33) n R ((c : Int)).toNat)).1 := rfl
          omega
      · rcases hR' with ⟨c, t, hr0, hg, hp, ht, f1, ⟨f2, f3, f4, f5, f6⟩, f7, f8, f9⟩ | ⟨c, hr0, hg, hp, hx, f1, f2, f3⟩
        · rw [hr0]
          refine ⟨by rw [f1 (-2) (by omega)]; exact hI0.ro, fun Q k => ?_⟩
          have c8 := GO_8 hn0.1 (by omega) hg
          have n112 : M1 112 = M 112 := f1 112 (by omega)
          refine s_ruleM hP (n := n) (R := R) (base := base) (b := M 33) (c := c) hn0 (by rw [n112]; exact m23) (fun z hz => by rw [f1 130 (by omega)]; exact (hb z hz).1) (fun z hz => (hb z hz).2) ⟨by rw [n112]; exact m14, R0⟩ ⟨by rw [n112]; exact m17, by omega⟩ h1 hg (Or.inl hp) (fun _ M' h => k _ ?_) (fun q => by omega)
          obtain ⟨w1, w2, w3, w4, w5, w6⟩ := h
          obtain ⟨M2, hM2⟩ : ∃ M2, M2 = updM (updM (updM (updM (updM (updM (updM M' 112 23 0) 124 R day) 125 R base) 112 17 (base + c)) 112 14 (R + 1)) 125 (R + 1) (base + c)) 112 8 0 := ⟨_, rfl⟩
          rw [← hM2]
          have hr : ∀ cc q, M2 cc q = if cc = 112 ∧ q = 8 then 0 else if cc = 125 ∧ q = R + 1 then base + c else if cc = 112 ∧ q = 14 then R + 1 else if cc = 112 ∧ q = 17 then base + c else if cc = 125 ∧ q = R then base else if cc = 124 ∧ q = R then day else if cc = 112 ∧ q = 23 then 0 else M' cc q := fun cc q => by rw [hM2]; rfl
          clear hM2
          have hc1 : ∀ cc, ¬ (cc = 112 ∨ 124 ≤ cc ∧ cc ≤ 127) → M2 cc = M1 cc := fun cc h => funext fun q => by
            have : M2 cc q = M' cc q := by (rw [hr]; repeat first | rw [if_neg (by omega)] | rw [if_pos (by omega)])
            rw [this, w1 cc (by omega) (by omega) (by omega)]
          have hc : ∀ cc, ¬ (32 ≤ cc ∧ cc ≤ 37 ∨ cc = 39 + R ∨ cc = 47 ∨ cc = 70 ∨ cc = 112 ∨ 124 ≤ cc ∧ cc ≤ 127) → M2 cc = M cc := fun cc h => (hc1 cc (by omega)).trans (f1 cc (by omega))
          have hd : ∀ q, ¬ (q = 8 ∨ q = 14 ∨ q = 17 ∨ 23 ≤ q ∧ q ≤ 28) → M2 112 q = M 112 q := fun q h => by
            have : M2 112 q = M' 112 q := by (rw [hr]; repeat first | rw [if_neg (by omega)] | rw [if_pos (by omega)])
            rw [this, w2 q (by omega), n112]
          have x8 : M2 112 8 = 0 := by (rw [hr]; repeat first | rw [if_neg (by omega)] | rw [if_pos (by omega)])
          have x14 : M2 112 14 = R + 1 := by (rw [hr]; repeat first | rw [if_neg (by omega)] | rw [if_pos (by omega)])
          have x17 : M2 112 17 = base + c := by (rw [hr]; repeat first | rw [if_neg (by omega)] | rw [if_pos (by omega)])
          have x23 : M2 112 23 = 0 := by (rw [hr]; repeat first | rw [if_neg (by omega)] | rw [if_pos (by omega)])
          have x24 : M2 112 24 = -1 := by
            have : M2 112 24 = M' 112 24 := by (rw [hr]; repeat first | rw [if_neg (by omega)] | rw [if_pos (by omega)])
            rw [this, w4]
          have x9 : M2 112 9 = A 112 9 := (hd 9 (by decide)).trans (hSn 112 9 (by unfold Pn; omega))
          have x0 : M2 112 0 = B 112 0 := (hd 0 (by decide)).trans t1
          have e115 : M2 115 = B 115 := (hc 115 (by omega)).trans (hS.r 115)
          refine ⟨M2, M2, Sc.refl _, ⟨fun a ha => ?_, ?_, ?_, ?_⟩, Ca_0 ?_ ?_ x8, Sn.refl _, ?_, ?_, ?_, ?_, ?_, ?_⟩
          · rw [hc a (by omega), hS.r a (by omega)]
            exact hW.1 a ha
          · refine WfT_c hW.2.1 (fun a ha => ?_) x0 (fun a j ha hj => ?_)
            · rw [hc a (by omega), hS.r a (by omega)]
            · rw [hc a (by omega)]
              exact hS a j (by unfold Pc; omega)
          · exact WfL_c hW.2.2.1 fun a ha => by rw [hc a (by omega), hS.r a (by omega)]
          · refine WfR_add (R := R) (base := base) (day := day) (c := c) (ck := ck (M 33) n R) (cn := cn (M 33) n R) hWR ⟨hR.symm, by omega⟩ hbs.symm c8 h1 x14 x17 ?_ (fun r hr1 => ⟨?_, ?_, ?_, fun what hw => ?_⟩) ⟨?_, ?_⟩ (fun r hr1 => ?_) ?_ ?_ (fun what hw => ?_) (fun j hj => ⟨?_, ?_⟩) (fun i hi => ⟨?_, ?_⟩) (fun i hi => cl_v hn0.1 (by omega) hg hi)
            · rw [hc1 35 (by omega)]; exact f4
            · have : M2 124 r = M' 124 r := by (rw [hr]; repeat first | rw [if_neg (by omega)] | rw [if_pos (by omega)])
              rw [this, w1 124 (by decide) (by decide) (by decide), f1 124 (by omega), hS.r 124]
            · rw [hc1 36 (by omega), f7, if_neg (by omega), hS.r 36]
            · rw [hc1 37 (by omega), f8, if_neg (by omega), hS.r 37]
            · rw [hc (39 + r) (by omega), hS.r (39 + r) (by omega)]
            · (rw [hr]; repeat first | rw [if_neg (by omega)] | rw [if_pos (by omega)])
            · rw [hc1 36 (by omega), f7, if_pos rfl]
            · by_cases e : r = R
              · have : M2 125 r = base := by (rw [hr]; repeat first | rw [if_neg (by omega)] | rw [if_pos (by omega)])
                rw [this, e, hR, w0.2.2.2, hbs]
              · have : M2 125 r = M' 125 r := by (rw [hr]; repeat first | rw [if_neg (by omega)] | rw [if_pos (by omega)])
                rw [this, w1 125 (by decide) (by decide) (by decide), f1 125 (by omega), hS.r 125]
            · (rw [hr]; repeat first | rw [if_neg (by omega)] | rw [if_pos (by omega)])
            · rw [hc1 37 (by omega), f8, if_pos rfl, ST_ok hn0.1 (by omega) hg]
            · rw [hc1 (39 + R) (by omega), f9 what hw]
              exact TL_ok hw (ht what hw) c
            · have : M2 126 j = M' 126 j := by (rw [hr]; repeat first | rw [if_neg (by omega)] | rw [if_pos (by omega)])
              rw [this, w5]
              unfold KR
              rw [if_neg (by omega), f1 126 (by omega), hS.r 126]
            · have : M2 127 j = M' 127 j := by (rw [hr]; repeat first | rw [if_neg (by omega)] | rw [if_pos (by omega)])
              rw [this, w6]
              unfold KR
              rw [if_neg (by omega), f1 127 (by omega), hS.r 127]
            · have : M2 126 (base + (i : Int)) = M' 126 (base + (i : Int)) := by (rw [hr]; repeat first | rw [if_neg (by omega)] | rw [if_pos (by omega)])
              rw [this, w5]
              unfold KR
              rw [if_pos (by omega), show base + (i : Int) - base = i by omega]
            · have : M2 127 (base + (i : Int)) = M' 127 (base + (i : Int)) := by (rw [hr]; repeat first | rw [if_neg (by omega)] | rw [if_pos (by omega)])
              rw [this, w6]
              unfold KR
              rw [if_pos (by omega), show base + (i : Int) - base = i by omega]
          · rw [hc1 47 (by omega)]; exact f5
          · rw [hc1 70 (by omega)]; exact f6
          · intro z hz
            have a1 : M2 (3 + 2 * z) 1 = A (3 + 2 * z) 1 := by
              rw [hc (3 + 2 * z) (by omega)]
              exact hSn _ _ (by unfold Pn; omega)
            rw [a1, hc 117 (by omega), hSn.r 117, e115]
            exact g1 z hz
          · rw [hc 117 (by omega), hSn.r 117]
            exact g2
          · rw [x9, hc 27 (by omega), hSn.r 27]
            exact g3
          · rw [x9, x0, e115, hc 28 (by omega), hc 29 (by omega), hc 30 (by omega), hc 31 (by omega), hc 120 (by omega), hc 121 (by omega), hc 122 (by omega), hc 123 (by omega), hSn.r 28, hSn.r 29, hSn.r 30, hSn.r 31, hSn.r 120, hSn.r 121, hSn.r 122, hSn.r 123]
            exact g4
          · rw [x23, x24, hc1 32 (by omega), f2, f3]
            omega
          · rw [x23]
            intro i hi
            omega
        · rw [hr0]
          refine ⟨by rw [f1 (-2) (by omega) (by omega)]; exact hI0.ro, fun Q k => ?_⟩
          have n112 : M1 112 = M 112 := f1 112 (by decide) (by decide)
          refine s_ruleM hP (n := n) (R := R) (base := base) (b := M 33) (c := c) hn0 (by rw [n112]; exact m23) (fun z hz => by rw [f1 130 (by decide) (by decide)]; exact (hb z hz).1) (fun z hz => (hb z hz).2) ⟨by rw [n112]; exact m14, R0⟩ ⟨by rw [n112]; exact m17, by omega⟩ h1 hg (Or.inr ⟨hp, hx⟩) (fun q => by omega) (fun _ _ M' p' kd' nb' h hkn => k _ ?_)
          obtain ⟨w1, w2, w3, w4, w5, w6⟩ := h
          obtain ⟨M2, hM2⟩ : ∃ M2, M2 = updM M' 112 23 0 := ⟨_, rfl⟩
          rw [← hM2]
          have hr : ∀ cc q, M2 cc q = if cc = 112 ∧ q = 23 then 0 else M' cc q := fun cc q => by rw [hM2]; rfl
          clear hM2
          have hc1 : ∀ cc, ¬ (cc = 112 ∨ 126 ≤ cc ∧ cc ≤ 127) → M2 cc = M1 cc := fun cc h => funext fun q => by
            have : M2 cc q = M' cc q := by (rw [hr]; repeat first | rw [if_neg (by omega)] | rw [if_pos (by omega)])
            rw [this, w1 cc (by omega) (by omega) (by omega)]
          have hc : ∀ cc, ¬ (cc = 32 ∨ cc = 34 ∨ cc = 112 ∨ 126 ≤ cc ∧ cc ≤ 127) → M2 cc = M cc := fun cc h => (hc1 cc (by omega)).trans (f1 cc (by omega) (by omega))
          have hd : ∀ q, ¬ (23 ≤ q ∧ q ≤ 28) → M2 112 q = M 112 q := fun q h => by
            have : M2 112 q = M' 112 q := by (rw [hr]; repeat first | rw [if_neg (by omega)] | rw [if_pos (by omega)])
            rw [this, w2 q (by omega), n112]
          have x23 : M2 112 23 = 0 := by (rw [hr]; repeat first | rw [if_neg (by omega)] | rw [if_pos (by omega)])
          have x24 : M2 112 24 = (clz (M 33) n R c).2.1 := by
            have : M2 112 24 = M' 112 24 := by (rw [hr]; repeat first | rw [if_neg (by omega)] | rw [if_pos (by omega)])
            rw [this, w4]
          have x9 : M2 112 9 = A 112 9 := (hd 9 (by decide)).trans (hSn 112 9 (by unfold Pn; omega))
          obtain ⟨B', hB'⟩ : ∃ B' : Mm_, B' = fun cc => if cc = 126 then M2 126 else if cc = 127 then M2 127 else B cc := ⟨_, rfl⟩
          have e6 : B' 126 = M2 126 := by rw [hB']; rfl
          have e7 : B' 127 = M2 127 := by rw [hB']; rfl
          have ee : ∀ cc, cc ≠ 126 → cc ≠ 127 → B' cc = B cc := fun cc c1 c2 => by
            rw [hB']
            show (if cc = 126 then M2 126 else if cc = 127 then M2 127 else B cc) = B cc
            rw [if_neg c1, if_neg c2]
          clear hB'
          have lowr : ∀ j, 0 ≤ j ∧ j < B 112 17 → B' 126 j = B 126 j ∧ B' 127 j = B 127 j := fun j hj => by
            have q := hkn j (by omega)
            have q1 : M2 126 j = M' 126 j := by (rw [hr]; repeat first | rw [if_neg (by omega)] | rw [if_pos (by omega)])
            have q2 : M2 127 j = M' 127 j := by (rw [hr]; repeat first | rw [if_neg (by omega)] | rw [if_pos (by omega)])
            rw [e6, e7, q1, q2, w5, w6, q.1, q.2, f1 126 (by decide) (by decide), f1 127 (by decide) (by decide), hS.r 126, hS.r 127]
            exact ⟨rfl, rfl⟩
          obtain ⟨wf, hh⟩ := WfR_f ee hWR lowr
          have b0 : B' 112 = B 112 := ee 112 (by decide) (by decide)
          have b115 : B' 115 = B 115 := ee 115 (by decide) (by decide)
          refine ⟨M2, B', fun cc q hq => ?_, ⟨fun a ha => ?_, ?_, ?_, wf⟩, Ca_h ee hh (Ca_c (by omega) hC (fun cc h => hc cc (by omega)) (hd 8 (by decide)) (hc 135 (by omega))), Sn.refl _, ?_, ?_, ?_, ?_, ?_, ?_⟩
          · by_cases c1 : cc = 126
            · rw [c1, e6]
            · by_cases c2 : cc = 127
              · rw [c2, e7]
              · rw [ee cc c1 c2]
                by_cases c3 : cc = 112
                · subst c3
                  rw [hd q (by unfold Pc at hq; omega)]
                  exact hS 112 q hq
                · rw [hc cc (by unfold Pc at hq; omega)]
                  exact hS cc q hq
          · rw [ee a (by omega) (by omega)]
            exact hW.1 a ha
          · exact WfT_c hW.2.1 (fun a ha => ee a (by omega) (by omega)) (by rw [b0]) (fun a j ha hj => by rw [ee a (by omega) (by omega)])
          · exact WfL_c hW.2.2.1 fun a ha => ee a (by omega) (by omega)
          · intro z hz
            have a1 : M2 (3 + 2 * z) 1 = A (3 + 2 * z) 1 := by
              rw [hc (3 + 2 * z) (by omega)]
              exact hSn _ _ (by unfold Pn; omega)
            rw [a1, hc 117 (by omega), hSn.r 117, b115]
            exact g1 z hz
          · rw [hc 117 (by omega), hSn.r 117]
            exact g2
          · rw [x9, hc 27 (by omega), hSn.r 27]
            exact g3
          · rw [x9, b0, b115, hc 28 (by omega), hc 29 (by omega), hc 30 (by omega), hc 31 (by omega), hc 120 (by omega), hc 121 (by omega), hc 122 (by omega), hc 123 (by omega), hSn.r 28, hSn.r 29, hSn.r 30, hSn.r 31, hSn.r 120, hSn.r 121, hSn.r 122, hSn.r 123]
            exact g4
          · rw [x23, x24, hc1 32 (by omega), f2, f3]
            omega
          · rw [x23]
            intro i hi
            omega
    · refine ⟨fun r M1 => r = -1004 ∧ M1 = M, fun Q k => ?_, fun r M1 hR => ?_⟩
      · refine t_BW_rule_0 hP ?_ ?_ ?_ ?_ <;> intros <;> first | (exfalso; omega) | exact k _ _ ⟨rfl, rfl⟩
      · obtain ⟨rfl, rfl⟩ := hR
        refine ⟨hI0.ro, fun Q k => ?_⟩
        refine t_Mo_rule_0 hP ?_ ?_ ?_ ?_ <;> intros <;> first | (exfalso; omega) | exact k _ hI0
  · refine ⟨fun r M1 => r = -1002 ∧ M1 = M, fun Q k => ?_, fun r M1 hR => ?_⟩
    · refine t_BW_rule_0 hP ?_ ?_ ?_ ?_ <;> intros <;> first | (exfalso; omega) | exact k _ _ ⟨rfl, rfl⟩
    · obtain ⟨rfl, rfl⟩ := hR
      refine ⟨hI0.ro, fun Q k => ?_⟩
      refine t_Mo_rule_0 hP ?_ ?_ ?_ ?_ <;> intros <;> first | (exfalso; omega) | exact k _ hI0
end RU
