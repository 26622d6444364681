/-! RUNS, as the class finds them: by bits, all places of a source at once -/
def lkP (B : Mm_) (mean x y i j : Int) : Bool := decide (j < B 115 y) && lkB B mean (B 116 (60 * x + i)) (B 116 (60 * y + j))
def slE (B : Mm_) (mean x y i j : Int) (n : Nat) : Nat := cntB (fun m => !lkP B mean x y (i + m) (j + m)) n
def keyf (B : Mm_) (mean w : Int) : Int := if mean = 1 then B 24 w else w
theorem key_lk {B : Mm_} (hL : WfL B) {mean v w : Int} (hv : 1 ≤ v ∧ v ≤ 200) (hw : 1 ≤ w ∧ w ≤ 200) : keyf B mean v = keyf B mean w ↔ lkB B mean v w = true := by
  unfold keyf lkB
  rw [decide_eq_true_iff]
  by_cases h : mean = 1
  · rw [if_pos h, if_pos h, hL.2 v w hv hw]
    constructor
    · exact fun g => Or.inr ⟨h, g⟩
    · rintro (g | g)
      · rw [g]
      · exact g.2
  · rw [if_neg h, if_neg h]
    constructor
    · exact Or.inl
    · rintro (g | g)
      · exact g
      · exact absurd g.1 h
theorem cntB_mono {p : Int → Bool} {m : Nat} : ∀ {n : Nat}, m ≤ n → cntB p m ≤ cntB p n
  | 0, h => by rw [show m = 0 by omega]; exact Nat.le_refl _
  | n + 1, h => by
    by_cases e : m = n + 1
    · rw [e]
      exact Nat.le_refl _
    · have := cntB_mono (p := p) (show m ≤ n by omega)
      show cntB p m ≤ cntB p n + _
      omega
theorem cntB_add (p : Int → Bool) (a : Nat) : ∀ b : Nat, cntB p (a + b) = cntB p a + cntB (fun m => p (a + m)) b
  | 0 => rfl
  | b + 1 => by
    show cntB p (a + b) + _ = cntB p a + (cntB _ b + _)
    rw [cntB_add p a b, Nat.add_assoc]
    rfl
theorem slE_slp {B : Mm_} {mean x y i j : Int} {n : Nat} (h : j + n ≤ B 115 y) : slE B mean x y i j n = slp B mean x i y j n := cntB_cong fun k hk => by
  unfold lkP
  rw [decide_eq_true (show j + (k : Int) < B 115 y by omega), Bool.true_and]
/-- a run by the class's own reckoning -/
theorem isR_iff {B : Mm_} {Lw : Int → Int} {x y i j n : Int} (hn : 1 ≤ n) (hi : i + n ≤ B 115 x) : isR B Lw x i y j n = true ↔ Lw 0 ≤ n ∧ (Lw 3 = 1 ∨ n / 2 ≤ (rar B x i n.toNat : Int)) ∧ lkP B (Lw 2) x y i j = true ∧ lkP B (Lw 2) x y (i + n - 1) (j + n - 1) = true ∧ (slE B (Lw 2) x y i j n.toNat : Int) ≤ Lw 1 := by
  unfold isR
  rw [decide_eq_true_iff]
  unfold lkP
  rw [Bool.and_eq_true, Bool.and_eq_true, decide_eq_true_iff, decide_eq_true_iff]
  constructor
  · rintro ⟨h1, h2, h3, h4, h5, h6, h7⟩
    rw [slE_slp (by omega)]
    exact ⟨h1, h7, ⟨by omega, h4⟩, ⟨by omega, h5⟩, h6⟩
  · rintro ⟨h1, h7, ⟨h8, h4⟩, ⟨h9, h5⟩, h6⟩
    rw [slE_slp (by omega)] at h6
    exact ⟨h1, hi, by omega, h4, h5, h6, h7⟩
theorem rar_sub (B : Mm_) (x : Int) (i n : Nat) : (rar B x 0 (i + n) : Int) - (rar B x 0 i : Int) = (rar B x i n : Int) := by
  unfold rar
  rw [cntB_add, Int.natCast_add]
  have : cntB (fun m => decide (B 119 (B 116 (60 * x + (0 + ((i : Int) + m)))) = 0)) n = cntB (fun m => decide (B 119 (B 116 (60 * x + ((i : Int) + m))) = 0)) n := cntB_cong fun k _ => by rw [Int.zero_add]
  rw [this]
  omega
noncomputable def Lb (B : Mm_) (x : Int) (M : Mm_) : Prop := (M 47 10 = B 115 x ∧ M 47 11 = lws B x 0 ∧ M 47 12 = lws B x 1 ∧ (M 47 13 = if lws B x 2 = 1 then 1 else 0) ∧ (M 47 14 = if lws B x 3 = 1 then 1 else 0))
  ∧ (∀ i, 0 ≤ i ∧ i < B 115 x → M 59 i = keyf B (lws B x 2) (B 116 (60 * x + i)))
  ∧ (∀ i : Nat, (i : Int) ≤ B 115 x → M 60 i = (rar B x 0 i : Int))
theorem Lk.b {B : Mm_} {x : Int} {M : Mm_} (h : Lk B x M) : Lb B x M := ⟨h.1, h.2.1, h.2.2.1⟩
theorem Lb.c {B : Mm_} {x : Int} {M M' : Mm_} (h : Lb B x M) (g : M' 47 = M 47) (g1 : M' 59 = M 59) (g2 : M' 60 = M 60) : Lb B x M' := by
  unfold Lb
  rw [g, g1, g2]
  exact h
section RN
variable {P : Jg_} {L : Nat} {xs : Nat → Int32} {B : Mm_}
theorem s_takeUp (hP : Clo P) {Q : Qp_} {M : Mm_} {x : Int} (hS : Sc B M) (hW : WfC L xs B) (hx : 0 ≤ x ∧ x < B 112 0) (k : ∀ M', (∀ c, c ≠ 47 → c ≠ 59 → c ≠ 60 → M' c = M c) → M' 47 9 = M 47 9 → Lb B x M' → Q none WF M') : P 119 0 [some (2, 47), some (0, x), none, none, none] [] WF M (0, 0) Q := by
  obtain ⟨t0, t1, t2⟩ := rdT hS hW.2.1
  have X := rdX hS hW.2.1 (x := x) (by omega)
  have tx : TX (3 + 2 * x) := tx_of (by omega)
  have lb := lws_bd hW.2.2.2 x
  refine t_Runs_takeUp_0 hP ?_
  rw [X.2.2.2.2.2.1]
  refine s_holding hP hS hW (by decide) (t_Runs_takeUp_13 hP tx ?_)
  rw [X.2.2.2.2.2.1]
  refine s_holding hP hS.u hW (by decide) (t_Runs_takeUp_21 hP tx ?_)
  rw [upd_c (by omega), X.2.2.2.2.2.1]
  refine s_holding hP hS.u.u hW (by decide) ?_
  have go : ∀ b : Int, (b = if lws B x 2 = 1 then 1 else 0) → P 107 0 [some (2, 35), some (0, 3), some (0, (updM (updM M 47 11 (hold B 0 (B 114 x))) 47 12 (hold B 1 (B 114 x))) (3 + 2 * x) 3), none, none, none, none] [] WF (updM (updM (updM M 47 11 (hold B 0 (B 114 x))) 47 12 (hold B 1 (B 114 x))) 47 13 b) (0, 0) (fun v w' M' => P 119 42 [some (2, 47), none, some (2, 3 + 2 * x), none, none] (v.toList ++ [(2, 47)]) w' M' (0, 0) Q) := by
    intro b hb
    have hb01 : b = 0 ∨ b = 1 := by rw [hb]; split <;> omega
    rw [upd_c (by omega), upd_c (by omega), X.2.2.2.2.2.1]
    refine s_holding hP hS.u.u.u hW (by decide) ?_
    have go2 : ∀ c : Int, (c = if lws B x 3 = 1 then 1 else 0) → P 119 59 [some (2, 47), none, some (2, 3 + 2 * x), some (0, 0), none] [] WF (updM (updM (updM (updM (updM (updM M 47 11 (hold B 0 (B 114 x))) 47 12 (hold B 1 (B 114 x))) 47 13 b) 47 14 c) 47 10 ((updM (updM (updM M 47 11 (hold B 0 (B 114 x))) 47 12 (hold B 1 (B 114 x))) 47 13 b) (3 + 2 * x) 4)) 60 0 0) (0, 0) Q := by
      intro c hc
      rw [upd_c (by omega), upd_c (by omega), upd_c (by omega), X.2.2.2.1]
      obtain ⟨M5, hM5⟩ : ∃ M5, M5 = updM (updM (updM (updM (updM (updM M 47 11 (hold B 0 (B 114 x))) 47 12 (hold B 1 (B 114 x))) 47 13 b) 47 14 c) 47 10 (B 115 x)) 60 0 0 := ⟨_, rfl⟩
      rw [← hM5]
      have u1 : ∀ c, c ≠ 47 → c ≠ 60 → M5 c = M c := fun c h1 h2 => by rw [hM5, upd_r h2, upd_r h1, upd_r h1, upd_r h1, upd_r h1, upd_r h1]
      have f10 : M5 47 10 = B 115 x := by rw [hM5]; rfl
      have f11 : M5 47 11 = lws B x 0 := by rw [hM5]; rfl
      have f12 : M5 47 12 = lws B x 1 := by rw [hM5]; rfl
      have f13 : M5 47 13 = b := by rw [hM5]; rfl
      have f14 : M5 47 14 = c := by rw [hM5]; rfl
      have f9 : M5 47 9 = M 47 9 := by rw [hM5]; rfl
      have f60 : M5 60 0 = 0 := by rw [hM5]; rfl
      clear hM5
      have lp := lpN (n := (B 115 x).toNat) (f := fun i : Nat => ∀ M', (∀ c, c ≠ 59 → c ≠ 60 → M' c = M5 c) → (∀ q, 0 ≤ q ∧ q < (i : Int) → M' 59 q = keyf B (lws B x 2) (B 116 (60 * x + q))) → (∀ q : Nat, q ≤ i → M' 60 q = (rar B x 0 q : Int)) → P 119 59 [some (2, 47), none, some (2, 3 + 2 * x), some (0, (i : Int)), none] [] WF M' (0, 0) Q) ?_ ?_ 0 (Nat.zero_le _)
      · refine lp M5 (fun _ _ _ => rfl) (fun q hq => by omega) (fun q hq => ?_)
        rw [show q = 0 by omega]
        exact f60
      · intro M' g1 g2 g3
        have h10 : M' 47 10 = B 115 x := by rw [g1 47 (by decide) (by decide)]; exact f10
        refine t_Runs_takeUp_59 hP tx (fun _ => k M' (fun c c1 c2 c3 => (g1 c c2 c3).trans (u1 c c1 c3)) (by rw [g1 47 (by decide) (by decide)]; exact f9) ⟨?_, fun q hq => g2 q (by omega), fun q hq => g3 q (by omega)⟩) (fun q => by omega) (fun q => by omega) (fun q => by omega) (fun q => by omega)
        rw [g1 47 (by decide) (by decide), f10, f11, f12, f13, f14]
        exact ⟨rfl, rfl, rfl, hb, hc⟩
      · intro i hi ih M' g1 g2 g3
        have h10 : M' 47 10 = B 115 x := by rw [g1 47 (by decide) (by decide)]; exact f10
        have h13 : M' 47 13 = b := by rw [g1 47 (by decide) (by decide)]; exact f13
        have w := rdW hS hW.2.1 (x := x) (i := i) (by omega) (by omega)
        have ww : M' (3 + 2 * x + 1) i = B 116 (60 * x + i) := by rw [g1 _ (by omega) (by omega), u1 _ (by omega) (by omega)]; exact w.1
        obtain ⟨l1, l2, l3, l4⟩ := hW.2.2.1.1 (B 116 (60 * x + i)) w.2.2
        have h26 : M' 26 (M' (3 + 2 * x + 1) i) = B 119 (B 116 (60 * x + i)) := by rw [ww, g1 26 (by decide) (by decide), u1 26 (by decide) (by decide), hS.r 26, l3]
        have h24 : M' 24 (M' (3 + 2 * x + 1) i) = B 24 (B 116 (60 * x + i)) := by rw [ww, g1 24 (by decide) (by decide), u1 24 (by decide) (by decide), hS.r 24]
        have h60 := g3 i (Nat.le_refl _)
        have rb : rar B x 0 i ≤ i := cntB_le _ _
        have nx : ∀ kv z : Int, kv = keyf B (lws B x 2) (B 116 (60 * x + i)) → (z = if B 119 (B 116 (60 * x + i)) = 0 then 1 else 0) → P 119 59 [some (2, 47), none, some (2, 3 + 2 * x), some (0, (i : Int) + 1), none] [] WF (updM (updM M' 59 i kv) 60 ((i : Int) + 1) ((rar B x 0 i : Int) + z)) (0, 0) Q := by
          intro kv z hkv hz
          refine ih _ (fun c c1 c2 => by rw [upd_r c2, upd_r c1]; exact g1 c c1 c2) (fun q hq => ?_) (fun q hq => ?_)
          · rw [upd_c (by decide)]
            by_cases e : q = i
            · rw [e, upd_s, hkv]
            · rw [upd_i e]
              exact g2 q (by omega)
          · by_cases e : q = i + 1
            · subst e
              rw [show ((i + 1 : Nat) : Int) = (i : Int) + 1 from rfl, upd_s]
              unfold rar
              by_cases e2 : B 119 (B 116 (60 * x + i)) = 0
              · rw [cntB_t (by rw [Int.zero_add]; exact decide_eq_true e2), hz, if_pos e2]
                rfl
              · rw [cntB_f (by rw [Int.zero_add, decide_eq_true_iff]; exact e2), hz, if_neg e2]
                exact Int.add_zero _
            · rw [upd_i (by omega), upd_c (by decide)]
              exact g3 q (by omega)
        have kt : lws B x 2 = 1 → b = 1 := fun h => by rw [hb, if_pos h]
        have kf : ¬ lws B x 2 = 1 → b = 0 := fun h => by rw [hb, if_neg h]
        have key0 : M' 47 13 = 0 → B 116 (60 * x + i) = keyf B (lws B x 2) (B 116 (60 * x + i)) := fun h => by
          unfold keyf
          rw [if_neg fun h2 => by have := kt h2; omega]
        have key1 : ¬ M' 47 13 = 0 → B 24 (B 116 (60 * x + i)) = keyf B (lws B x 2) (B 116 (60 * x + i)) := fun h => by
          unfold keyf
          by_cases h2 : lws B x 2 = 1
          · rw [if_pos h2]
          · have := kf h2
            omega
        have wbd : 1 ≤ M' (3 + 2 * x + 1) i ∧ M' (3 + 2 * x + 1) i ≤ 200 := by rw [ww]; exact w.2.2
        have lbd : 1 ≤ M' 24 (M' (3 + 2 * x + 1) i) ∧ M' 24 (M' (3 + 2 * x + 1) i) ≤ 200 := by rw [h24]; exact l1
        refine t_Runs_takeUp_59 hP tx (fun q => by omega) (fun _ q1 q2 => ?_) (fun _ q1 q2 => ?_) (fun _ q1 q2 => ?_) (fun _ q1 q2 => ?_)
        · rw [h26] at q2
          rw [ww, h60]
          exact nx _ _ (key0 q1) (by rw [if_pos q2])
        · rw [h26] at q2
          rw [ww, h60]
          exact nx _ _ (key0 q1) (by rw [if_neg q2])
        · rw [h26] at q2
          rw [h24, h60]
          exact nx _ _ (key1 q1) (by rw [if_pos q2])
        · rw [h26] at q2
          rw [h24, h60]
          exact nx _ _ (key1 q1) (by rw [if_neg q2])
    refine t_Runs_takeUp_42 hP tx (fun q => ?_) (fun q => ?_)
    · exact go2 0 (by rw [if_neg (show ¬ lws B x 3 = 1 from q)])
    · exact go2 1 (by rw [if_pos (show lws B x 3 = 1 from q)])
  refine t_Runs_takeUp_29 hP tx (fun q => ?_) (fun q => ?_)
  · exact go 0 (by rw [if_neg (show ¬ lws B x 2 = 1 from q)])
  · exact go 1 (by rw [if_pos (show lws B x 2 = 1 from q)])
theorem s_holdAgainst (hP : Clo P) {Q : Qp_} {M : Mm_} {x y : Int} (hS : Sc B M) (hW : WfC L xs B) (hx : 0 ≤ x ∧ x < B 112 0) (hy : 0 ≤ y ∧ y < B 112 0) (hL : Lb B x M) (k : ∀ M', Fr 61 62 M M' → (∀ i : Nat, (i : Int) < B 115 x → M' 62 i = (mset (lkP B (lws B x 2) x y i) 60 : Int)) → Q none WF M') : P 120 0 [some (2, 47), some (0, y), none, none] [] WF M (0, 0) Q := by
  obtain ⟨t0, t1, t2⟩ := rdT hS hW.2.1
  have X := rdX hS hW.2.1 (x := x) (by omega)
  have Y := rdX hS hW.2.1 (x := y) (by omega)
  have ty : TX (3 + 2 * y) := tx_of (by omega)
  obtain ⟨⟨f10, f11, f12, f13, f14⟩, hk, ho⟩ := hL
  have kb : ∀ w, 1 ≤ w ∧ w ≤ 200 → 1 ≤ keyf B (lws B x 2) w ∧ keyf B (lws B x 2) w ≤ 200 := fun w hw => by
    unfold keyf
    split
    · exact (hW.2.2.1.1 w hw).1
    · exact hw
  have kx : ∀ i, 0 ≤ i ∧ i < B 115 x → 1 ≤ M 59 i ∧ M 59 i ≤ 200 := fun i hi => by
    rw [hk i hi]
    exact kb _ (rdW hS hW.2.1 (x := x) (by omega) hi).2.2
  refine t_Runs_holdAgainst_0 hP ?_
  have lp3 : ∀ M', Fr 61 62 M M' → (∀ i, 0 ≤ i ∧ i < B 115 x → M' 61 (M 59 i) = (mset (lkP B (lws B x 2) x y i) 60 : Int)) → P 120 47 [some (2, 47), none, none, some (0, 0)] [] WF M' (0, 0) Q := by
    intro M' hF h61
    refine lpN (n := (B 115 x).toNat) (f := fun i : Nat => ∀ M2, Fr 61 62 M M2 → M2 61 = M' 61 → (∀ q : Nat, q < i → M2 62 q = (mset (lkP B (lws B x 2) x y q) 60 : Int)) → P 120 47 [some (2, 47), none, none, some (0, (i : Int))] [] WF M2 (0, 0) Q) ?_ ?_ 0 (Nat.zero_le _) M' hF rfl (fun q hq => by omega)
    · intro M2 g1 g2 g3
      have h10 : M2 47 10 = B 115 x := by rw [g1 47 (by omega)]; exact f10
      exact t_Runs_holdAgainst_47 hP (fun _ => k M2 g1 fun i hi => g3 i (by omega)) (fun q => by omega)
    · intro i hi ih M2 g1 g2 g3
      have h10 : M2 47 10 = B 115 x := by rw [g1 47 (by omega)]; exact f10
      have h59 : M2 59 = M 59 := g1 59 (by omega)
      have kxi := kx i (by omega)
      have h59i : M2 59 i = M 59 i := by rw [h59]
      refine t_Runs_holdAgainst_47 hP (fun q => by omega) (fun _ => ?_)
      rw [h59i, g2, h61 i (by omega)]
      refine ih _ (g1.u (by omega)) (by rw [upd_r (by decide)]; exact g2) fun q hq => ?_
      by_cases e : q = i
      · rw [e, upd_s]
      · rw [upd_i (by omega)]
        exact g3 q (by omega)
  have lp2 : ∀ M', Fr 61 62 M M' → (∀ i, 0 ≤ i ∧ i < B 115 x → M' 61 (M 59 i) = 0) → P 120 24 [some (2, 47), none, some (2, 3 + 2 * y), some (0, 0)] [] WF M' (0, 0) Q := by
    intro M' hF h61
    refine lpN (n := (B 115 y).toNat) (f := fun j : Nat => ∀ M2, Fr 61 62 M M2 → (∀ i, 0 ≤ i ∧ i < B 115 x → M2 61 (M 59 i) = (mset (fun q => decide (keyf B (lws B x 2) (B 116 (60 * y + q)) = M 59 i)) j : Int)) → P 120 24 [some (2, 47), none, some (2, 3 + 2 * y), some (0, (j : Int))] [] WF M2 (0, 0) Q) ?_ ?_ 0 (Nat.zero_le _) M' hF h61
    · intro M2 g1 g2
      have h4 : M2 (3 + 2 * y) 4 = B 115 y := by rw [g1 _ (by omega)]; exact Y.2.2.2.1
      refine t_Runs_holdAgainst_24 hP ty (fun _ => lp3 M2 g1 fun i hi => ?_) (fun q => by omega) (fun q => by omega)
      rw [g2 i hi]
      have : mset (fun q => decide (keyf B (lws B x 2) (B 116 (60 * y + q)) = M 59 i)) (B 115 y).toNat = mset (lkP B (lws B x 2) x y i) 60 := by
        rw [mset_ext (n := (B 115 y).toNat) (N := 60) (p := lkP B (lws B x 2) x y i) (by omega) fun q h1 h2 => by unfold lkP; rw [decide_eq_false (by omega)]; rfl]
        refine mset_cong fun q hq => ?_
        unfold lkP
        rw [decide_eq_true (show (q : Int) < B 115 y by omega), Bool.true_and, Bool.eq_iff_iff, decide_eq_true_iff, hk i hi]
        rw [← key_lk hW.2.2.1 (rdW hS hW.2.1 (x := x) (by omega) hi).2.2 (rdW hS hW.2.1 (x := y) (i := q) (by omega) (by omega)).2.2]
        exact eq_comm
      rw [this]
    · intro j hj ih M2 g1 g2
      have h4 : M2 (3 + 2 * y) 4 = B 115 y := by rw [g1 _ (by omega)]; exact Y.2.2.2.1
      have w := rdW hS hW.2.1 (x := y) (i := j) (by omega) (by omega)
      have ww : M2 (3 + 2 * y + 1) j = B 116 (60 * y + j) := by rw [g1 _ (by omega)]; exact w.1
      have h13 : M2 47 13 = if lws B x 2 = 1 then 1 else 0 := by rw [g1 47 (by omega)]; exact f13
      have h24 : M2 24 (M2 (3 + 2 * y + 1) j) = B 24 (B 116 (60 * y + j)) := by rw [ww, g1 24 (by omega), hS.r 24]
      have nx : ∀ kv, kv = keyf B (lws B x 2) (B 116 (60 * y + j)) → P 120 24 [some (2, 47), none, some (2, 3 + 2 * y), some (0, (j : Int) + 1)] [] WF (updM M2 61 kv (orL (M2 61 kv) (shlL 1 (j : Int)))) (0, 0) Q := by
        intro kv hkv
        refine ih _ (g1.u (by omega)) fun i hi => ?_
        by_cases e : M 59 i = kv
        · rw [e, upd_s, ← e, g2 i hi, sbL (mset_le _ (n := 63) (by omega)) (by omega), mset_put (by rw [decide_eq_true_iff, ← hkv, e])]
        · rw [upd_i e, g2 i hi, mset_skip (by rw [decide_eq_true_iff, ← hkv]; exact fun h => e h.symm)]
      have wbd : 1 ≤ M2 (3 + 2 * y + 1) j ∧ M2 (3 + 2 * y + 1) j ≤ 200 := by rw [ww]; exact w.2.2
      have lbd : 1 ≤ M2 24 (M2 (3 + 2 * y + 1) j) ∧ M2 24 (M2 (3 + 2 * y + 1) j) ≤ 200 := by rw [h24]; exact (hW.2.2.1.1 _ w.2.2).1
      refine t_Runs_holdAgainst_24 hP ty (fun q => by omega) (fun _ q => ?_) (fun _ q => ?_)
      · rw [ww]
        refine nx _ ?_
        unfold keyf
        rw [if_neg fun h => by rw [h13, if_pos h] at q; exact absurd q (by decide)]
      · rw [h24]
        refine nx _ ?_
        unfold keyf
        by_cases h : lws B x 2 = 1
        · rw [if_pos h]
        · rw [h13, if_neg h] at q
          exact absurd rfl q
  refine lpN (n := (B 115 x).toNat) (f := fun i : Nat => ∀ M2, Fr 61 62 M M2 → (∀ q, 0 ≤ q ∧ q < (i : Int) → M2 61 (M 59 q) = 0) → P 120 8 [some (2, 47), none, some (2, 3 + 2 * y), some (0, (i : Int))] [] WF M2 (0, 0) Q) ?_ ?_ 0 (Nat.zero_le _) M (Fr.refl _ _ _) (fun q hq => by omega)
  · intro M2 g1 g2
    have h10 : M2 47 10 = B 115 x := by rw [g1 47 (by omega)]; exact f10
    exact t_Runs_holdAgainst_8 hP ty (fun _ => lp2 M2 g1 fun i hi => g2 i (by omega)) (fun q => by omega)
  · intro i hi ih M2 g1 g2
    have h10 : M2 47 10 = B 115 x := by rw [g1 47 (by omega)]; exact f10
    have h59i : M2 59 i = M 59 i := by rw [g1 59 (by omega)]
    have kxi := kx i (by omega)
    refine t_Runs_holdAgainst_8 hP ty (fun q => by omega) (fun _ => ?_)
    rw [h59i]
    refine ih _ (g1.u (by omega)) fun q hq => ?_
    by_cases e : M 59 q = M 59 i
    · rw [e, upd_s]
    · rw [upd_i e]
      refine g2 q ⟨hq.1, ?_⟩
      by_cases e2 : q = i
      · rw [e2] at e
        exact absurd rfl e
      · omega
theorem s_begin (hP : Clo P) {Q : Qp_} {M : Mm_} {i : Int} (hi : 0 ≤ i ∧ i < 60) (k : ∀ M', Fr 63 63 M M' → M' 63 0 = M 62 i → M' 63 1 = 0 → M' 63 2 = 0 → M' 63 3 = 0 → Q none WF M') : P 121 0 [some (2, 47), some (0, i), none] [] WF M (0, 0) Q := by
  refine t_Runs_begin_0 hP (t_Runs_begin_2 hP (fun q => by omega) fun _ => t_Runs_begin_2 hP (fun q => by omega) fun _ => t_Runs_begin_2 hP (fun q => by omega) fun _ => t_Runs_begin_2 hP (fun q => by omega) fun _ => t_Runs_begin_2 hP (fun _ => ?_) fun q => by omega)
  refine k _ (Fr.u (Fr.u (Fr.u (Fr.u (Fr.u0 (by omega)) (by omega)) (by omega)) (by omega)) (by omega)) ?_ rfl rfl rfl
  rw [upd_s, upd_c (by decide), upd_c (by decide), upd_c (by decide), upd_c (by decide)]
end RN
