/-! moved -/
def nthB (q : Int → Bool) (n : Nat) (p : Int) : Int := fstB (fun i => q i && decide ((cntB q i.toNat : Int) = p)) n
theorem nthB_eq {q : Int → Bool} {n i : Nat} {p : Int} (hi : i < n) (h : q i = true) (hp : (cntB q i : Int) = p) : nthB q n p = i := by
  refine fstB_eq (by omega) (by rw [h, Int.toNat_natCast, decide_eq_true hp]; rfl) fun j j0 j1 => ?_
  obtain ⟨j, rfl⟩ := Int.eq_ofNat_of_zero_le j0
  rw [Bool.and_eq_false_iff, Int.toNat_natCast, decide_eq_false_iff_not]
  by_cases e : q j = true
  · right
    have := cntB_t e
    have := cntB_mono (p := q) (m := j + 1) (n := i) (by omega)
    omega
  · left
    exact Bool.eq_false_iff.mpr e
theorem nthB_ok {q : Int → Bool} {n : Nat} {p : Nat} (hp : p < cntB q n) : ∃ i : Nat, i < n ∧ q i = true ∧ cntB q i = p ∧ nthB q n p = i := by
  obtain ⟨i, h1, h2, h3⟩ := cnt_hit hp
  exact ⟨i, h1, h2, h3, nthB_eq h1 h2 (by omega)⟩
def seB (A B : Mm_) (x i : Int) : Bool := decide (A 117 (60 * x + i) = 1 ∨ i = B 115 x - 1)
def nSe (A B : Mm_) (x : Int) : Nat := cntB (seB A B x) (B 115 x).toNat
def sEn (A B : Mm_) (x s : Int) : Int := nthB (seB A B x) (B 115 x).toNat s
def sBg (A B : Mm_) (x s : Int) : Int := if s = 0 then 0 else sEn A B x (s - 1) + 1
theorem sEn_ok {A B : Mm_} {x : Int} {s : Nat} (hs : s < nSe A B x) : 0 ≤ sBg A B x s ∧ sBg A B x s ≤ sEn A B x s ∧ sEn A B x s < B 115 x := by
  obtain ⟨i, h1, h2, h3, h4⟩ := nthB_ok hs
  unfold sBg sEn
  rw [h4]
  by_cases e : (s : Int) = 0
  · rw [if_pos e]
    omega
  · rw [if_neg e]
    obtain ⟨j, g1, g2, g3, g4⟩ := nthB_ok (q := seB A B x) (n := (B 115 x).toNat) (p := s - 1) (by unfold nSe at hs; omega)
    rw [show ((s : Int) - 1) = ((s - 1 : Nat) : Int) by omega, g4]
    have : j < i := by
      apply Classical.byContradiction
      intro g
      have := cntB_mono (p := seB A B x) (m := i) (n := j) (by omega)
      omega
    omega
noncomputable def SSb (A B : Mm_) (x y s t : Int) : Bool := @decide (sEn A B x s - sBg A B x s = sEn A B y t - sBg A B y t ∧ ∀ q, 0 ≤ q ∧ q ≤ sEn A B x s - sBg A B x s → B 116 (60 * x + (sBg A B x s + q)) = B 116 (60 * y + (sBg A B y t + q))) (Classical.propDecidable _)
theorem SSb_iff {A B : Mm_} {x y s t : Int} : SSb A B x y s t = true ↔ sEn A B x s - sBg A B x s = sEn A B y t - sBg A B y t ∧ ∀ q, 0 ≤ q ∧ q ≤ sEn A B x s - sBg A B x s → B 116 (60 * x + (sBg A B x s + q)) = B 116 (60 * y + (sBg A B y t + q)) := @decide_eq_true_iff _ (Classical.propDecidable _)
/-- pairs, one by one -/
noncomputable def PA (A B : Mm_) (x y : Int) : Nat → (Int → Bool) × Nat × (Int → Int)
  | 0 => (fun _ => false, 0, fun _ => 0)
  | s + 1 => if fstB (fun t => !(PA A B x y s).1 t && SSb A B x y s t) (nSe A B y) = -1 then PA A B x y s else (fun z => (PA A B x y s).1 z || decide (z = fstB (fun t => !(PA A B x y s).1 t && SSb A B x y s t) (nSe A B y)), (PA A B x y s).2.1 + 1, fun z => if z = (PA A B x y s).2.1 then fstB (fun t => !(PA A B x y s).1 t && SSb A B x y s t) (nSe A B y) else (PA A B x y s).2.2 z)
theorem PA_k (A B : Mm_) (x y : Int) : ∀ s, (PA A B x y s).2.1 ≤ s
  | 0 => Nat.le_refl _
  | s + 1 => by
    have := PA_k A B x y s
    unfold PA
    split
    · omega
    · show (PA A B x y s).2.1 + 1 ≤ s + 1
      omega
/-- chains of pairs in one order -/
def inn (c f : Int → Int) (p : Int) : Nat → Int
  | 0 => 1
  | q + 1 => if f q < f p ∧ inn c f p q < c q + 1 then c q + 1 else inn c f p q
def chn (f : Int → Int) : Nat → (Int → Int)
  | 0 => fun _ => 0
  | p + 1 => fun z => if z = p then inn (chn f p) f p p else chn f p z
def lgs (f : Int → Int) : Nat → Int
  | 0 => 0
  | p + 1 => if lgs f p < chn f (p + 1) p then chn f (p + 1) p else lgs f p
theorem inn_bd {c f : Int → Int} {p : Int} {m : Nat} (hc : ∀ z : Nat, z < m → 1 ≤ c z ∧ c z ≤ m) : ∀ q : Nat, q ≤ m → 1 ≤ inn c f p q ∧ inn c f p q ≤ m + 1
  | 0, _ => ⟨Int.le_refl _, by show (1 : Int) ≤ _; omega⟩
  | q + 1, hq => by
    have := inn_bd (f := f) (p := p) hc q (by omega)
    have := hc q (by omega)
    unfold inn
    split <;> omega
theorem chn_bd (f : Int → Int) : ∀ p z : Nat, z < p → 1 ≤ chn f p z ∧ chn f p z ≤ p
  | 0, z, h => by omega
  | p + 1, z, h => by
    unfold chn
    by_cases e : (z : Int) = p
    · rw [if_pos e]
      have := inn_bd (f := f) (p := p) (m := p) (chn_bd f p) p (Nat.le_refl _)
      omega
    · rw [if_neg e]
      have := chn_bd f p z (by omega)
      omega
theorem lgs_bd (f : Int → Int) : ∀ p : Nat, 0 ≤ lgs f p ∧ lgs f p ≤ p
  | 0 => ⟨Int.le_refl _, Int.le_refl _⟩
  | p + 1 => by
    have := lgs_bd f p
    have := chn_bd f (p + 1) p (by omega)
    unfold lgs
    split <;> omega
section MV
variable {P : Jg_} {L : Nat} {xs : Nat → Int32} {A B : Mm_}
theorem s_split (hP : Clo P) {Q : Qp_} {M : Mm_} {x r : Int} (hI : IV L xs A B M) (hx : 0 ≤ x ∧ x < B 112 0) (hr : r = 108 ∨ r = 109) (k : ∀ M', Fr r r M M' → (∀ s : Nat, s < nSe A B x → M' r s = sEn A B x s + 1) → Q (some (0, (nSe A B x : Int))) WF M') : P 202 0 [some (2, 3 + 2 * x), some (2, r), none, none] [] WF M (0, 0) Q := by
  obtain ⟨hS, hW, hC, hSn, hN⟩ := hI
  have hT := hW.2.1.1.2.1
  have X := rdX hS hW.2.1 (x := x) (by omega)
  have e1 : M (3 + 2 * x) 1 = (mset (fun i => decide (A 117 (60 * x + i) = 1)) (B 115 x).toNat : Int) := (hSn _ _ (by unfold Pn; omega)).trans (hN.1 x (by omega))
  have tx : TX (3 + 2 * x) := tx_of (by omega)
  refine t_Sentences_split_0 hP tx hr ?_
  refine lpN (n := (B 115 x).toNat) (f := fun i : Nat => ∀ M', Fr r r M M' → (∀ s : Nat, s < cntB (seB A B x) i → M' r s = sEn A B x s + 1) → P 202 4 [some (2, 3 + 2 * x), some (2, r), some (0, (cntB (seB A B x) i : Int)), some (0, (i : Int))] [] WF M' (0, 0) Q) ?_ ?_ 0 (Nat.zero_le _) M (Fr.refl _ _ _) (fun s hs => by have : cntB (seB A B x) 0 = 0 := rfl; omega)
  · intro M' F' h
    have n4 : M' (3 + 2 * x) 4 = B 115 x := by rw [F' _ (by omega)]; exact X.2.2.2.1
    exact t_Sentences_split_4 hP tx hr (fun _ => k M' F' h) (fun q => by omega) (fun q => by omega) (fun q => by omega)
  · intro i hi ih M' F' h
    have n4 : M' (3 + 2 * x) 4 = B 115 x := by rw [F' _ (by omega)]; exact X.2.2.2.1
    have cb := cntB_le (seB A B x) i
    have tb : andL (ushrL (M' (3 + 2 * x) 1) i) 1 = if A 117 (60 * x + i) = 1 then 1 else 0 := by
      rw [F' _ (by omega), e1, tbL (mset_le _ (n := 63) (by omega)) (by omega), mset_tb, decide_eq_true (show i < (B 115 x).toNat by omega), Bool.true_and]
      simp only [decide_eq_true_iff]
    have ye : seB A B x i = true → P 202 4 [some (2, 3 + 2 * x), some (2, r), some (0, (cntB (seB A B x) i : Int) + 1), some (0, (i : Int) + 1)] [] WF (updM M' r (cntB (seB A B x) i : Int) ((i : Int) + 1)) (0, 0) Q := fun hs => by
      have ih := ih (updM M' r (cntB (seB A B x) i : Int) ((i : Int) + 1)) (F'.u (by omega))
      rw [cntB_t hs] at ih
      refine ih fun s hs2 => ?_
      by_cases e : s = cntB (seB A B x) i
      · rw [e, upd_s]
        unfold sEn
        rw [nthB_eq (by omega) hs rfl]
      · rw [upd_i (by omega)]
        exact h s (by omega)
    refine t_Sentences_split_4 hP tx hr (fun q => by omega) (fun _ q1 q2 => ?_) (fun _ q1 q2 => ye ?_) (fun _ q1 => ye ?_)
    · have ih := ih M' F'
      rw [cntB_f (by
        unfold seB
        rw [decide_eq_true_iff]
        rintro (g | g)
        · rw [tb, if_pos g] at q1
          exact absurd q1 (by decide)
        · omega)] at ih
      exact ih h
    · unfold seB
      rw [decide_eq_true_iff]
      right
      omega
    · unfold seB
      rw [decide_eq_true_iff]
      left
      apply Classical.byContradiction
      intro g
      rw [tb, if_neg g] at q1
      exact absurd rfl q1
theorem s_findS (hP : Clo P) {Q : Qp_} {M : Mm_} {x b : Int} (hI : IV L xs A B M) (hx : 0 ≤ x ∧ x < B 112 0) (hb : b = 0 ∨ b = 60) (k : ∀ M', Fr 137 138 M M' → (∀ j, ¬ (b ≤ j ∧ j < b + 60) → M' 137 j = M 137 j ∧ M' 138 j = M 138 j) → (∀ s : Nat, s < nSe A B x → M' 137 (b + s) = sBg A B x s ∧ M' 138 (b + s) = sEn A B x s) → Q (some (0, (nSe A B x : Int))) WF M') : P 207 0 [some (2, 112), some (0, x), some (0, b), none, none, none] [] WF M (0, 0) Q := by
  obtain ⟨hS, hW, hC, hSn, hN⟩ := hI
  have hT := hW.2.1.1.2.1
  have X := rdX hS hW.2.1 (x := x) (by omega)
  have m117 : M 117 = A 117 := hSn.r 117
  refine t_Mo_findSentences_0 hP ?_
  refine lpN (n := (B 115 x).toNat) (f := fun i : Nat => ∀ M', Fr 137 138 M M' → (∀ j, ¬ (b ≤ j ∧ j < b + 60) → M' 137 j = M 137 j ∧ M' 138 j = M 138 j) → (∀ s : Nat, s < cntB (seB A B x) i → M' 137 (b + s) = sBg A B x s ∧ M' 138 (b + s) = sEn A B x s) → P 207 6 [some (2, 112), some (0, x), some (0, b), some (0, (cntB (seB A B x) i : Int)), some (0, sBg A B x (cntB (seB A B x) i : Int)), some (0, (i : Int))] [] WF M' (0, 0) Q) ?_ ?_ 0 (Nat.zero_le _) M (Fr.refl _ _ _) (fun _ _ => ⟨rfl, rfl⟩) (fun s hs => by have : cntB (seB A B x) 0 = 0 := rfl; omega)
  · intro M' F' g h
    have n1 : M' 115 x = B 115 x := by rw [F' _ (by omega)]; exact X.2.2.1
    exact t_Mo_findSentences_6 hP (fun _ => k M' F' g h) (fun q => by omega) (fun q => by omega) (fun q => by omega)
  · intro i hi ih M' F' g h
    have n1 : M' 115 x = B 115 x := by rw [F' _ (by omega)]; exact X.2.2.1
    have n117 : M' 117 (60 * x + i) = A 117 (60 * x + i) := by rw [F' 117 (by omega), m117]
    have cb := cntB_le (seB A B x) i
    have a01 := hN.2.1 (60 * x + i)
    have ye : seB A B x i = true → P 207 6 [some (2, 112), some (0, x), some (0, b), some (0, (cntB (seB A B x) i : Int) + 1), some (0, (i : Int) + 1), some (0, (i : Int) + 1)] [] WF (updM (updM M' 137 (b + (cntB (seB A B x) i : Int)) (sBg A B x (cntB (seB A B x) i : Int))) 138 (b + (cntB (seB A B x) i : Int)) i) (0, 0) Q := fun hs => by
      have en : sEn A B x (cntB (seB A B x) i : Int) = i := nthB_eq (by omega) hs rfl
      have ih := ih (updM (updM M' 137 (b + (cntB (seB A B x) i : Int)) (sBg A B x (cntB (seB A B x) i : Int))) 138 (b + (cntB (seB A B x) i : Int)) i) ((F'.u (by omega)).u (by omega)) (fun j hj => by
        rw [upd_c (by decide), upd_i (by omega), upd_i (by omega), upd_c (by decide)]
        exact g j hj)
      rw [cntB_t hs] at ih
      have sb : sBg A B x ((cntB (seB A B x) i + 1 : Nat) : Int) = (i : Int) + 1 := by
        unfold sBg
        rw [if_neg (by omega), show (((cntB (seB A B x) i + 1 : Nat) : Int) - 1) = (cntB (seB A B x) i : Int) by omega, en]
      rw [sb] at ih
      refine ih fun s hs2 => ?_
      by_cases e : s = cntB (seB A B x) i
      · rw [e]
        refine ⟨?_, ?_⟩
        · rw [upd_c (by decide), upd_s]
        · rw [upd_s, en]
      · have := h s (by omega)
        refine ⟨?_, ?_⟩
        · rw [upd_c (by decide), upd_i (by omega)]
          exact this.1
        · rw [upd_i (by omega), upd_c (by decide)]
          exact this.2
    refine t_Mo_findSentences_6 hP (fun q => by omega) (fun _ q1 => ye ?_) (fun _ q1 q2 => ?_) (fun _ q1 q2 => ye ?_)
    · unfold seB
      rw [decide_eq_true_iff]
      left
      omega
    · have ih := ih M' F' g
      rw [cntB_f (by
        unfold seB
        rw [decide_eq_true_iff]
        omega)] at ih
      exact ih h
    · unfold seB
      rw [decide_eq_true_iff]
      right
      omega
theorem s_isSameRow (hP : Clo P) {Q : Qp_} {M : Mm_} {x i y j r : Int} (hS : Sc B M) (hT : WfT B) (hx : 0 ≤ x ∧ x < 10) (hy : 0 ≤ y ∧ y < 10) (hi : 0 ≤ i ∧ i + r ≤ B 115 x) (hj : 0 ≤ j ∧ j + r ≤ B 115 y) (hr : 0 ≤ r) (k1 : (∀ q, 0 ≤ q ∧ q < r → B 116 (60 * x + (i + q)) = B 116 (60 * y + (j + q))) → Q (some (0, 1)) WF M) (k0 : ¬ (∀ q, 0 ≤ q ∧ q < r → B 116 (60 * x + (i + q)) = B 116 (60 * y + (j + q))) → Q (some (0, 0)) WF M) : P 182 0 [some (2, 112), some (0, x), some (0, i), some (0, y), some (0, j), some (0, r), none, none] [] WF M (0, 0) Q := by
  have Xb := (hT.2.1 x hx).1
  have Yb := (hT.2.1 y hy).1
  refine t_Mo_isSameRow_0 hP ?_
  refine lpI (lo := 0) (n := r) (f := fun q => (∀ z, 0 ≤ z ∧ z < q → B 116 (60 * x + (i + z)) = B 116 (60 * y + (j + z))) → P 182 4 [some (2, 112), some (0, x), some (0, i), some (0, y), some (0, j), some (0, r), some (0, 1), some (0, q)] [] WF M (0, 0) Q) ?_ ?_ 0 (Int.le_refl _) hr (fun z hz => by omega)
  · intro h
    exact t_Mo_isSameRow_4 hP (fun _ => k1 h) (fun q => absurd (Int.le_refl _) q) (fun q => absurd (Int.le_refl _) q) (fun q => absurd (Int.le_refl _) q)
  · intro q q0 q1 ih h
    have w1 := (rdW hS hT hx (i := i + q) (by omega)).2.1
    have w2 := (rdW hS hT hy (i := j + q) (by omega)).2.1
    refine t_Mo_isSameRow_4 hP (fun g => by omega) (fun _ g => absurd g (by decide)) (fun _ _ g => ?_) (fun _ _ g => ih fun z hz => ?_)
    · rw [w1, w2] at g
      have no : Q (some (0, 0)) WF M := k0 fun h2 => g (h2 q (by omega))
      exact t_Mo_isSameRow_4 hP (fun _ => no) (fun _ _ => no) (fun _ g => absurd rfl g) (fun _ g => absurd rfl g)
    · rw [w1, w2] at g
      by_cases e : z = q
      · rw [e]
        exact g
      · exact h z (by omega)
end MV
