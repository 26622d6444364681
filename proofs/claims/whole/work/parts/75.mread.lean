/-! the model's reader -/
def hs (b : Int → Int) (p : Int) : Nat → Int
  | 0 => 0
  | m + 1 => if hs b p m ≤ 10000000000 then 27 * hs b p m + b (p + m) - 96 else 20000000000
def cw (w : Nat → Int) : Nat → Int
  | 0 => 0
  | k + 1 => 27 * cw w k + w k - 96
theorem hs_bd {b : Int → Int} {p : Int} : ∀ {m : Nat}, (∀ i : Nat, i < m → 97 ≤ b (p + i) ∧ b (p + i) ≤ 122) → 0 ≤ hs b p m ∧ hs b p m ≤ 300000000000 ∧ (0 < m → 0 < hs b p m)
  | 0, _ => ⟨Int.le_refl _, by show (0 : Int) ≤ _; decide, fun q => by omega⟩
  | m + 1, h => by
    have ih := hs_bd (m := m) fun i hi => h i (by omega)
    have := h m (by omega)
    unfold hs
    split <;> omega
theorem cw_bd {w : Nat → Int} : ∀ {k : Nat}, (∀ i, i < k → 97 ≤ w i ∧ w i ≤ 122) → 0 ≤ cw w k ∧ (0 < k → 0 < cw w k)
  | 0, _ => ⟨Int.le_refl _, fun q => by omega⟩
  | k + 1, h => by
    have ih := cw_bd (k := k) fun i hi => h i (by omega)
    have := h k (by omega)
    unfold cw
    omega
theorem hs_cw {b : Int → Int} {p : Int} {w : Nat → Int} : ∀ {k m : Nat}, (∀ i, i < k → 97 ≤ w i ∧ w i ≤ 122) → (∀ i : Nat, i < m → 97 ≤ b (p + i) ∧ b (p + i) ≤ 122) → cw w k ≤ 10000000000 → (hs b p m = cw w k ↔ m = k ∧ ∀ i : Nat, i < k → b (p + i) = w i)
  | 0, 0, _, _, _ => ⟨fun _ => ⟨rfl, fun i hi => by omega⟩, fun _ => rfl⟩
  | 0, m + 1, _, h2, _ => by
    have := hs_bd h2
    have e : cw w 0 = 0 := rfl
    refine ⟨fun q => by omega, fun q => by omega⟩
  | k + 1, 0, h1, _, _ => by
    have := cw_bd h1
    have e : hs b p 0 = 0 := rfl
    refine ⟨fun q => by omega, fun q => by omega⟩
  | k + 1, m + 1, h1, h2, h3 => by
    have e1 : cw w (k + 1) = 27 * cw w k + w k - 96 := rfl
    have c0 := cw_bd (w := w) (k := k) fun i hi => h1 i (by omega)
    have l1 := h1 k (by omega)
    have l2 := h2 m (by omega)
    have ih := hs_cw (b := b) (p := p) (w := w) (k := k) (m := m) (fun i hi => h1 i (by omega)) (fun i hi => h2 i (by omega)) (by omega)
    have b0 := hs_bd (b := b) (p := p) (m := m) fun i hi => h2 i (by omega)
    have e2 : hs b p (m + 1) = if hs b p m ≤ 10000000000 then 27 * hs b p m + b (p + m) - 96 else 20000000000 := rfl
    constructor
    · intro e
      by_cases c : hs b p m ≤ 10000000000
      · rw [if_pos c] at e2
        have d1 : hs b p m = cw w k := by omega
        have d2 : b (p + m) = w k := by omega
        obtain ⟨f1, f2⟩ := ih.mp d1
        subst f1
        refine ⟨rfl, fun i hi => ?_⟩
        by_cases g : i = m
        · rw [g]
          exact d2
        · exact f2 i (by omega)
      · rw [if_neg c] at e2
        omega
    · rintro ⟨f1, f2⟩
      have f1 : m = k := by omega
      have d1 := ih.mpr ⟨f1, fun i hi => f2 i (by omega)⟩
      subst f1
      have d2 := f2 m (by omega)
      rw [if_pos (by omega)] at e2
      omega
def cdW (i : Nat) : Int := cw (fun m => (wd i).getD m 0) (wd i).length
theorem cdW_ok : ∀ i, i < 10 → cdW i ≤ 10000000000 ∧ ∀ m, m < (wd i).length → 97 ≤ (wd i).getD m 0 ∧ (wd i).getD m 0 ≤ 122 := by decide +kernel
theorem hs_sp {b : Int → Int} {n p : Int} {i : Nat} (hi : i < 10) (hp : p ≤ n) : hs b p (av (isL b) n p - p).toNat = cdW i ↔ spB b i p (av (isL b) n p) = true := by
  have a := av_bd (isL b) hp
  have c := cdW_ok i hi
  have := hs_cw (b := b) (p := p) (w := fun m => (wd i).getD m 0) (k := (wd i).length) (m := (av (isL b) n p - p).toNat) c.2 (fun j hj => of_decide_eq_true (a.2.2.1 (p + j) (by omega) (by omega))) c.1
  unfold cdW
  rw [this]
  unfold spB
  rw [Bool.and_eq_true, decide_eq_true_iff, Bool.not_eq_true', Bool.eq_false_iff, ne_eq, anyB_iff]
  constructor
  · rintro ⟨h1, h2⟩
    refine ⟨by omega, ?_⟩
    rintro ⟨m, m1, m2⟩
    rw [Bool.not_eq_true', decide_eq_false_iff_not, Int.toNat_natCast] at m2
    exact m2 (h2 m m1)
  · rintro ⟨h1, h2⟩
    refine ⟨by omega, fun m hm => ?_⟩
    apply Classical.byContradiction
    intro g
    exact h2 ⟨m, hm, by rw [Bool.not_eq_true', decide_eq_false_iff_not, Int.toNat_natCast]; exact g⟩
def cd1 (v x : Int) : Int := if x = 0 then v else 27 * v + x - 96
def cdV (x0 x1 x2 x3 x4 x5 : Int) : Int := cd1 (cd1 (cd1 (cd1 (27 * (x0 - 96) + x1 - 96) x2) x3) x4) x5
/-- the model's reader -/
def MS (M0 : Mm_) (p f : Int) (kd nb : Int → Int) (M : Mm_) : Prop := (∀ c, c ≠ 112 → c ≠ 126 → c ≠ 127 → M c = M0 c) ∧ (∀ j, ¬ (24 ≤ j ∧ j ≤ 28) → M 112 j = M0 112 j) ∧ M 112 25 = p ∧ M 112 24 = f ∧ (∀ j, M 126 j = kd j) ∧ ∀ j, M 127 j = nb j
section MR
variable {P : Jg_} {M0 M : Mm_} {n p f : Int} {kd nb b : Int → Int}
theorem MS.pl (h : MS M0 p f kd nb M) (q : Int) : MS M0 q f kd nb (updM M 112 25 q) := by
  obtain ⟨h1, h2, h3, h4, h5, h6⟩ := h
  refine ⟨fun c c1 c2 c3 => by rw [upd_r c1]; exact h1 c c1 c2 c3, fun j hj => ?_, upd_s _ _ _ _, ?_, fun j => ?_, fun j => ?_⟩
  · rw [upd_i (by omega)]; exact h2 j hj
  · rw [upd_i (by decide)]; exact h4
  · rw [upd_c (by decide)]; exact h5 j
  · rw [upd_c (by decide)]; exact h6 j
theorem MS.fw (h : MS M0 p f kd nb M) (q : Int) : MS M0 p q kd nb (updM M 112 24 q) := by
  obtain ⟨h1, h2, h3, h4, h5, h6⟩ := h
  refine ⟨fun c c1 c2 c3 => by rw [upd_r c1]; exact h1 c c1 c2 c3, fun j hj => ?_, ?_, upd_s _ _ _ _, fun j => ?_, fun j => ?_⟩
  · rw [upd_i (by omega)]; exact h2 j hj
  · rw [upd_i (by decide)]; exact h3
  · rw [upd_c (by decide)]; exact h5 j
  · rw [upd_c (by decide)]; exact h6 j
theorem MS.x (h : MS M0 p f kd nb M) {i : Int} (v : Int) (hi : 26 ≤ i ∧ i ≤ 28 := by decide) : MS M0 p f kd nb (updM M 112 i v) := by
  obtain ⟨h1, h2, h3, h4, h5, h6⟩ := h
  refine ⟨fun c c1 c2 c3 => by rw [upd_r c1]; exact h1 c c1 c2 c3, fun j hj => ?_, ?_, ?_, fun j => ?_, fun j => ?_⟩
  · rw [upd_i (by omega)]; exact h2 j hj
  · rw [upd_i (by omega)]; exact h3
  · rw [upd_i (by omega)]; exact h4
  · rw [upd_c (by decide)]; exact h5 j
  · rw [upd_c (by decide)]; exact h6 j
theorem MS.cl (h : MS M0 p f kd nb M) (a x v : Int) : MS M0 p f (fun j => if j = a then x else kd j) (fun j => if j = a then v else nb j) (updM (updM M 126 a x) 127 a v) := by
  obtain ⟨h1, h2, h3, h4, h5, h6⟩ := h
  refine ⟨fun c c1 c2 c3 => by rw [upd_r c3, upd_r c2]; exact h1 c c1 c2 c3, fun j hj => ?_, ?_, ?_, fun j => ?_, fun j => ?_⟩
  · rw [upd_c (by decide), upd_c (by decide)]; exact h2 j hj
  · rw [upd_c (by decide), upd_c (by decide)]; exact h3
  · rw [upd_c (by decide), upd_c (by decide)]; exact h4
  · show _ = if j = a then x else kd j
    rw [upd_c (by decide)]
    by_cases e : j = a
    · rw [e, upd_s, if_pos rfl]
    · rw [upd_i e, if_neg e]; exact h5 j
  · show _ = if j = a then v else nb j
    by_cases e : j = a
    · rw [e, upd_s, if_pos rfl]
    · rw [upd_i e, upd_c (by decide), if_neg e]; exact h6 j
theorem s_hereM (hP : Clo P) {Q : Qp_} (hn : n ≤ 120) (h23 : M0 112 23 = n) (hb : ∀ z, 0 ≤ z ∧ z < n → M0 130 z = b z) : ∀ (d : Nat) (p : Int) (M : Mm_), (n - p).toNat = d → 0 ≤ p → MS M0 p f kd nb M → (∀ M', MS M0 (av (isB b) n p) f kd nb M' → Q (some (0, if av (isB b) n p < n then b (av (isB b) n p) else -1)) WF M') → P 94 0 [some (2, 112)] [] WF M (0, 0) Q := by
  intro d
  induction d with
  | zero =>
    intro p M hd hp h k
    obtain ⟨h1, h2, h3, -⟩ := id h
    have e := h2 23 (by decide)
    rw [av_ge (show n ≤ p by omega)] at k
    refine t_Mo_here_0 hP (fun _ => ?_) (fun q => by omega) (fun q => by omega)
    have := k M h
    rw [if_neg (by omega)] at this
    exact this
  | succ d ih =>
    intro p M hd hp h k
    obtain ⟨h1, h2, h3, -⟩ := id h
    have e := h2 23 (by decide)
    have b1 : M 130 p = b p := by rw [h1 130 (by decide) (by decide) (by decide)]; exact hb p (by omega)
    refine t_Mo_here_0 hP (fun q => by omega) (fun _ q => ?_) (fun _ q => ?_)
    · rw [h3, b1] at q ⊢
      rw [av_n (f := isB b) (decide_eq_false q)] at k
      have := k M h
      rw [if_pos (by omega)] at this
      exact this
    · rw [h3, b1] at q
      rw [h3]
      refine ih (p + 1) _ (by omega) (by omega) (h.pl _) ?_
      rw [← av_y (f := isB b) (by omega) (decide_eq_true q)]
      exact k
theorem s_wordM (hP : Clo P) {Q : Qp_} (hn : n ≤ 120) (h23 : M0 112 23 = n) (hb : ∀ z, 0 ≤ z ∧ z < n → M0 130 z = b z) (hp : 0 ≤ p ∧ p ≤ n) (h : MS M0 p f kd nb M) (k : ∀ M', MS M0 (av (isB b) n p) f kd nb M' → M' 112 27 = av (isL b) n (av (isB b) n p) → M' 112 26 = hs b (av (isB b) n p) (av (isL b) n (av (isB b) n p) - av (isB b) n p).toNat → Q none WF M') : P 95 0 [some (2, 112), none] [] WF M (0, 0) Q := by
  have a := av_bd (isB b) hp.2
  refine t_Mo_readWord_0 hP (s_hereM hP hn h23 hb _ _ _ rfl hp.1 h fun M1 g1 => t_Mo_readWord_2 hP ?_)
  obtain ⟨q, hq⟩ : ∃ q, q = av (isB b) n p := ⟨_, rfl⟩
  rw [← hq] at g1 k a
  have main : ∀ (d : Nat) (z : Int) (M : Mm_), (n - z).toNat = d → q ≤ z ∧ z ≤ n → (∀ y, q ≤ y → y < z → 97 ≤ b y ∧ b y ≤ 122) → av (isL b) n z = av (isL b) n q → MS M0 q f kd nb M → M 112 27 = z → M 112 26 = hs b q (z - q).toNat → P 95 10 [some (2, 112), none] [] WF M (0, 0) Q := by
    intro d
    induction d with
    | zero =>
      intro z M hd hz lt ea h e27 e26
      have e23 := h.2.1 23 (by decide)
      have e : av (isL b) n q = z := by rw [← ea, av_ge (by omega)]
      rw [e] at k
      exact t_Mo_readWord_10 hP (fun _ => k M h e27 e26) (fun q => by omega) (fun q => by omega) (fun q => by omega) (fun q => by omega)
    | succ d ih =>
      intro z M hd hz lt ea h e27 e26
      have e23 := h.2.1 23 (by decide)
      have b1 : M 130 z = b z := by rw [h.1 130 (by decide) (by decide) (by decide)]; exact hb z (by omega)
      have hb0 := hs_bd (b := b) (p := q) (m := (z - q).toNat) fun i hi => lt (q + i) (by omega) (by omega)
      have ex : isL b z = false → Q none WF M := fun c => by
        have e : av (isL b) n q = z := by rw [← ea, av_n c]
        rw [e] at k
        exact k M h e27 e26
      have nx : ¬ M 130 (M 112 27) < 97 → ¬ 122 < M 130 (M 112 27) → ∀ v, v = hs b q (z + 1 - q).toNat → P 95 10 [some (2, 112), none] [] WF (updM (updM M 112 26 v) 112 27 (M 112 27 + 1)) (0, 0) Q := fun c1 c2 v hv => by
        rw [e27, b1] at c1 c2
        rw [e27]
        refine ih (z + 1) _ (by omega) (by omega) (fun y y1 y2 => ?_) ?_ ((h.x v).x _) (upd_s _ _ _ _) ?_
        · by_cases e : y = z
          · rw [e]
            omega
          · exact lt y y1 (by omega)
        · rw [← ea]
          exact (av_y (by omega) (decide_eq_true (by omega))).symm
        · rw [upd_i (by decide), upd_s, hv]
      have st : hs b q (z + 1 - q).toNat = if hs b q (z - q).toNat ≤ 10000000000 then 27 * hs b q (z - q).toNat + b z - 96 else 20000000000 := by
        rw [show (z + 1 - q).toNat = (z - q).toNat + 1 by omega]
        show (if _ then _ + b (q + ((z - q).toNat : Int)) - 96 else _) = _
        rw [show q + ((z - q).toNat : Int) = z by omega]
      refine t_Mo_readWord_10 hP (fun q => by omega) (fun _ c => ex ?_) (fun _ _ c => ex ?_) (fun _ c1 c2 c3 => nx c1 c2 _ ?_) (fun _ c1 c2 c3 => nx c1 c2 _ ?_)
      · rw [e27, b1] at c
        exact decide_eq_false (by omega)
      · rw [e27, b1] at c
        exact decide_eq_false (by omega)
      · rw [st, e26, e27, b1]
        rw [e26] at c3
        rw [if_pos c3]
      · rw [st]
        rw [e26] at c3
        rw [if_neg c3]
  obtain ⟨y1, y2, y3, -⟩ := id g1
  rw [y3]
  refine main _ q _ rfl (by omega) (fun y c1 c2 => by omega) rfl ((g1.x 0).x _) (upd_s _ _ _ _) ?_
  rw [upd_i (by decide), upd_s, show (q - q).toNat = 0 by omega]
  rfl
theorem s_code (hP : Clo P) {Q : Qp_} {x0 x1 x2 x3 x4 x5 : Int} (h0 : 97 ≤ x0 ∧ x0 ≤ 122) (h1 : 97 ≤ x1 ∧ x1 ≤ 122) (h2 : 0 ≤ x2 ∧ x2 ≤ 122) (h3 : 0 ≤ x3 ∧ x3 ≤ 122) (h4 : 0 ≤ x4 ∧ x4 ≤ 122) (h5 : 0 ≤ x5 ∧ x5 ≤ 122) (V : Int) (hV : cdV x0 x1 x2 x3 x4 x5 = V) (k : Q (some (1, V)) WF M) : P 96 0 [some (0, x0), some (0, x1), some (0, x2), some (0, x3), some (0, x4), some (0, x5), none, none] [] WF M (0, 0) Q := by
  subst hV
  have c2 : ∀ v, cd1 (27 * (x0 - 96) + x1 - 96) x2 = v → -100000 ≤ v ∧ v ≤ 100000 → P 96 24 [none, none, none, some (0, x3), some (0, x4), some (0, x5), none, none] [(1, v)] WF M (0, 0) Q := fun v hv bv => by
    unfold cdV at k
    rw [hv] at k
    unfold cd1 at k
    refine t_Mo_code_24 hP (fun q1 q2 q3 => ?_) (fun q1 q2 q3 => ?_) (fun q1 q2 q3 => ?_) (fun q1 q2 q3 => ?_) (fun q1 q2 q3 => ?_) (fun q1 q2 q3 => ?_) (fun q1 q2 q3 => ?_) (fun q1 q2 q3 => ?_)
    · rw [if_neg q3, if_neg q2, if_neg q1] at k; exact k
    · rw [if_pos q3, if_neg q2, if_neg q1] at k; exact k
    · rw [if_neg q3, if_pos q2, if_neg q1] at k; exact k
    · rw [if_pos q3, if_pos q2, if_neg q1] at k; exact k
    · rw [if_neg q3, if_neg q2, if_pos q1] at k; exact k
    · rw [if_pos q3, if_neg q2, if_pos q1] at k; exact k
    · rw [if_neg q3, if_pos q2, if_pos q1] at k; exact k
    · rw [if_pos q3, if_pos q2, if_pos q1] at k; exact k
  refine t_Mo_code_0 hP (fun q => c2 _ (by unfold cd1; rw [if_neg q]) (by omega)) (fun q => c2 _ (by unfold cd1; rw [if_pos q]) (by omega))
end MR
