/-! RUNS, as the reference finds them -/
theorem slp_s (B : Mm_) (mean x i y j : Int) (n : Nat) : slp B mean x i y j (n + 1) = slp B mean x i y j n + (if lkB B mean (B 116 (60 * x + (i + n))) (B 116 (60 * y + (j + n))) = true then 0 else 1) := by
  show slp B mean x i y j n + _ = _
  cases h : lkB B mean (B 116 (60 * x + (i + n))) (B 116 (60 * y + (j + n))) <;> simp [h]
theorem rar_s (B : Mm_) (x i : Int) (n : Nat) : rar B x i (n + 1) = rar B x i n + (if B 119 (B 116 (60 * x + (i + n))) = 0 then 1 else 0) := by
  show rar B x i n + _ = _
  by_cases h : B 119 (B 116 (60 * x + (i + n))) = 0
  · rw [if_pos (decide_eq_true h), if_pos h]
  · rw [if_neg (by rw [decide_eq_true_iff]; exact h), if_neg h]
def grR (B : Mm_) (Lw : Int → Int) (x i y j : Int) : Nat → Int
  | 0 => 0
  | n + 1 => if isR B Lw x i y j ((n + 1 : Nat) : Int) = true then ((n + 1 : Nat) : Int) else grR B Lw x i y j n
theorem grR_ext {B : Mm_} {Lw : Int → Int} {x i y j : Int} {n : Nat} : ∀ {N : Nat}, n ≤ N → (∀ k : Nat, n < k → k ≤ N → isR B Lw x i y j k = false) → grR B Lw x i y j N = grR B Lw x i y j n
  | 0, h, _ => by rw [show n = 0 by omega]
  | N + 1, h, g => by
    by_cases e : n = N + 1
    · rw [e]
    · unfold grR
      rw [if_neg (by rw [g (N + 1) (by omega) (by omega)]; decide), grR_ext (by omega) (fun k h1 h2 => g k h1 (by omega))]
      cases n <;> rfl
theorem isR_no {B : Mm_} {Lw : Int → Int} {x i y j n : Int} (h : n < Lw 0 ∨ B 115 x < i + n ∨ B 115 y < j + n) : isR B Lw x i y j n = false := by
  unfold isR
  rw [decide_eq_false_iff_not]
  omega
def Fm (M M' : Mm_) : Prop := (∀ c, ¬ (c = 112 ∨ c = 128 ∨ c = 129 ∨ (131 ≤ c ∧ c ≤ 134) ∨ (136 ≤ c ∧ c ≤ 140)) → M' c = M c) ∧ (∀ j, ¬ (25 ≤ j ∧ j ≤ 36) → M' 112 j = M 112 j)
theorem Fm.refl (M : Mm_) : Fm M M := ⟨fun _ _ => rfl, fun _ _ => rfl⟩
theorem Fm.trans {M M' M'' : Mm_} (h : Fm M M') (g : Fm M' M'') : Fm M M'' := ⟨fun c hc => (g.1 c hc).trans (h.1 c hc), fun j hj => (g.2 j hj).trans (h.2 j hj)⟩
theorem Fm.fr {M M' M'' : Mm_} {lo hi : Int} (h : Fm M M') (g : Fr lo hi M' M'') (b : 128 ≤ lo ∧ hi ≤ 129 ∨ 131 ≤ lo ∧ hi ≤ 134 ∨ 136 ≤ lo ∧ hi ≤ 140 := by omega) : Fm M M'' := ⟨fun c hc => (g c (by omega)).trans (h.1 c hc), fun j hj => by rw [g 112 (by omega)]; exact h.2 j hj⟩
theorem Fm.v {M M' : Mm_} (h : Fm M M') {i v : Int} (b : 25 ≤ i ∧ i ≤ 36 := by decide) : Fm M (updM M' 112 i v) := ⟨fun c hc => (upd_r (by omega) _ _).trans (h.1 c hc), fun j hj => (upd_i (by omega) _ _ _).trans (h.2 j hj)⟩
theorem Sc.fm {B M M' : Mm_} (h : Sc B M) (g : Fm M M') : Sc B M' := fun c j hc => by
  by_cases e : c = 112
  · subst e
    rw [g.2 j (by unfold Pc at hc; omega)]
    exact h 112 j hc
  · rw [g.1 c (by unfold Pc at hc; omega)]
    exact h c j hc
theorem Sn.fm {A M M' : Mm_} (h : Sn A M) (g : Fm M M') : Sn A M' := fun c j hc => by
  by_cases e : c = 112
  · subst e
    rw [g.2 j (by unfold Pn at hc; omega)]
    exact h 112 j hc
  · rw [g.1 c (by unfold Pn at hc; omega)]
    exact h c j hc
theorem IV.fm {L : Nat} {xs : Nat → Int32} {A B M M' : Mm_} (h : IV L xs A B M) (g : Fm M M') : IV L xs A B M' := by
  obtain ⟨hS, hW, hC, hSn, hN⟩ := h
  exact ⟨hS.fm g, hW, Ca_d hW.2.1.1.2.1 hC (fun c hc => g.1 c (by omega)) (g.2 8 (by omega)) (g.1 135 (by omega)), hSn.fm g, hN⟩
section MR
variable {P : Jg_} {L : Nat} {xs : Nat → Int32} {B : Mm_}
theorem s_runFrom (hP : Clo P) {Q : Qp_} {M : Mm_} {x i y j kp : Int} (hS : Sc B M) (hW : WfC L xs B) (hx : 0 ≤ x ∧ x < 10) (hy : 0 ≤ y ∧ y < 10) (hi : 0 ≤ i ∧ i < B 115 x) (hj : 0 ≤ j ∧ j < B 115 y) (hM : ∀ what, 0 ≤ what ∧ what < 7 → M 129 what = lws B x what) (k : ∀ M', Fr 131 131 M M' → (∀ q, M' 131 q = if ¬ kp = 0 ∧ isR B (lws B x) x i y j (q - 61 * i) = true then orI (M 131 q) (shlI 1 y) else M 131 q) → Q (some (0, grR B (lws B x) x i y j 60)) WF M') : P 134 0 [some (2, 112), some (0, x), some (0, i), some (0, y), some (0, j), some (0, kp), none, none, none, none, none, none, none, none] [] WF M (0, 0) Q := by
  have X := rdX hS hW.2.1 hx
  have Y := rdX hS hW.2.1 hy
  have lb := lws_bd hW.2.2.2 x
  have m0 := hM 0 (by decide)
  have m1 := hM 1 (by decide)
  have m2 := hM 2 (by decide)
  have m3 := hM 3 (by decide)
  have m118 : M 118 = B 118 := hS.r 118
  have wx := fun {q : Int} (hq : 0 ≤ q ∧ q < B 115 x) => rdW hS hW.2.1 hx hq
  have wy := fun {q : Int} (hq : 0 ≤ q ∧ q < B 115 y) => rdW hS hW.2.1 hy hq
  have lk1 : ∀ v w, (v = w) → lkB B (lws B x 2) v w = true := fun v w h => by unfold lkB; rw [decide_eq_true_iff]; exact Or.inl h
  have lk0 : ∀ v w, ¬ v = w → ¬ lws B x 2 = 1 → lkB B (lws B x 2) v w = false := fun v w h g => by unfold lkB; rw [decide_eq_false_iff_not]; rintro (q | q); exact h q; exact g q.1
  have lk2 : ∀ v w, ¬ v = w → ¬ B 118 v = B 118 w → lkB B (lws B x 2) v w = false := fun v w h g => by unfold lkB; rw [decide_eq_false_iff_not]; rintro (q | q); exact h q; exact g q.2
  have lk3 : ∀ v w, lws B x 2 = 1 → B 118 v = B 118 w → lkB B (lws B x 2) v w = true := fun v w h g => by unfold lkB; rw [decide_eq_true_iff]; exact Or.inr ⟨h, g⟩
  have wi := wx hi
  have wj := wy hj
  have off : lkB B (lws B x 2) (B 116 (60 * x + i)) (B 116 (60 * y + j)) = false → P 134 19 [some (2, 112), some (0, x), some (0, i), some (0, y), some (0, j), some (0, kp), some (0, 0), some (0, 0), some (0, 0), some (0, 0), some (0, 1), none, none, none] [] WF M (0, 0) Q := fun h => by
    have no : ∀ n, isR B (lws B x) x i y j n = false := fun n => by
      unfold isR
      rw [h, decide_eq_false_iff_not]
      exact fun q => absurd q.2.2.2.1 (by decide)
    refine t_Mo_runFrom_19 hP (fun _ => ?_) (fun q => absurd rfl q) (fun q => absurd rfl q) (fun q => absurd rfl q) (fun q => absurd rfl q) (fun q => absurd rfl q) (fun q => absurd rfl q) (fun q => absurd rfl q)
    have := k M (Fr.refl _ _ _) fun q => by rw [if_neg fun g => by rw [no] at g; exact absurd g.2 (by decide)]
    rw [grR_ext (n := 0) (Nat.zero_le _) fun n _ _ => no n] at this
    exact this
  have on : lkB B (lws B x 2) (B 116 (60 * x + i)) (B 116 (60 * y + j)) = true → P 134 19 [some (2, 112), some (0, x), some (0, i), some (0, y), some (0, j), some (0, kp), some (0, 0), some (0, 0), some (0, 0), some (0, 1), some (0, 1), none, none, none] [] WF M (0, 0) Q := by
    intro hfirst
    obtain ⟨nn, hnn⟩ : ∃ nn : Nat, (nn : Int) ≤ B 115 x - i ∧ (nn : Int) ≤ B 115 y - j ∧ ((nn : Int) = B 115 x - i ∨ (nn : Int) = B 115 y - j) := by
      by_cases h : B 115 x - i ≤ B 115 y - j
      · exact ⟨(B 115 x - i).toNat, by omega⟩
      · exact ⟨(B 115 y - j).toNat, by omega⟩
    have done : ∀ (m : Nat) (M' : Mm_), m ≤ 60 → Fr 131 131 M M' → (∀ q, M' 131 q = if (¬ kp = 0 ∧ isR B (lws B x) x i y j (q - 61 * i) = true) ∧ q - 61 * i ≤ m then orI (M 131 q) (shlI 1 y) else M 131 q) → (∀ n : Int, m < n → isR B (lws B x) x i y j n = false) → Q (some (0, grR B (lws B x) x i y j m)) WF M' := fun m M' hm F' h131 hno => by
      have := k M' F' fun q => by
        rw [h131 q]
        by_cases e : ¬ kp = 0 ∧ isR B (lws B x) x i y j (q - 61 * i) = true
        · by_cases e2 : q - 61 * i ≤ m
          · rw [if_pos ⟨e, e2⟩, if_pos e]
          · rw [hno _ (by omega)] at e
            exact absurd e.2 (by decide)
        · rw [if_neg fun g => e g.1, if_neg e]
      rw [grR_ext (n := m) hm fun n h1 _ => hno n (by omega)] at this
      exact this
    refine lpN (n := nn) (f := fun m : Nat => ∀ M', Fr 131 131 M M' → (∀ q, M' 131 q = if (¬ kp = 0 ∧ isR B (lws B x) x i y j (q - 61 * i) = true) ∧ q - 61 * i ≤ m then orI (M 131 q) (shlI 1 y) else M 131 q) → P 134 19 [some (2, 112), some (0, x), some (0, i), some (0, y), some (0, j), some (0, kp), some (0, grR B (lws B x) x i y j m), some (0, (slp B (lws B x 2) x i y j m : Int)), some (0, (rar B x i m : Int)), some (0, 1), some (0, (m : Int) + 1), none, none, none] [] WF M' (0, 0) Q) ?_ ?_ 0 (Nat.zero_le _) M (Fr.refl _ _ _) (fun q => ?_)
    · intro M' F' h131
      have n1 : M' 115 x = B 115 x := by rw [F' 115 (by omega)]; exact X.2.2.1
      have n2 : M' 115 y = B 115 y := by rw [F' 115 (by omega)]; exact Y.2.2.1
      have fin := done nn M' (by omega) F' h131 fun n hn => isR_no (by omega)
      exact t_Mo_runFrom_19 hP (fun q => by omega) (fun _ _ => fin) (fun _ _ _ => fin) (fun _ _ _ _ => fin) (fun _ q1 q2 => by omega) (fun _ q1 q2 => by omega) (fun _ q1 q2 => by omega) (fun _ q1 q2 => by omega)
    · intro m hm ih M' F' h131
      have n1 : M' 115 x = B 115 x := by rw [F' 115 (by omega)]; exact X.2.2.1
      have n2 : M' 115 y = B 115 y := by rw [F' 115 (by omega)]; exact Y.2.2.1
      have p0 : M' 129 0 = lws B x 0 := by rw [F' 129 (by omega)]; exact m0
      have p1 : M' 129 1 = lws B x 1 := by rw [F' 129 (by omega)]; exact m1
      have p2 : M' 129 2 = lws B x 2 := by rw [F' 129 (by omega)]; exact m2
      have p3 : M' 129 3 = lws B x 3 := by rw [F' 129 (by omega)]; exact m3
      have p118 : M' 118 = B 118 := by rw [F' 118 (by omega)]; exact m118
      have p119 : M' 119 = B 119 := by rw [F' 119 (by omega)]; exact hS.r 119
      have a1 := wx (q := i + m) (by omega)
      have a2 := wy (q := j + m) (by omega)
      have r1 : M' 116 (60 * x + (i + ((m : Int) + 1) - 1)) = B 116 (60 * x + (i + m)) := by rw [show i + ((m : Int) + 1) - 1 = i + m by omega, F' 116 (by omega)]; exact a1.2.1
      have r2 : M' 116 (60 * y + (j + ((m : Int) + 1) - 1)) = B 116 (60 * y + (j + m)) := by rw [show j + ((m : Int) + 1) - 1 = j + m by omega, F' 116 (by omega)]; exact a2.2.1
      have sb : slp B (lws B x 2) x i y j m ≤ m := cntB_le _ _
      have rb : rar B x i m ≤ m := cntB_le _ _
      have gb : 0 ≤ grR B (lws B x) x i y j m ∧ grR B (lws B x) x i y j m ≤ 60 := by
        have : ∀ n : Nat, 0 ≤ grR B (lws B x) x i y j n ∧ grR B (lws B x) x i y j n ≤ n := by
          intro n
          induction n with
          | zero => exact ⟨Int.le_refl _, Int.le_refl _⟩
          | succ n ih =>
            unfold grR
            split <;> omega
        have := this m
        omega
      -- behind the like
      have behind : ∀ lk : Int, (lk = 1 ∧ lkB B (lws B x 2) (B 116 (60 * x + (i + m))) (B 116 (60 * y + (j + m))) = true ∨ lk = 0 ∧ lkB B (lws B x 2) (B 116 (60 * x + (i + m))) (B 116 (60 * y + (j + m))) = false) → ¬ lws B x 1 < (slp B (lws B x 2) x i y j m : Int) → P 134 70 [some (2, 112), some (0, x), some (0, i), some (0, y), some (0, j), some (0, kp), some (0, grR B (lws B x) x i y j m), none, some (0, (rar B x i m : Int)), some (0, 1), some (0, (m : Int) + 1), some (0, B 116 (60 * x + (i + m))), some (0, lk), none] [(0, 1 - lk), (0, (slp B (lws B x 2) x i y j m : Int))] WF M' (0, 0) Q := by
        intro lk hlk hsl
        have hs1 : (slp B (lws B x 2) x i y j m : Int) + (1 - lk) = (slp B (lws B x 2) x i y j (m + 1) : Int) := by
          rw [slp_s]
          rcases hlk with ⟨h1, h2⟩ | ⟨h1, h2⟩
          · rw [if_pos h2, h1]
            omega
          · rw [if_neg (by rw [h2]; decide), h1]
            omega
        have isq : isR B (lws B x) x i y j ((m + 1 : Nat) : Int) = true ↔ lk = 1 ∧ lws B x 0 ≤ (m : Int) + 1 ∧ (lws B x 3 = 1 ∨ ((m : Int) + 1) / 2 ≤ (rar B x i (m + 1) : Int)) := by
          unfold isR
          rw [decide_eq_true_iff, show i + ((m + 1 : Nat) : Int) - 1 = i + m by omega, show j + ((m + 1 : Nat) : Int) - 1 = j + m by omega, show ((m + 1 : Nat) : Int).toNat = m + 1 from rfl, show ((m + 1 : Nat) : Int) = (m : Int) + 1 from rfl]
          rcases hlk with ⟨h1, h2⟩ | ⟨h1, h2⟩
          · constructor
            · exact fun g => ⟨h1, g.1, g.2.2.2.2.2.2⟩
            · exact fun g => ⟨g.2.1, by omega, by omega, hfirst, h2, by omega, g.2.2⟩
          · constructor
            · intro g
              rw [h2] at g
              exact absurd g.2.2.2.2.1 (by decide)
            · intro g
              omega
        -- behind the sums
        have last : ∀ b : Int, (b = 1 ∧ isR B (lws B x) x i y j ((m + 1 : Nat) : Int) = true ∨ b = 0 ∧ isR B (lws B x) x i y j ((m + 1 : Nat) : Int) = false) → P 134 105 [some (2, 112), some (0, x), some (0, i), some (0, y), some (0, j), some (0, kp), some (0, grR B (lws B x) x i y j m), some (0, (slp B (lws B x 2) x i y j (m + 1) : Int)), some (0, (rar B x i (m + 1) : Int)), some (0, 1), some (0, (m : Int) + 1), none, none, none] [(0, b)] WF M' (0, 0) Q := by
          intro b hb
          have ih := fun M2 => ih M2
          rcases hb with ⟨rfl, hb⟩ | ⟨rfl, hb⟩
          · have ge : grR B (lws B x) x i y j (m + 1) = (m : Int) + 1 := by unfold grR; rw [if_pos hb]; rfl
            rw [ge] at ih
            refine t_Mo_runFrom_105 hP (fun q => by omega) (fun _ q => ?_) (fun _ q => ?_)
            · refine ih M' F' fun z => ?_
              rw [h131 z, if_neg fun g => g.1.1 q, if_neg fun g => g.1.1 q]
            · refine ih _ (F'.u (by omega)) fun z => ?_
              by_cases e : z = 61 * i + ((m : Int) + 1)
              · rw [e, upd_s, h131, if_neg (by omega), show 61 * i + ((m : Int) + 1) - 61 * i = ((m + 1 : Nat) : Int) by omega, if_pos ⟨⟨q, hb⟩, Int.le_refl _⟩]
              · rw [upd_i e, h131 z]
                by_cases e2 : (¬ kp = 0 ∧ isR B (lws B x) x i y j (z - 61 * i) = true) ∧ z - 61 * i ≤ m
                · rw [if_pos e2, if_pos ⟨e2.1, by omega⟩]
                · rw [if_neg e2, if_neg fun g => e2 ⟨g.1, by omega⟩]
          · have ge : grR B (lws B x) x i y j (m + 1) = grR B (lws B x) x i y j m := by rw [show grR B (lws B x) x i y j (m + 1) = if isR B (lws B x) x i y j ((m + 1 : Nat) : Int) = true then ((m + 1 : Nat) : Int) else grR B (lws B x) x i y j m from rfl, if_neg (by rw [hb]; decide)]
            rw [ge] at ih
            refine t_Mo_runFrom_105 hP (fun _ => ?_) (fun q => absurd rfl q) (fun q => absurd rfl q)
            refine ih M' F' fun z => ?_
            rw [h131 z]
            by_cases e2 : (¬ kp = 0 ∧ isR B (lws B x) x i y j (z - 61 * i) = true) ∧ z - 61 * i ≤ m
            · rw [if_pos e2, if_pos ⟨e2.1, by omega⟩]
            · rw [if_neg e2, if_neg fun g => ?_]
              refine e2 ⟨g.1, ?_⟩
              by_cases e3 : z - 61 * i = ((m + 1 : Nat) : Int)
              · have := g.1.2
                rw [e3, hb] at this
                cases this
              · omega
        have go : ∀ ra : Int, (rar B x i m : Int) + ra = (rar B x i (m + 1) : Int) → (0 ≤ ra ∧ ra ≤ 1) → P 134 81 [some (2, 112), some (0, x), some (0, i), some (0, y), some (0, j), some (0, kp), some (0, grR B (lws B x) x i y j m), some (0, (slp B (lws B x 2) x i y j m : Int) + (1 - lk)), none, some (0, 1), some (0, (m : Int) + 1), none, some (0, lk), none] [(0, ra), (0, (rar B x i m : Int))] WF M' (0, 0) Q := by
          intro ra hra hra2
          refine t_Mo_runFrom_81 hP (fun q => ?_) (fun q1 q2 => ?_) (fun q1 q2 q3 => ?_) (fun q1 q2 q3 q4 => ?_) (fun q1 q2 q3 q4 => ?_) <;> rw [hs1, hra]
          · exact last 0 (Or.inr ⟨rfl, by rw [Bool.eq_false_iff, Ne, isq]; omega⟩)
          · exact last 0 (Or.inr ⟨rfl, by rw [Bool.eq_false_iff, Ne, isq]; omega⟩)
          · exact last 1 (Or.inl ⟨rfl, by rw [isq]; exact ⟨by omega, by omega, Or.inl (by omega)⟩⟩)
          · exact last 0 (Or.inr ⟨rfl, by rw [Bool.eq_false_iff, Ne, isq]; omega⟩)
          · exact last 1 (Or.inl ⟨rfl, by rw [isq]; exact ⟨by omega, by omega, Or.inr (by omega)⟩⟩)
        have wbd := a1.2.2
        refine t_Mo_runFrom_70 hP (fun q => ?_) (fun q => ?_)
        · rw [p119] at q
          exact go 1 (by rw [rar_s, if_pos q]; rfl) (by omega)
        · rw [p119] at q
          exact go 0 (by rw [rar_s, if_neg q]; omega) (by omega)
      refine t_Mo_runFrom_19 hP (fun q => by omega) (fun _ q => by omega) (fun _ _ q => by omega) (fun _ _ _ q => ?_) (fun _ _ _ q q1 => ?_) (fun _ _ _ q q1 q2 => ?_) (fun _ _ _ q q1 q2 q3 => ?_) (fun _ _ _ q q1 q2 q3 => ?_) (s15 := fun _ _ _ _ _ _ => by rw [r1]; omega) (s16 := fun _ _ _ _ _ _ => by rw [r2]; omega)
      · refine done m M' (by omega) F' h131 fun n hn => ?_
        rw [Bool.eq_false_iff]
        intro g
        unfold isR at g
        rw [decide_eq_true_iff] at g
        have mo : slp B (lws B x 2) x i y j m ≤ slp B (lws B x 2) x i y j n.toNat := cntB_mono (by omega)
        omega
      · rw [r1, r2] at q1
        rw [r1]
        exact behind 1 (Or.inl ⟨rfl, lk1 _ _ q1⟩) (by omega)
      · rw [r1, r2] at q1
        rw [r1]
        exact behind 0 (Or.inr ⟨rfl, lk0 _ _ q1 (by omega)⟩) (by omega)
      · rw [r1, r2] at q1
        rw [r1, r2, p118] at q3
        rw [r1]
        exact behind 0 (Or.inr ⟨rfl, lk2 _ _ q1 q3⟩) (by omega)
      · rw [r1, r2, p118] at q3
        rw [r1]
        exact behind 1 (Or.inl ⟨rfl, lk3 _ _ (by omega) q3⟩) (by omega)
    · rw [if_neg fun g => ?_]
      have := g.1.2
      rw [isR_no (by omega)] at this
      cases this
  have wib := wi.2.1
  have wjb := wj.2.1
  refine t_Mo_runFrom_0 hP (fun q => ?_) (fun q1 q2 => ?_) (fun q1 q2 q3 => ?_) (fun q1 q2 q3 => ?_)
  · rw [wi.2.1, wj.2.1] at q
    exact on (lk1 _ _ q)
  · rw [wi.2.1, wj.2.1] at q1
    exact off (lk0 _ _ q1 (by omega))
  · rw [wi.2.1, wj.2.1] at q1
    rw [wi.2.1, wj.2.1, m118] at q3
    exact off (lk2 _ _ q1 q3)
  · rw [wi.2.1, wj.2.1, m118] at q3
    exact on (lk3 _ _ (by omega) q3)
end MR
