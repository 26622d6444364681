/-! the model's reader, the whole text -/
theorem NUM_pos {b : Int → Int} {n q lo hi fn : Int} (h : 0 < fn) : 0 ≤ (NUM b n q lo hi fn).1 := by
  unfold NUM
  (repeat' split) <;> (dsimp only; omega)
theorem YES_pos {b : Int → Int} {n q : Int} : 0 ≤ (YES b n q).1 := by
  unfold YES
  (repeat' split) <;> (dsimp only; omega)
theorem ARG_pos {b : Int → Int} {n R kd q : Int} : 0 ≤ (ARG b n R kd q).1 := by
  unfold ARG
  split
  · exact YES_pos
  · split
    · exact NUM_pos (by decide)
    · exact NUM_pos (by decide)
theorem CLS_pos {b : Int → Int} {n R p : Int} {tm : Bool} : 0 ≤ (CLS b n R tm p).1 ∧ (CLS b n R tm p).1 ≤ 4 := by
  have := ARG_pos (b := b) (n := n) (R := R) (kd := KD b p (av (isL b) n p)) (q := av (isB b) n (av (isL b) n p))
  have l : ∀ kd q, (ARG b n R kd q).1 ≤ 4 := fun kd q => by
    unfold ARG YES NUM
    (repeat' split) <;> (dsimp only; omega)
  have l := l (KD b p (av (isL b) n p)) (av (isB b) n (av (isL b) n p))
  unfold CLS CL2
  (repeat' split) <;> (dsimp only; omega)
section MR3
variable {P : Jg_} {M0 M : Mm_} {n p f : Int} {kd nb b : Int → Int}
theorem s_clauseM (hP : Clo P) {Q : Qp_} {a tm R q : Int} (hn : n ≤ 120) (h23 : M0 112 23 = n) (hb : ∀ z, 0 ≤ z ∧ z < n → M0 130 z = b z) (hR : M0 112 14 = R) (hR8 : 0 ≤ R ∧ R ≤ 8) (ha : 0 ≤ a ∧ a < 72) (hp : 0 ≤ p ∧ p ≤ n) (hq : av (isB b) n p = q) (tb : Bool) (htm : tb = decide (¬ tm = 0)) (h : MS M0 p f kd nb M) {X : Int × Int × Int × Int × Int} (hX : CLS b n R tb q = X) (k1 : X.1 = 0 → ∀ M', MS M0 X.2.2.2.2 f (fun j => if j = a then X.2.2.1 else kd j) (fun j => if j = a then X.2.2.2.1 else nb j) M' → Q (some (0, 0)) WF M') (k0 : ¬ X.1 = 0 → ∀ M' p' kd' nb', MS M0 p' X.2.1 kd' nb' M' → (∀ j, j ≠ a → kd' j = kd j ∧ nb' j = nb j) → Q (some (0, X.1)) WF M') : P 102 0 [some (2, 112), some (0, a), some (0, tm), none, none] [] WF M (0, 0) Q := by
  have a0 := av_bd (isB b) hp.2
  rw [hq] at a0
  have a1 := av_bd (isL b) a0.2.1
  have a2 := av_bd (isB b) a1.2.1
  have kb := KD_bd b q (av (isL b) n q)
  have a3 := ARG_bd (b := b) (R := R) (kd := KD b q (av (isL b) n q)) a2.2.1
  have a4 := av_bd (isB b) a3.2
  refine t_Mo_readClause_0 hP (s_wordM hP hn h23 hb hp h fun M1 g1 e27 e26 => ?_)
  rw [hq] at g1 e27 e26
  have hw : ∀ i, i < 10 → (M1 112 26 = cdW i ↔ spB b i q (av (isL b) n q) = true) := fun i hi => by
    rw [e26]
    exact hs_sp hi a0.2.1
  have e14 : M1 112 14 = R := (g1.2.1 14 (by decide)).trans hR
  have e25 := g1.2.2.1
  refine t_Mo_readClause_2 hP (s_keyM hP hw ?_)
  have hX2 : ¬ KD b q (av (isL b) n q) = -1 → tm = 0 → CL2 b n (av (isB b) n (av (isL b) n q)) (KD b q (av (isL b) n q)) (ARG b n R (KD b q (av (isL b) n q)) (av (isB b) n (av (isL b) n q))) = X := fun c1 c2 => by
    rw [← hX]
    unfold CLS
    rw [if_neg c1, if_neg (by rw [htm, decide_eq_false (fun d => d c2)]; decide)]
  have g2 : MS M0 (av (isL b) n q) f kd nb (updM M1 112 25 (M1 112 27)) := by
    rw [e27]
    exact g1.pl _
  have fin1 : CL2 b n (av (isB b) n (av (isL b) n q)) (KD b q (av (isL b) n q)) (ARG b n R (KD b q (av (isL b) n q)) (av (isB b) n (av (isL b) n q))) = X → (ARG b n R (KD b q (av (isL b) n q)) (av (isB b) n (av (isL b) n q))).1 = 0 → ∀ M', MS M0 (ARG b n R (KD b q (av (isL b) n q)) (av (isB b) n (av (isL b) n q))).2.2 f kd nb M' → M' 112 28 = (ARG b n R (KD b q (av (isL b) n q)) (av (isB b) n (av (isL b) n q))).2.1 → P 102 54 [some (2, 112), some (0, a), none, some (0, KD b q (av (isL b) n q)), none] [(0, 0)] WF M' (0, 0) Q := fun hX z M' h' e28 => by
    unfold CL2 at hX
    rw [if_pos z] at hX
    refine t_Mo_readClause_54 hP (fun _ => ?_) (fun c => absurd (Int.le_refl _) c)
    rw [e28]
    refine s_hereM hP hn h23 hb _ _ _ rfl (by omega) (h'.cl _ _ _) fun M4 h4 => ?_
    have f4 := h4.2.2.1
    refine t_Mo_readClause_72 hP (fun c => ?_) (fun c => ?_)
    · have lt : av (isB b) n (ARG b n R (KD b q (av (isL b) n q)) (av (isB b) n (av (isL b) n q))).2.2 < n := by
        apply Classical.byContradiction
        intro d
        rw [if_neg d] at c
        exact absurd c (by decide)
      rw [if_pos lt] at c
      rw [if_pos ⟨lt, c⟩] at hX
      rw [← hX] at k1
      rw [f4]
      exact k1 rfl _ (h4.pl _)
    · have nt : ¬ (av (isB b) n (ARG b n R (KD b q (av (isL b) n q)) (av (isB b) n (av (isL b) n q))).2.2 < n ∧ b (av (isB b) n (ARG b n R (KD b q (av (isL b) n q)) (av (isB b) n (av (isL b) n q))).2.2) = 59) := fun d => by
        rw [if_pos d.1] at c
        exact c d.2
      rw [if_neg nt] at hX
      rw [← hX] at k0
      rw [f4]
      refine k0 (by show ¬ (1 : Int) = 0; decide) _ _ _ _ (h4.fw _) fun j hj => ?_
      exact ⟨if_neg hj, if_neg hj⟩
  have fin0 : CL2 b n (av (isB b) n (av (isL b) n q)) (KD b q (av (isL b) n q)) (ARG b n R (KD b q (av (isL b) n q)) (av (isB b) n (av (isL b) n q))) = X → ¬ (ARG b n R (KD b q (av (isL b) n q)) (av (isB b) n (av (isL b) n q))).1 = 0 → ∀ M' p', MS M0 p' (av (isB b) n (av (isL b) n q)) kd nb M' → P 102 54 [some (2, 112), some (0, a), none, some (0, KD b q (av (isL b) n q)), none] [(0, (ARG b n R (KD b q (av (isL b) n q)) (av (isB b) n (av (isL b) n q))).1)] WF M' (0, 0) Q := fun hX z M' p' h' => by
    have ap := ARG_pos (b := b) (n := n) (R := R) (kd := KD b q (av (isL b) n q)) (q := av (isB b) n (av (isL b) n q))
    unfold CL2 at hX
    rw [if_neg z] at hX
    rw [← hX] at k0
    exact t_Mo_readClause_54 hP (fun c => by omega) (fun _ => k0 z M' p' _ _ h' fun j _ => ⟨rfl, rfl⟩)
  have yes : ¬ KD b q (av (isL b) n q) < 0 → tm = 0 → (KD b q (av (isL b) n q) = 2 ∨ KD b q (av (isL b) n q) = 3) → P 99 0 [some (2, 112)] [] WF (updM M1 112 25 (M1 112 27)) (0, 0) (fun v w' M' => P 102 31 [some (2, 112), some (0, a), none, some (0, KD b q (av (isL b) n q)), none] (v.toList ++ []) w' M' (0, 0) Q) := fun c1 c2 c3 => by
    have hX := hX2 (by omega) c2
    have e : ARG b n R (KD b q (av (isL b) n q)) (av (isB b) n (av (isL b) n q)) = YES b n (av (isB b) n (av (isL b) n q)) := if_pos c3
    have fin1 := fin1 hX
    have fin0 := fin0 hX
    rw [e] at fin1 fin0
    exact s_yesM hP hn h23 hb (by omega) rfl g2 (fun z M' h' e28 => t_Mo_readClause_31 hP (fin1 z M' h' e28)) (fun z M' p' h' => t_Mo_readClause_31 hP (fin0 z M' p' h'))
  have num : ∀ lo hi, ¬ KD b q (av (isL b) n q) < 0 → tm = 0 → ¬ (KD b q (av (isL b) n q) = 2 ∨ KD b q (av (isL b) n q) = 3) → ¬ KD b q (av (isL b) n q) = 7 → lowK (KD b q (av (isL b) n q)) = lo → higK (KD b q (av (isL b) n q)) = hi → P 100 0 [some (2, 112), some (0, lo), some (0, hi), some (0, 2), none, none] [] WF (updM M1 112 25 (M1 112 27)) (0, 0) (fun v w' M' => P 102 54 [some (2, 112), some (0, a), none, some (0, KD b q (av (isL b) n q)), none] (v.toList ++ []) w' M' (0, 0) Q) := fun lo hi c1 c2 c3 c4 e1 e2 => by
    have hX := hX2 (by omega) c2
    have e : ARG b n R (KD b q (av (isL b) n q)) (av (isB b) n (av (isL b) n q)) = NUM b n (av (isB b) n (av (isL b) n q)) lo hi 2 := by
      rw [← e1, ← e2]
      exact (if_neg c3).trans (if_neg c4)
    have fin1 := fin1 hX
    have fin0 := fin0 hX
    rw [e] at fin1 fin0
    exact s_numM hP (by decide) hn h23 hb (by omega) rfl g2 (fun z M' h' e28 => fin1 z M' h' e28) (fun z M' p' h' => fin0 z M' p' h')
  refine t_Mo_readClause_4 hP (fun c d => by omega) (fun c _ => ?_) (fun c1 c2 c3 => yes c1 c2 (Or.inl c3)) (fun c1 c2 c3 c4 c5 c6 => ?_) (fun c1 c2 c3 c4 c5 c6 => ?_) (fun c1 c2 c3 c4 c5 => ?_) (fun c1 c2 c3 c4 => yes c1 c2 (Or.inr c4)) (fun c1 c2 _ => ?_) (fun c1 c2 d => by omega)
  · have hX : (1, q, -1, 0, q) = X := by
      rw [← hX]
      unfold CLS
      rw [if_pos (by omega)]
    rw [← hX] at k0
    rw [e25]
    exact k0 (by show ¬ (1 : Int) = 0; decide) _ _ _ _ (g1.fw q) fun j _ => ⟨rfl, rfl⟩
  · have kv : KD b q (av (isL b) n q) = 1 ∨ KD b q (av (isL b) n q) = 4 ∨ KD b q (av (isL b) n q) = 5 ∨ KD b q (av (isL b) n q) = 6 := by omega
    have lo : lowK (KD b q (av (isL b) n q)) = 0 := by rcases kv with e | e | e | e <;> rw [e] <;> rfl
    refine t_Mo_readClause_50 hP (fun d1 d2 d3 => num 0 100 c1 c2 (by omega) c5 lo ?_) (fun d1 d2 d3 => num 0 999 c1 c2 (by omega) c5 lo ?_) (fun d1 d2 => num 0 3 c1 c2 (by omega) c5 lo ?_) (fun d => absurd d c6)
    · have : KD b q (av (isL b) n q) = 5 ∨ KD b q (av (isL b) n q) = 6 := by omega
      rcases this with e | e <;> rw [e] <;> rfl
    · rw [d3]; rfl
    · rw [d2]; rfl
  · refine t_Mo_readClause_50 hP (fun d => absurd c6 d) (fun d => absurd c6 d) (fun d => absurd c6 d) (fun d => num 2 20 c1 c2 (by omega) c5 ?_ ?_)
    · rw [c6]; rfl
    · rw [c6]; rfl
  · have hX := hX2 (by omega) c2
    have e : ARG b n R (KD b q (av (isL b) n q)) (av (isB b) n (av (isL b) n q)) = NUM b n (av (isB b) n (av (isL b) n q)) 0 (R - 1) 3 := (if_neg (by omega)).trans (if_pos c5)
    have fin1 := fin1 hX
    have fin0 := fin0 hX
    rw [e] at fin1 fin0
    rw [e14]
    exact s_numM hP (by decide) hn h23 hb (by omega) rfl g2 (fun z M' h' e28 => t_Mo_readClause_43 hP (fin1 z M' h' e28)) (fun z M' p' h' => t_Mo_readClause_43 hP (fin0 z M' p' h'))
  · have hX : (4, q, -1, 0, q) = X := by
      rw [← hX]
      unfold CLS
      rw [if_neg (by omega), if_pos (by rw [htm]; exact decide_eq_true c2)]
    rw [← hX] at k0
    rw [e25]
    exact k0 (by show ¬ (4 : Int) = 0; decide) _ _ _ _ (g1.fw q) fun j _ => ⟨rfl, rfl⟩
end MR3
