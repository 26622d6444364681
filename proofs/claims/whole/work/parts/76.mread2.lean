/-! the model's reader, a clause -/
section MR2
variable {P : Jg_} {M0 M : Mm_} {n p f : Int} {kd nb b : Int → Int}
theorem s_keyM (hP : Clo P) {Q : Qp_} {x e : Int} (hw : ∀ i, i < 10 → (M 112 26 = cdW i ↔ spB b i x e = true)) (k : Q (some (0, KD b x e)) WF M) : P 97 0 [some (2, 112), none, none] [] WF M (0, 0) Q := by
  have sec : ∀ (v : Int), (0 ≤ v → Q (some (0, v)) WF M) → (¬ 0 ≤ v → Q (some (0, if spB b 4 x e then 4 else if spB b 5 x e then 5 else if spB b 6 x e then 6 else if spB b 7 x e then 7 else -1)) WF M) → P 96 0 [some (0, 102), some (0, 114), some (0, 101), some (0, 101), some (0, 0), some (0, 0), none, none] [] WF M (0, 0) (fun r w' M' => P 97 63 [some (2, 112), some (0, v), none] (r.toList ++ [(1, M 112 26)]) w' M' (0, 0) Q) := fun v kv kn => by
    refine s_code hP (by decide) (by decide) (by decide) (by decide) (by decide) (by decide) (cdW 4) (by decide) (t_Mo_keyOf_63 hP (fun c4 => ?_) (fun c4 d => kv d) (fun c4 d => ?_))
    · refine s_code hP (by decide) (by decide) (by decide) (by decide) (by decide) (by decide) (cdW 5) (by decide) (t_Mo_keyOf_76 hP (fun c5 => ?_) (fun c5 d => kv d) (fun c5 d => ?_))
      · refine s_code hP (by decide) (by decide) (by decide) (by decide) (by decide) (by decide) (cdW 6) (by decide) (t_Mo_keyOf_89 hP (fun c6 => ?_) (fun c6 d => kv d) (fun c6 d => ?_))
        · refine s_code hP (by decide) (by decide) (by decide) (by decide) (by decide) (by decide) (cdW 7) (by decide) (t_Mo_keyOf_102 hP (fun c7 d => kv d) (fun c7 d => ?_) (fun c7 d => kv d) (fun c7 d => ?_))
          · have := kn d
            rw [if_neg (fun q => c4 ((hw 4 (by decide)).mpr q)), if_neg (fun q => c5 ((hw 5 (by decide)).mpr q)), if_neg (fun q => c6 ((hw 6 (by decide)).mpr q)), if_neg (fun q => c7 ((hw 7 (by decide)).mpr q))] at this
            exact this
          · have := kn d
            rw [if_neg (fun q => c4 ((hw 4 (by decide)).mpr q)), if_neg (fun q => c5 ((hw 5 (by decide)).mpr q)), if_neg (fun q => c6 ((hw 6 (by decide)).mpr q)), if_pos ((hw 7 (by decide)).mp c7)] at this
            exact this
        · have := kn d
          rw [if_neg (fun q => c4 ((hw 4 (by decide)).mpr q)), if_neg (fun q => c5 ((hw 5 (by decide)).mpr q)), if_pos ((hw 6 (by decide)).mp c6)] at this
          exact this
      · have := kn d
        rw [if_neg (fun q => c4 ((hw 4 (by decide)).mpr q)), if_pos ((hw 5 (by decide)).mp c5)] at this
        exact this
    · have := kn d
      rw [if_pos ((hw 4 (by decide)).mp c4)] at this
      exact this
  unfold KD at k
  refine t_Mo_keyOf_0 hP (s_code hP (by decide) (by decide) (by decide) (by decide) (by decide) (by decide) (cdW 0) (by decide) (t_Mo_keyOf_9 hP (fun c0 => ?_) (fun c0 => sec 0 (fun _ => ?_) (fun d => absurd (by decide) d))))
  · rw [if_neg (fun q => c0 ((hw 0 (by decide)).mpr q))] at k
    refine s_code hP (by decide) (by decide) (by decide) (by decide) (by decide) (by decide) (cdW 1) (by decide) (t_Mo_keyOf_22 hP (fun c1 => ?_) (fun c1 => sec 1 (fun _ => ?_) (fun d => absurd (by decide) d)))
    · rw [if_neg (fun q => c1 ((hw 1 (by decide)).mpr q))] at k
      refine s_code hP (by decide) (by decide) (by decide) (by decide) (by decide) (by decide) (cdW 2) (by decide) (t_Mo_keyOf_35 hP (fun c2 => ?_) (fun c2 => sec 2 (fun _ => ?_) (fun d => absurd (by decide) d)))
      · rw [if_neg (fun q => c2 ((hw 2 (by decide)).mpr q))] at k
        refine s_code hP (by decide) (by decide) (by decide) (by decide) (by decide) (by decide) (cdW 3) (by decide) (t_Mo_keyOf_48 hP (fun c3 => ?_) (fun c3 => sec 3 (fun _ => ?_) (fun d => absurd (by decide) d)))
        · rw [if_neg (fun q => c3 ((hw 3 (by decide)).mpr q))] at k
          exact sec (-1) (fun d => absurd d (by decide)) (fun _ => k)
        · rw [if_pos ((hw 3 (by decide)).mp c3)] at k
          exact k
      · rw [if_pos ((hw 2 (by decide)).mp c2)] at k
        exact k
    · rw [if_pos ((hw 1 (by decide)).mp c1)] at k
      exact k
  · rw [if_pos ((hw 0 (by decide)).mp c0)] at k
    exact k
theorem s_yesM (hP : Clo P) {Q : Qp_} {q : Int} (hn : n ≤ 120) (h23 : M0 112 23 = n) (hb : ∀ z, 0 ≤ z ∧ z < n → M0 130 z = b z) (hp : 0 ≤ p ∧ p ≤ n) (hq : av (isB b) n p = q) (h : MS M0 p f kd nb M) (k1 : (YES b n q).1 = 0 → ∀ M', MS M0 (YES b n q).2.2 f kd nb M' → M' 112 28 = (YES b n q).2.1 → Q (some (0, 0)) WF M') (k0 : ¬ (YES b n q).1 = 0 → ∀ M' p', MS M0 p' q kd nb M' → Q (some (0, (YES b n q).1)) WF M') : P 99 0 [some (2, 112)] [] WF M (0, 0) Q := by
  have a := av_bd (isB b) hp.2
  rw [hq] at a
  refine t_Mo_readYes_0 hP (s_wordM hP hn h23 hb hp h fun M1 g1 e27 e26 => t_Mo_readYes_2 hP ?_)
  rw [hq] at g1 e27 e26
  have hw : ∀ i, i < 10 → (M1 112 26 = cdW i ↔ spB b i q (av (isL b) n q) = true) := fun i hi => by
    rw [e26]
    exact hs_sp hi a.2.1
  unfold YES at k1 k0
  refine s_code hP (by decide) (by decide) (by decide) (by decide) (by decide) (by decide) (cdW 8) (by decide) (t_Mo_readYes_12 hP (fun c8 => ?_) (fun c8 => ?_))
  · rw [if_neg (fun q => c8 ((hw 8 (by decide)).mpr q))] at k1 k0
    refine s_code hP (by decide) (by decide) (by decide) (by decide) (by decide) (by decide) (cdW 9) (by decide) (t_Mo_readYes_25 hP (fun _ d => absurd d (by decide)) (fun c9 _ => ?_) (fun c9 => ?_))
    · rw [if_neg (fun q => c9 ((hw 9 (by decide)).mpr q))] at k0
      have := (g1.x (i := 28) (-1)).fw q
      rw [g1.2.2.1]
      exact k0 (by show ¬ (1 : Int) = 0; decide) _ _ this
    · rw [if_pos ((hw 9 (by decide)).mp c9)] at k1
      rw [e27]
      exact k1 rfl _ ((g1.x (i := 28) 0).pl _) (by rw [upd_i (by decide), upd_s])
  · rw [if_pos ((hw 8 (by decide)).mp c8)] at k1
    rw [e27]
    exact k1 rfl _ ((g1.x (i := 28) 1).pl _) (by rw [upd_i (by decide), upd_s])
theorem s_numM (hP : Clo P) {Q : Qp_} {q lo hi fn : Int} (hfn : 0 < fn) (hn : n ≤ 120) (h23 : M0 112 23 = n) (hb : ∀ z, 0 ≤ z ∧ z < n → M0 130 z = b z) (hp : 0 ≤ p ∧ p ≤ n) (hq : av (isB b) n p = q) (h : MS M0 p f kd nb M) (k1 : (NUM b n q lo hi fn).1 = 0 → ∀ M', MS M0 (NUM b n q lo hi fn).2.2 f kd nb M' → M' 112 28 = (NUM b n q lo hi fn).2.1 → Q (some (0, 0)) WF M') (k0 : ¬ (NUM b n q lo hi fn).1 = 0 → ∀ M' p', MS M0 p' q kd nb M' → Q (some (0, (NUM b n q lo hi fn).1)) WF M') : P 100 0 [some (2, 112), some (0, lo), some (0, hi), some (0, fn), none, none] [] WF M (0, 0) Q := by
  have a := av_bd (isB b) hp.2
  rw [hq] at a
  have aD := av_bd (isD b) a.2.1
  refine t_Mo_readNumber_0 hP (s_hereM hP hn h23 hb _ _ _ rfl hp.1 h fun M1 g1 => ?_)
  rw [hq] at g1 ⊢
  obtain ⟨y1, y2, y3, y4, -⟩ := id g1
  unfold NUM at k1 k0
  have bad : av (isD b) n q = q → Q (some (0, 1)) WF (updM M1 112 24 (M1 112 25)) := fun c => by
    rw [if_pos c] at k0
    rw [y3]
    exact k0 (by show ¬ (1 : Int) = 0; decide) _ _ (g1.fw q)
  refine t_Mo_readNumber_2 hP (fun c => bad ?_) (fun _ c => bad ?_) (fun c1 c2 => ?_)
  · by_cases d : q < n
    · rw [if_pos d] at c
      exact av_n (decide_eq_false (by omega))
    · exact av_ge (by omega)
  · by_cases d : q < n
    · rw [if_pos d] at c
      exact av_n (decide_eq_false (by omega))
    · exact av_ge (by omega)
  · have d : q < n := by
      apply Classical.byContradiction
      intro d
      rw [if_neg d] at c1
      omega
    rw [if_pos d] at c1 c2
    have ne : ¬ av (isD b) n q = q := fun e => by
      have : isD b q = true := decide_eq_true (by omega)
      rw [av_y d this] at e
      have := (av_bd (isD b) (show q + 1 ≤ n by omega)).1
      omega
    rw [if_neg ne] at k1 k0
    rw [y3]
    have main : ∀ (d : Nat) (z : Int) (M : Mm_), (n - z).toNat = d → q ≤ z ∧ z ≤ n → (∀ y, q ≤ y → y < z → 48 ≤ b y ∧ b y ≤ 57) → av (isD b) n z = av (isD b) n q → MS M0 z f kd nb M → (0 ≤ M 112 28 ∧ M 112 28 ≤ 200000) → (z - q ≤ 3 → M 112 28 = nv b q (z - q).toNat) → P 100 21 [some (2, 112), some (0, lo), some (0, hi), some (0, fn), none, some (0, q)] [] WF M (0, 0) Q := by
      have fin : ∀ (z : Int) (M : Mm_), av (isD b) n q = z → MS M0 z f kd nb M → (z - q ≤ 3 → M 112 28 = nv b q (z - q).toNat) → P 100 64 [some (2, 112), some (0, lo), some (0, hi), some (0, fn), none, some (0, q)] [] WF M (0, 0) Q := fun z M e h e28 => by
        rw [e] at k1 k0 aD
        have e25 := h.2.2.1
        refine t_Mo_readNumber_64 hP (fun c1 c2 => ?_) (fun c1 c2 c3 => ?_) (fun c1 c2 c3 => ?_) (fun c1 => ?_)
        · rw [e28 (by omega)] at c2
          rw [if_neg (by omega), if_pos (Or.inl c2)] at k0
          exact k0 (by show ¬ fn = 0; omega) _ _ (h.fw q)
        · rw [e28 (by omega)] at c3
          rw [if_neg (by omega), if_pos (Or.inr c3)] at k0
          exact k0 (by show ¬ fn = 0; omega) _ _ (h.fw q)
        · rw [e28 (by omega)] at c2 c3
          rw [if_neg (by omega), if_neg (by omega)] at k1
          exact k1 rfl M h (e28 (by omega))
        · rw [if_pos (by omega)] at k0
          exact k0 (by show ¬ (2 : Int) = 0; decide) _ _ (h.fw q)
      intro d
      induction d with
      | zero =>
        intro z M hd hz lt ea h bd e28
        have e23 := h.2.1 23 (by decide)
        have e25 := h.2.2.1
        exact t_Mo_readNumber_21 hP (fun _ => fin z M (by rw [← ea, av_ge (by omega)]) h e28) (fun q => by omega) (fun q => by omega) (fun q => by omega) (fun q => by omega)
      | succ d ih =>
        intro z M hd hz lt ea h bd e28
        have e23 := h.2.1 23 (by decide)
        have e25 := h.2.2.1
        have b1 : M 130 z = b z := by rw [h.1 130 (by decide) (by decide) (by decide)]; exact hb z (by omega)
        have nx : ¬ M 130 (M 112 25) < 48 → ¬ 57 < M 130 (M 112 25) → ∀ v, (0 ≤ v ∧ v ≤ 200000) → (z + 1 - q ≤ 3 → v = nv b q (z + 1 - q).toNat) → P 100 21 [some (2, 112), some (0, lo), some (0, hi), some (0, fn), none, some (0, q)] [] WF (updM (updM M 112 28 v) 112 25 (M 112 25 + 1)) (0, 0) Q := fun c1 c2 v hv e => by
          rw [e25, b1] at c1 c2
          rw [e25]
          refine ih (z + 1) _ (by omega) (by omega) (fun y y1 y2 => ?_) ?_ ((h.x v).pl _) ?_ (fun c => ?_)
          · by_cases e : y = z
            · rw [e]
              omega
            · exact lt y y1 (by omega)
          · rw [← ea]
            exact (av_y (by omega) (decide_eq_true (by omega))).symm
          · rw [upd_i (by decide), upd_s]
            exact hv
          · rw [upd_i (by decide), upd_s]
            exact e c
        refine t_Mo_readNumber_21 hP (fun q => by omega) (fun _ c => fin z M ?_ h e28) (fun _ _ c => fin z M ?_ h e28) (fun _ c1 c2 c3 => nx c1 c2 _ (by omega) fun c => ?_) (fun _ c1 c2 c3 => nx c1 c2 _ bd fun c => ?_)
        · rw [e25, b1] at c
          rw [← ea]
          exact av_n (decide_eq_false (by omega))
        · rw [e25, b1] at c
          rw [← ea]
          exact av_n (decide_eq_false (by omega))
        · rw [e28 (by omega), e25, b1, show (z + 1 - q).toNat = (z - q).toNat + 1 by omega]
          show _ = nv b q (z - q).toNat * 10 + b (q + ((z - q).toNat : Int)) - 48
          rw [show q + ((z - q).toNat : Int) = z by omega]
          omega
        · have nb' := nv_999 (b := b) (q := q) (m := (z - q).toNat) (by omega) fun y y1 y2 => lt y y1 (by omega)
          have := e28 (by omega)
          omega
    refine main _ q _ rfl (by omega) (fun y y1 y2 => by omega) rfl (g1.x 0) ?_ (fun _ => ?_)
    · rw [upd_s]
      omega
    · rw [upd_s, show (q - q).toNat = 0 by omega]
      rfl
end MR2
