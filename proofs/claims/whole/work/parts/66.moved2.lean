/-! moved: the calls -/
section MW
variable {P : Jg_} {L : Nat} {xs : Nat → Int32} {A B : Mm_}
theorem s_sameS (hP : Clo P) {Q : Qp_} {M : Mm_} {x y : Int} {s t : Nat} (hS : Sc B M) (hT : WfT B) (hx : 0 ≤ x ∧ x < 10) (hy : 0 ≤ y ∧ y < 10) (hs : s < nSe A B x) (ht : t < nSe A B y) (h8 : ∀ s : Nat, s < nSe A B x → M 108 s = sEn A B x s + 1) (h9 : ∀ s : Nat, s < nSe A B y → M 109 s = sEn A B y s + 1) (k1 : SSb A B x y s t = true → Q (some (0, 1)) WF M) (k0 : SSb A B x y s t = false → Q (some (0, 0)) WF M) : P 203 0 [some (2, 107), some (2, 3 + 2 * x), some (0, (s : Int)), some (2, 3 + 2 * y), some (0, (t : Int)), none, none] [] WF M (0, 0) Q := by
  have Xb := (hT.2.1 x hx).1
  have Yb := (hT.2.1 y hy).1
  have so := sEn_ok hs
  have to := sEn_ok ht
  have e8 := h8 s hs
  have e9 := h9 t ht
  have b8 : sBg A B x s = if (s : Int) = 0 then 0 else M 108 ((s : Int) - 1) := by
    unfold sBg
    by_cases e : (s : Int) = 0
    · rw [if_pos e, if_pos e]
    · rw [if_neg e, if_neg e, show (s : Int) - 1 = ((s - 1 : Nat) : Int) by omega, h8 (s - 1) (by omega)]
  have b9 : sBg A B y t = if (t : Int) = 0 then 0 else M 109 ((t : Int) - 1) := by
    unfold sBg
    by_cases e : (t : Int) = 0
    · rw [if_pos e, if_pos e]
    · rw [if_neg e, if_neg e, show (t : Int) - 1 = ((t - 1 : Nat) : Int) by omega, h9 (t - 1) (by omega)]
  have nsx : nSe A B x ≤ 60 := by have := cntB_le (seB A B x) (B 115 x).toNat; unfold nSe; omega
  have nsy : nSe A B y ≤ 60 := by have := cntB_le (seB A B y) (B 115 y).toNat; unfold nSe; omega
  have no : ¬ (sEn A B x s - sBg A B x s = sEn A B y t - sBg A B y t) → Q (some (0, 0)) WF M := fun g => k0 (by
    rw [Bool.eq_false_iff]
    intro h
    exact g (SSb_iff.mp h).1)
  have rep : ∀ i j : Int, i = sBg A B x s → j = sBg A B y t → (sEn A B x s - sBg A B x s = sEn A B y t - sBg A B y t) → P 40 0 [some (2, 3 + 2 * y), some (0, j), some (2, 3 + 2 * x), some (0, i), some (0, M 108 (s : Int) - 1), none] [] WF M (0, 0) (fun v w' M' => P 203 48 [none, none, none, none, none, none, none] (v.toList ++ []) w' M' (0, 0) Q) := by
    intro i j hi hj hl
    rw [hi, hj, e8, show sEn A B x s + 1 - 1 = sEn A B x s by omega]
    refine s_repeats hP hS hT hy hx (by omega) (by omega) (fun g => t_Sentences_isSameSentence_48 hP (k1 (SSb_iff.mpr ⟨hl, g⟩))) (fun g => t_Sentences_isSameSentence_48 hP (k0 ?_))
    rw [Bool.eq_false_iff]
    intro h
    exact g (SSb_iff.mp h).2
  refine t_Sentences_isSameSentence_0 hP (tx_of hx) (tx_of hy) (fun q1 q2 q3 => ?_) (fun q1 q2 q3 => ?_) (fun q1 q2 q3 => ?_) (fun q1 q2 q3 => ?_) (fun q1 q2 q3 => ?_) (fun q1 q2 q3 => ?_) (fun q1 q2 q3 => ?_) (fun q1 q2 q3 => ?_) (s6 := fun q1 q2 => by rw [if_neg q1] at b8; omega) (s8 := fun q1 q2 => by rw [if_neg q2] at b9; omega) (s12 := fun q1 q2 => by rw [if_neg q1] at b8; omega) (s22 := fun q1 q2 => by rw [if_neg q2] at b9; omega)
  · rw [if_neg q1] at b8
    rw [if_neg q2] at b9
    exact rep _ _ b8.symm b9.symm (by omega)
  · rw [if_neg q1] at b8
    rw [if_neg q2] at b9
    exact no (by omega)
  · rw [if_neg q1] at b8
    rw [if_pos q2] at b9
    exact rep _ _ b8.symm b9.symm (by omega)
  · rw [if_neg q1] at b8
    rw [if_pos q2] at b9
    exact no (by omega)
  · rw [if_pos q1] at b8
    rw [if_neg q2] at b9
    exact rep _ _ b8.symm b9.symm (by omega)
  · rw [if_pos q1] at b8
    rw [if_neg q2] at b9
    exact no (by omega)
  · rw [if_pos q1] at b8
    rw [if_pos q2] at b9
    exact rep _ _ b8.symm b9.symm (by omega)
  · rw [if_pos q1] at b8
    rw [if_pos q2] at b9
    exact no (by omega)
theorem mset_ins {p p' : Int → Bool} {n t : Nat} (ht : t < n) (h : ∀ k : Nat, p' k = (p k || decide (k = t))) : mset p n ||| 2 ^ t = mset p' n := by
  refine mset_eq fun j => ?_
  rw [or_tb, mset_tb, h]
  by_cases e : t = j
  · subst e
    rw [decide_eq_true ht]
    simp
  · rw [decide_eq_false e, decide_eq_false (show ¬ j = t from fun g => e g.symm)]
    simp
theorem nSe_bd (hT : WfT B) {x : Int} (hx : 0 ≤ x ∧ x < 10) : nSe A B x ≤ 60 := by
  have Xb := (hT.2.1 x hx).1
  have := cntB_le (seB A B x) (B 115 x).toNat
  unfold nSe
  omega
/-- the partner of sentence s -/
noncomputable def prt (A B : Mm_) (x y : Int) (s : Nat) : Int := fstB (fun t => !(PA A B x y s).1 t && SSb A B x y s t) (nSe A B y)
theorem PA_n {x y : Int} {s : Nat} (h : prt A B x y s = -1) : PA A B x y (s + 1) = PA A B x y s := by
  unfold prt at h
  show (if _ then _ else _) = _
  rw [if_pos h]
theorem PA_s {x y : Int} {s : Nat} (h : ¬ prt A B x y s = -1) : PA A B x y (s + 1) = (fun z => (PA A B x y s).1 z || decide (z = prt A B x y s), (PA A B x y s).2.1 + 1, fun z : Int => if z = ((PA A B x y s).2.1 : Int) then prt A B x y s else (PA A B x y s).2.2 z) := by
  unfold prt at h
  show (if _ then _ else _) = _
  rw [if_neg h]
  rfl
theorem s_pair (hP : Clo P) {Q : Qp_} {M : Mm_} {x y : Int} (hI : IV L xs A B M) (hx : 0 ≤ x ∧ x < B 112 0) (hy : 0 ≤ y ∧ y < B 112 0) (k : ∀ M', Fr 107 111 M M' → M' 107 4 = (nSe A B x : Int) → M' 107 5 = ((PA A B x y (nSe A B x)).2.1 : Int) → (∀ z : Nat, z < (PA A B x y (nSe A B x)).2.1 → M' 110 z = (PA A B x y (nSe A B x)).2.2 z) → Q none WF M') : P 204 0 [some (2, 107), some (2, 3 + 2 * x), some (2, 3 + 2 * y), none, none, none, none, none, none] [] WF M (0, 0) Q := by
  obtain ⟨u0, u1, u2⟩ := rdT hI.1 hI.2.1.2.1
  have hT := hI.2.1.2.1
  have hx' : 0 ≤ x ∧ x < 10 := by omega
  have hy' : 0 ≤ y ∧ y < 10 := by omega
  have tx := tx_of hx'
  have ty := tx_of hy'
  have nx := nSe_bd (A := A) hT hx'
  have ny := nSe_bd (A := A) hT hy'
  refine t_Sentences_pair_0 hP tx ty (s_split hP hI hx (Or.inl rfl) fun M1 F1 e1 => t_Sentences_pair_5 hP tx ty ?_)
  have G1 : Fr 107 111 M M1 := F1.mono
  refine s_split hP (hI.fr (G1.u)) hy (Or.inr rfl) fun M2 F2 e2 => t_Sentences_pair_10 hP tx ty ?_
  have G2 : Fr 107 111 M (updM M2 107 5 0) := (G1.u.trans F2.mono).u
  have e1' : ∀ s : Nat, s < nSe A B x → updM M2 107 5 0 108 s = sEn A B x s + 1 := fun s hs => by
    rw [upd_c (by decide), F2 108 (by omega), upd_c (by decide)]
    exact e1 s hs
  have e2' : ∀ s : Nat, s < nSe A B y → updM M2 107 5 0 109 s = sEn A B y s + 1 := fun s hs => by
    rw [upd_c (by decide)]
    exact e2 s hs
  have e4 : updM M2 107 5 0 107 4 = (nSe A B x : Int) := by
    rw [upd_i (by decide), F2 107 (by omega), upd_s]
  refine lpN (n := nSe A B x) (f := fun s : Nat => ∀ M', Fr 107 111 M M' → (∀ s : Nat, s < nSe A B x → M' 108 s = sEn A B x s + 1) → (∀ s : Nat, s < nSe A B y → M' 109 s = sEn A B y s + 1) → M' 107 4 = (nSe A B x : Int) → M' 107 5 = ((PA A B x y s).2.1 : Int) → (∀ z : Nat, z < (PA A B x y s).2.1 → M' 110 z = (PA A B x y s).2.2 z) → P 204 18 [some (2, 107), some (2, 3 + 2 * x), some (2, 3 + 2 * y), some (0, (nSe A B y : Int)), some (1, (mset (PA A B x y s).1 60 : Int)), none, some (0, (s : Int)), none, none] [] WF M' (0, 0) Q) ?_ ?_ 0 (Nat.zero_le _) (updM M2 107 5 0) G2 e1' e2' e4 (upd_s _ _ _ _) (fun z hz => by have : (PA A B x y 0).2.1 = 0 := rfl; omega)
  · intro M' F' h8 h9 h4 h5 hz
    exact t_Sentences_pair_18 hP tx ty (fun _ => k M' F' h4 h5 hz) (fun q => by omega)
  · intro s hs ih M' F' h8 h9 h4 h5 hz
    refine t_Sentences_pair_18 hP tx ty (fun q => by omega) (fun _ => ?_)
    have pk := PA_k A B x y s
    have mb : mset (PA A B x y s).1 60 < 9223372036854775808 := mset_le _ (n := 63) (by omega)
    refine lpN (n := nSe A B y) (f := fun t : Nat => (∀ j : Nat, j < t → (!(PA A B x y s).1 j && SSb A B x y s j) = false) → P 204 26 [some (2, 107), some (2, 3 + 2 * x), some (2, 3 + 2 * y), some (0, (nSe A B y : Int)), some (1, (mset (PA A B x y s).1 60 : Int)), none, some (0, (s : Int)), some (0, -1), some (0, (t : Int))] [] WF M' (0, 0) Q) ?_ ?_ 0 (Nat.zero_le _) (fun j hj => by omega)
    · intro h
      refine t_Sentences_pair_26 hP tx ty (fun _ _ => ?_) (fun _ q => absurd rfl q) (fun q => by omega) (fun q => by omega) (fun q => by omega)
      have ih := ih M' F' h8 h9 h4
      rw [PA_n (show prt A B x y s = -1 from fstB_none h)] at ih
      exact ih h5 hz
    · intro t ht iht h
      refine t_Sentences_pair_26 hP tx ty (fun q => by omega) (fun q => by omega) (fun _ q => absurd rfl q) (fun _ _ q => ?_) (fun _ _ q => ?_)
      · refine iht fun j hj => ?_
        by_cases e : j = t
        · subst e
          rw [tbL mb (by omega), mset_tb, decide_eq_true (show j < 60 by omega), Bool.true_and] at q
          cases g : (PA A B x y s).1 j with
          | true => rfl
          | false => rw [g] at q; exact absurd rfl q
        · exact h j (by omega)
      · have g : (PA A B x y s).1 t = false := by
          rw [tbL mb (by omega), mset_tb, decide_eq_true (show t < 60 by omega), Bool.true_and] at q
          cases g : (PA A B x y s).1 t with
          | false => rfl
          | true => rw [g] at q; exact absurd q (by decide)
        refine s_sameS hP (hI.fr F').1 hT hx' hy' hs ht h8 h9 (fun c => t_Sentences_pair_46 hP tx ty (fun q => absurd q (by decide)) (fun _ => ?_)) (fun c => t_Sentences_pair_46 hP tx ty (fun _ => iht fun j hj => ?_) (fun q => absurd rfl q))
        · have pe : prt A B x y s = t := fstB_eq (by omega) (by rw [g, c]; rfl) fun j j0 j1 => by
            obtain ⟨j, rfl⟩ := Int.eq_ofNat_of_zero_le j0
            exact h j (by omega)
          have go : P 204 18 [some (2, 107), some (2, 3 + 2 * x), some (2, 3 + 2 * y), some (0, (nSe A B y : Int)), some (1, orL (mset (PA A B x y s).1 60 : Int) (shlL 1 (t : Int))), none, some (0, (s : Int) + 1), none, none] [] WF (updM (updM M' 110 (M' 107 5) t) 107 5 (M' 107 5 + 1)) (0, 0) Q := by
            have ih := ih (updM (updM M' 110 (M' 107 5) t) 107 5 (M' 107 5 + 1)) F'.u.u (fun s hs => by rw [upd_c (by decide), upd_c (by decide)]; exact h8 s hs) (fun s hs => by rw [upd_c (by decide), upd_c (by decide)]; exact h9 s hs) (by rw [upd_i (by decide), upd_c (by decide)]; exact h4)
            rw [PA_s (by omega), pe] at ih
            rw [sbL mb (by omega), mset_ins (p' := fun z => (PA A B x y s).1 z || decide (z = (t : Int))) (by omega) fun k => by
              show (_ || decide ((k : Int) = t)) = _
              congr 1
              exact decide_eq_decide.mpr (by omega)]
            refine ih ?_ ?_
            · rw [upd_s, h5]
              rfl
            · intro z hz2
              have hz2 : z < (PA A B x y s).2.1 + 1 := hz2
              show _ = if (z : Int) = (PA A B x y s).2.1 then _ else _
              rw [upd_c (by decide), h5]
              by_cases e : (z : Int) = (PA A B x y s).2.1
              · rw [if_pos e, e, upd_s]
              · rw [if_neg e, upd_i e]
                exact hz z (by omega)
          exact t_Sentences_pair_26 hP tx ty (fun _ q => by omega) (fun _ _ => go) (fun _ _ => go) (fun _ q => by omega) (fun _ q => by omega)
        · by_cases e : j = t
          · subst e
            rw [c, Bool.and_false]
          · exact h j (by omega)
theorem s_longC (hP : Clo P) {Q : Qp_} {M : Mm_} {n : Nat} {g : Int → Int} (hn : n ≤ 60) (h5 : M 107 5 = n) (hz : ∀ z : Nat, z < n → M 110 z = g z) (k : ∀ M', Fr 111 111 M M' → Q (some (0, lgs g n)) WF M') : P 205 0 [some (2, 107), none, none, none] [] WF M (0, 0) Q := by
  refine t_Sentences_longestInOrder_0 hP ?_
  refine lpN (n := n) (f := fun p : Nat => ∀ M', Fr 111 111 M M' → (∀ z : Nat, z < p → M' 111 z = chn g p z) → P 205 4 [some (2, 107), some (0, lgs g p), some (0, (p : Int)), none] [] WF M' (0, 0) Q) ?_ ?_ 0 (Nat.zero_le _) M (Fr.refl _ _ _) (fun z hz => by omega)
  · intro M' F' h
    have n5 : M' 107 5 = n := by rw [F' _ (by omega)]; exact h5
    exact t_Sentences_longestInOrder_4 hP (fun _ => k M' F') (fun q => by omega)
  · intro p hp ih M' F' h
    have n5 : M' 107 5 = n := by rw [F' _ (by omega)]; exact h5
    refine t_Sentences_longestInOrder_4 hP (fun q => by omega) (fun _ => ?_)
    refine lpN (n := p) (f := fun q : Nat => ∀ M2, Fr 111 111 M M2 → (∀ z : Nat, z < p → M2 111 z = chn g p z) → M2 111 p = inn (chn g p) g p q → P 205 15 [some (2, 107), some (0, lgs g p), some (0, (p : Int)), some (0, (q : Int))] [] WF M2 (0, 0) Q) ?_ ?_ 0 (Nat.zero_le _) _ F'.u (fun z hz => by rw [upd_i (by omega)]; exact h z hz) (upd_s _ _ _ _)
    · intro M2 F2 h2 hi
      refine t_Sentences_longestInOrder_15 hP (fun _ => ?_) (fun q => by omega) (fun q => by omega)
      have ih := ih M2 F2 (fun z hz => by
        show _ = if (z : Int) = p then _ else _
        by_cases e : (z : Int) = p
        · rw [if_pos e, e, hi]
        · rw [if_neg e, h2 z (by omega)])
      have ce : chn g (p + 1) p = M2 111 p := by
        show (if (p : Int) = p then _ else _) = _
        rw [if_pos rfl, hi]
      have le : maxI (lgs g p) (M2 111 p) = lgs g (p + 1) := by
        show (if _ then _ else _) = (if _ then _ else _)
        rw [ce]
      rw [le]
      exact ih
    · intro q hq iq M2 F2 h2 hi
      have f1 : M2 110 p = g p := by rw [F2 _ (by omega)]; exact hz p (by omega)
      have f2 : M2 110 q = g q := by rw [F2 _ (by omega)]; exact hz q (by omega)
      have c2 := h2 q (by omega)
      have cb := chn_bd g p q (by omega)
      refine t_Sentences_longestInOrder_15 hP (fun q => by omega) (fun _ q1 => iq M2 F2 h2 ?_) (fun _ q1 => iq _ F2.u (fun z hz => by rw [upd_i (by omega)]; exact h2 z hz) ?_)
      · show _ = if _ then _ else _
        rw [if_neg (by omega)]
        exact hi
      · show _ = if _ then _ else _
        rw [upd_s, c2, hi]
        unfold maxI
        by_cases e : inn (chn g p) g p q < chn g p q + 1
        · rw [if_pos e, if_pos ⟨by omega, e⟩]
        · rw [if_neg e, if_neg fun d => e d.2]
theorem s_longM (hP : Clo P) {Q : Qp_} {M : Mm_} {n : Nat} {g : Int → Int} {x3 x4 : Int} (hn : n ≤ 60) (h3 : 0 ≤ x3 ∧ x3 ≤ 2) (h4 : (n : Int) ≤ x4 ∧ x4 ≤ 60) (hz : ∀ z : Nat, z < n → M 139 z = g z) (k : ∀ M', Fr 140 140 M M' → Q (some (0, if x3 = 0 then (n : Int) else if x3 = 1 then n - lgs g n else x4 - n)) WF M') : P 209 82 [some (2, 112), none, none, some (0, x3), some (0, x4), none, none, none, some (0, (n : Int)), some (0, 0), some (0, 0), none] [] WF M (0, 0) Q := by
  refine lpN (n := n) (f := fun p : Nat => ∀ M', Fr 140 140 M M' → (∀ z : Nat, z < p → M' 140 z = chn g p z) → P 209 82 [some (2, 112), none, none, some (0, x3), some (0, x4), none, none, none, some (0, (n : Int)), some (0, lgs g p), some (0, (p : Int)), none] [] WF M' (0, 0) Q) ?_ ?_ 0 (Nat.zero_le _) M (Fr.refl _ _ _) (fun z hz => by omega)
  · intro M' F' h
    have lb := lgs_bd g n
    have k' := k M' F'
    refine t_Mo_moved_82 hP (fun _ q1 q2 => ?_) (fun _ q1 q2 => ?_) (fun _ q => ?_) (fun q => by omega)
    · rw [if_neg q1, if_neg q2] at k'
      exact k'
    · rw [if_neg q1, if_pos q2] at k'
      exact k'
    · rw [if_pos q] at k'
      exact k'
  · intro p hp ih M' F' h
    have lb := lgs_bd g p
    refine t_Mo_moved_82 hP (fun q => by omega) (fun q => by omega) (fun q => by omega) (fun _ => ?_)
    refine lpN (n := p) (f := fun q : Nat => ∀ M2, Fr 140 140 M M2 → (∀ z : Nat, z < p → M2 140 z = chn g p z) → M2 140 p = inn (chn g p) g p q → P 209 92 [some (2, 112), none, none, some (0, x3), some (0, x4), none, none, none, some (0, (n : Int)), some (0, lgs g p), some (0, (p : Int)), some (0, (q : Int))] [] WF M2 (0, 0) Q) ?_ ?_ 0 (Nat.zero_le _) _ F'.u (fun z hz => by rw [upd_i (by omega)]; exact h z hz) (upd_s _ _ _ _)
    · intro M2 F2 h2 hi
      have ih := ih M2 F2 (fun z hz => by
        show _ = if (z : Int) = p then _ else _
        by_cases e : (z : Int) = p
        · rw [if_pos e, e, hi]
        · rw [if_neg e, h2 z (by omega)])
      have ce : chn g (p + 1) p = M2 140 p := by
        show (if (p : Int) = p then _ else _) = _
        rw [if_pos rfl, hi]
      have le : lgs g (p + 1) = if lgs g p < M2 140 p then M2 140 p else lgs g p := by
        show (if _ then _ else _) = _
        rw [ce]
      refine t_Mo_moved_92 hP (fun _ q => ?_) (fun _ q => ?_) (fun q => by omega) (fun q => by omega) (fun q => by omega)
      · rw [le, if_neg (by omega)] at ih
        exact ih
      · rw [le, if_pos (by omega)] at ih
        exact ih
    · intro q hq iq M2 F2 h2 hi
      have f1 : M2 139 p = g p := by rw [F2 _ (by omega)]; exact hz p (by omega)
      have f2 : M2 139 q = g q := by rw [F2 _ (by omega)]; exact hz q (by omega)
      have c2 := h2 q (by omega)
      have cb := chn_bd g p q (by omega)
      have go : ∀ v, v = inn (chn g p) g p (q + 1) → P 209 92 [some (2, 112), none, none, some (0, x3), some (0, x4), none, none, none, some (0, (n : Int)), some (0, lgs g p), some (0, (p : Int)), some (0, (q : Int) + 1)] [] WF (updM M2 140 p v) (0, 0) Q := fun v hv => iq _ F2.u (fun z hz => by rw [upd_i (by omega)]; exact h2 z hz) (by rw [upd_s]; exact hv)
      refine t_Mo_moved_92 hP (fun q => by omega) (fun q => by omega) (fun _ q1 => go _ ?_) (fun _ q1 q2 => go _ ?_) (fun _ q1 q2 => go _ ?_)
      · show _ = if _ then _ else _
        rw [if_neg (by omega)]
        exact hi
      · show _ = if _ then _ else _
        rw [if_neg (by omega)]
        exact hi
      · show _ = if _ then _ else _
        rw [if_pos (by omega), c2]
theorem shrL_n {a k : Nat} (ha : a < 9223372036854775808) (hk : k < 64) : shrL a k = ((a / 2 ^ k : Nat) : Int) := by
  unfold shrL
  rw [z_L, z_I, z_ll k hk, ← Int64.toInt_toBitVec, Int64.toBitVec_shiftRight, z_bL, z_bL, z_sm k hk, BitVec.sshiftRight_eq', BitVec.toInt_sshiftRight, BitVec.toNat_ofNat, Nat.mod_eq_of_lt (by omega)]
  have e : (BitVec.ofNat 64 a).toInt = (a : Int) := z_tL ha
  rw [e, Int.shiftRight_eq_div_pow]
  rfl
theorem tbLs {a k : Nat} (ha : a < 9223372036854775808) (hk : k < 64) : andL (shrL a k) 1 = if a.testBit k then 1 else 0 := by
  rw [shrL_n ha hk, ← ushrL_n ha hk]
  exact tbL ha hk
theorem s_areSame (hP : Clo P) {Q : Qp_} {M : Mm_} {x y : Int} {s t : Nat} (hS : Sc B M) (hT : WfT B) (hx : 0 ≤ x ∧ x < 10) (hy : 0 ≤ y ∧ y < 10) (hs : s < nSe A B x) (ht : t < nSe A B y) (hn : nSe A B x ≤ 60 ∧ nSe A B y ≤ 60) (h8 : M 137 s = sBg A B x s ∧ M 138 s = sEn A B x s) (h9 : M 137 (60 + (t : Int)) = sBg A B y t ∧ M 138 (60 + (t : Int)) = sEn A B y t) (k1 : SSb A B x y s t = true → Q (some (0, 1)) WF M) (k0 : SSb A B x y s t = false → Q (some (0, 0)) WF M) : P 208 0 [some (2, 112), some (0, x), some (0, (s : Int)), some (0, y), some (0, 60 + (t : Int)), none] [] WF M (0, 0) Q := by
  have Xb := (hT.2.1 x hx).1
  have Yb := (hT.2.1 y hy).1
  have so := sEn_ok hs
  have to := sEn_ok ht
  have ff : ¬ (sEn A B x s - sBg A B x s = sEn A B y t - sBg A B y t ∧ ∀ q, 0 ≤ q ∧ q ≤ sEn A B x s - sBg A B x s → B 116 (60 * x + (sBg A B x s + q)) = B 116 (60 * y + (sBg A B y t + q))) → SSb A B x y s t = false := fun g => by
    rw [Bool.eq_false_iff]
    exact fun h => g (SSb_iff.mp h)
  refine t_Mo_areSame_0 hP (fun q => k0 (ff fun g => ?_)) (fun q => ?_)
  · have := g.1
    omega
  · rw [h8.1, h8.2, h9.1]
    refine s_isSameRow hP hS hT hx hy (by omega) (by omega) (by omega) (fun g => t_Mo_areSame_38 hP (fun q => absurd q (by decide)) (fun _ => k1 (SSb_iff.mpr ⟨by omega, fun q hq => g q (by omega)⟩))) (fun g => t_Mo_areSame_38 hP (fun _ => k0 (ff fun h => g fun q hq => h.2 q (by omega))) (fun q => absurd rfl q))
theorem s_movM (hP : Clo P) {Q : Qp_} {M : Mm_} {x y k' : Int} (hI : IV L xs A B M) (hx : 0 ≤ x ∧ x < B 112 0) (hy : 0 ≤ y ∧ y < B 112 0) (hk : 0 ≤ k' ∧ k' ≤ 2) (k : ∀ M', Fr 137 140 M M' → Q (some (0, if k' = 0 then ((PA A B x y (nSe A B x)).2.1 : Int) else if k' = 1 then ((PA A B x y (nSe A B x)).2.1 : Int) - lgs (PA A B x y (nSe A B x)).2.2 (PA A B x y (nSe A B x)).2.1 else (nSe A B x : Int) - ((PA A B x y (nSe A B x)).2.1 : Int))) WF M') : P 209 0 [some (2, 112), some (0, x), some (0, y), some (0, k'), none, none, none, none, none, none, none, none] [] WF M (0, 0) Q := by
  obtain ⟨u0, u1, u2⟩ := rdT hI.1 hI.2.1.2.1
  have hT := hI.2.1.2.1
  have hx' : 0 ≤ x ∧ x < 10 := by omega
  have hy' : 0 ≤ y ∧ y < 10 := by omega
  have nx := nSe_bd (A := A) hT hx'
  have ny := nSe_bd (A := A) hT hy'
  refine t_Mo_moved_0 hP (fun q => by omega) (fun _ q => by omega) (fun _ _ q => by omega) (fun _ _ _ q => by omega) (fun _ _ _ _ q => by omega) (fun _ _ _ _ _ q => by omega) (fun _ _ _ _ _ _ => ?_)
  refine s_findS hP hI hx (Or.inl rfl) fun M1 F1 _ e1 => t_Mo_moved_22 hP ?_
  have I1 : IV L xs A B M1 := hI.fr F1
  refine s_findS hP I1 hy (Or.inr rfl) fun M2 F2 g2 e2 => t_Mo_moved_27 hP ?_
  have F12 : Fr 137 140 M M2 := (F1.trans F2).mono
  have e1' : ∀ s : Nat, s < nSe A B x → M2 137 s = sBg A B x s ∧ M2 138 s = sEn A B x s := fun s hs => by
    have := g2 s (by omega)
    rw [this.1, this.2, show (s : Int) = 0 + s by omega]
    have := e1 s hs
    rw [show (0 : Int) + s = s by omega] at this ⊢
    exact this
  refine lpN (n := nSe A B x) (f := fun s : Nat => ∀ M', Fr 139 140 M2 M' → (∀ z : Nat, z < (PA A B x y s).2.1 → M' 139 z = (PA A B x y s).2.2 z) → P 209 34 [some (2, 112), some (0, x), some (0, y), some (0, k'), some (0, (nSe A B x : Int)), some (0, (nSe A B y : Int)), some (1, (mset (PA A B x y s).1 60 : Int)), none, some (0, ((PA A B x y s).2.1 : Int)), some (0, (s : Int)), none, none] [] WF M' (0, 0) Q) ?_ ?_ 0 (Nat.zero_le _) M2 (Fr.refl _ _ _) (fun z hz => by have : (PA A B x y 0).2.1 = 0 := rfl; omega)
  · intro M' F' hz
    have pk := PA_k A B x y (nSe A B x)
    exact t_Mo_moved_34 hP (fun _ => s_longM hP (by omega) hk (by omega) hz fun M3 F3 => k M3 (F12.trans (F'.mono.trans F3.mono))) (fun q => by omega)
  · intro s hs ih M' F' hz
    refine t_Mo_moved_34 hP (fun q => by omega) (fun _ => ?_)
    have pk := PA_k A B x y s
    have mb : mset (PA A B x y s).1 60 < 9223372036854775808 := mset_le _ (n := 63) (by omega)
    refine lpN (n := nSe A B y) (f := fun t : Nat => (∀ j : Nat, j < t → (!(PA A B x y s).1 j && SSb A B x y s j) = false) → P 209 39 [some (2, 112), some (0, x), some (0, y), some (0, k'), some (0, (nSe A B x : Int)), some (0, (nSe A B y : Int)), some (1, (mset (PA A B x y s).1 60 : Int)), none, some (0, ((PA A B x y s).2.1 : Int)), some (0, (s : Int)), some (0, (t : Int)), none] [] WF M' (0, 0) Q) ?_ ?_ 0 (Nat.zero_le _) (fun j hj => by omega)
    · intro h
      refine t_Mo_moved_39 hP (fun _ => ?_) (fun q => by omega) (fun q => by omega)
      have ih := ih M' F'
      rw [PA_n (show prt A B x y s = -1 from fstB_none h)] at ih
      exact ih hz
    · intro t ht iht h
      refine t_Mo_moved_39 hP (fun q => by omega) (fun _ q => ?_) (fun _ q => ?_)
      · refine iht fun j hj => ?_
        by_cases e : j = t
        · subst e
          rw [tbLs mb (by omega), mset_tb, decide_eq_true (show j < 60 by omega), Bool.true_and] at q
          cases g : (PA A B x y s).1 j with
          | true => rfl
          | false => rw [g] at q; exact absurd q (by decide)
        · exact h j (by omega)
      · have g : (PA A B x y s).1 t = false := by
          rw [tbLs mb (by omega), mset_tb, decide_eq_true (show t < 60 by omega), Bool.true_and] at q
          cases g : (PA A B x y s).1 t with
          | false => rfl
          | true => rw [g] at q; exact absurd rfl q
        have J : Fr 139 140 M2 M' := F'
        refine s_areSame hP (hI.fr (F12.trans F'.mono)).1 hT hx' hy' hs ht ⟨nx, ny⟩ (by rw [F' 137 (by omega), F' 138 (by omega)]; exact e1' s hs) (by rw [F' 137 (by omega), F' 138 (by omega)]; exact e2 t ht) (fun c => t_Mo_moved_58 hP (fun _ q => by omega) (fun _ _ => ?_) (fun q => absurd q (by decide))) (fun c => t_Mo_moved_58 hP (fun q => absurd rfl q) (fun q => absurd rfl q) (fun _ => iht fun j hj => ?_))
        · have pe : prt A B x y s = t := fstB_eq (by omega) (by rw [g, c]; rfl) fun j j0 j1 => by
            obtain ⟨j, rfl⟩ := Int.eq_ofNat_of_zero_le j0
            exact h j (by omega)
          have ih := ih (updM M' 139 ((PA A B x y s).2.1 : Int) t) F'.u
          rw [PA_s (by omega), pe] at ih
          rw [sbL mb (by omega), mset_ins (p' := fun z => (PA A B x y s).1 z || decide (z = (t : Int))) (by omega) fun k => by
              show (_ || decide ((k : Int) = t)) = _
              congr 1
              exact decide_eq_decide.mpr (by omega)]
          refine ih ?_
          intro z hz2
          have hz2 : z < (PA A B x y s).2.1 + 1 := hz2
          show _ = if (z : Int) = (PA A B x y s).2.1 then _ else _
          by_cases e : (z : Int) = (PA A B x y s).2.1
          · rw [if_pos e, e, upd_s]
          · rw [if_neg e, upd_i e]
            exact hz z (by omega)
        · by_cases e : j = t
          · subst e
            rw [c, Bool.and_false]
          · exact h j (by omega)
theorem tw_moved (hP : Clo P) {x y k' : Int} : Two P L xs 206 [some (2, 0), some (0, x), some (0, y), some (0, k')] 209 [some (2, 112), some (0, x), some (0, y), some (0, k'), none, none, none, none, none, none, none, none] := by
  rintro M ⟨A, B, hI⟩
  have hI0 : INV L xs M := ⟨A, B, hI⟩
  obtain ⟨u0, u1, u2⟩ := rdT hI.1 hI.2.1.2.1
  have hT := hI.2.1.2.1
  by_cases h1 : (0 ≤ x ∧ x < B 112 0) ∧ (0 ≤ y ∧ y < B 112 0)
  · by_cases h2 : 0 ≤ k' ∧ k' ≤ 2
    · have nx := nSe_bd (A := A) hT (x := x) (by omega)
      have pk := PA_k A B x y (nSe A B x)
      have lb := lgs_bd (PA A B x y (nSe A B x)).2.2 (PA A B x y (nSe A B x)).2.1
      refine ⟨fun r M1 => r = (if k' = 0 then ((PA A B x y (nSe A B x)).2.1 : Int) else if k' = 1 then ((PA A B x y (nSe A B x)).2.1 : Int) - lgs (PA A B x y (nSe A B x)).2.2 (PA A B x y (nSe A B x)).2.1 else (nSe A B x : Int) - ((PA A B x y (nSe A B x)).2.1 : Int)) ∧ Fr 107 111 M M1, fun Q k => ?_, fun r M1 hR => ?_⟩
      · refine t_BW_moved_0 hP ?_ ?_ ?_ ?_ ?_ ?_ ?_ <;> intros <;> first | (exfalso; omega) | skip
        refine s_pair hP hI h1.1 h1.2 fun M1 F1 e4 e5 ez => t_BW_moved_32 hP (fun q1 q2 => k _ _ ⟨?_, F1⟩) (fun q1 q2 => ?_) (fun q => k _ _ ⟨?_, F1⟩)
        · rw [if_neg q1, if_neg q2, e4, e5]
        · refine s_longC hP (by omega) e5 ez fun M2 F2 => t_BW_moved_47 hP (k _ _ ⟨?_, F1.trans F2.mono⟩)
          rw [if_neg q1, if_pos q2, e5]
        · rw [if_pos q, e5]
      · obtain ⟨rfl, F1⟩ := hR
        have I1 : IV L xs A B M1 := hI.fr F1
        exact ⟨I1.ro, fun Q k => s_movM hP I1 h1.1 h1.2 h2 fun M2 F2 => k M2 ⟨A, B, I1.fr F2⟩⟩
    · refine ⟨fun r M1 => r = -1002 ∧ M1 = M, fun Q k => ?_, fun r M1 hR => ?_⟩
      · refine t_BW_moved_0 hP ?_ ?_ ?_ ?_ ?_ ?_ ?_ <;> intros <;> first | (exfalso; omega) | exact k _ _ ⟨rfl, rfl⟩ | (refine t_BW_moved_17 hP ?_; exact k _ _ ⟨rfl, rfl⟩)
      · obtain ⟨rfl, rfl⟩ := hR
        refine ⟨hI0.ro, fun Q k => ?_⟩
        refine t_Mo_moved_0 hP ?_ ?_ ?_ ?_ ?_ ?_ ?_ <;> intros <;> first | (exfalso; omega) | exact k _ hI0 | (refine t_Mo_moved_8 hP ?_; exact k _ hI0)
  · refine ⟨fun r M1 => r = -1001 ∧ M1 = M, fun Q k => ?_, fun r M1 hR => ?_⟩
    · refine t_BW_moved_0 hP ?_ ?_ ?_ ?_ ?_ ?_ ?_ <;> intros <;> first | (exfalso; omega) | exact k _ _ ⟨rfl, rfl⟩ | (refine t_BW_moved_10 hP ?_; exact k _ _ ⟨rfl, rfl⟩)
    · obtain ⟨rfl, rfl⟩ := hR
      refine ⟨hI0.ro, fun Q k => ?_⟩
      refine t_Mo_moved_0 hP ?_ ?_ ?_ ?_ ?_ ?_ ?_ <;> intros <;> first | (exfalso; omega) | exact k _ hI0 | (refine t_Mo_moved_8 hP ?_; exact k _ hI0)
end MW
