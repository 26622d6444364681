/-! the class's reader, a clause -/
theorem nv_bd {b : Int → Int} {q : Int} : ∀ {m : Nat}, (∀ z, q ≤ z → z < q + m → 48 ≤ b z ∧ b z ≤ 57) → 0 ≤ nv b q m ∧ nv b q m + 1 ≤ (10 ^ m : Nat)
  | 0, _ => ⟨Int.le_refl _, Int.le_refl _⟩
  | m + 1, h => by
    have a := nv_bd (m := m) fun z h1 h2 => h z h1 (by omega)
    have c := h (q + m) (by omega) (by omega)
    have e : nv b q (m + 1) = nv b q m * 10 + b (q + m) - 48 := rfl
    have e2 : (10 ^ (m + 1) : Nat) = 10 ^ m * 10 := Nat.pow_succ ..
    omega
theorem nv_999 {b : Int → Int} {q : Int} {m : Nat} (hm : m ≤ 3) (h : ∀ z, q ≤ z → z < q + m → 48 ≤ b z ∧ b z ≤ 57) : 0 ≤ nv b q m ∧ nv b q m ≤ 999 := by
  have a := nv_bd h
  have : (10 ^ m : Nat) ≤ 10 ^ 3 := Nat.pow_le_pow_right (by decide) hm
  have e : (10 ^ 3 : Nat) = 1000 := by decide
  omega
def st2 (kd v st : Int) : Int := if kd = 7 then orI st (shlI 1 v) else st
def tl2 (kd v : Int) (tl : Int → Int) : Int → Int := if kd = 7 then tl else fun j => if j = kd then v else tl j
section RD2
variable {P : Jg_} {L : Nat} {xs : Nat → Int32} {M0 : Mm_} {n w st : Int} {tl : Int → Int}
theorem s_numC (hP : Clo P) {Q : Qp_} {M : Mm_} {q : Int} (hn : n ≤ 120) (hq : 0 ≤ q ∧ q ≤ n) (h : CS M0 n q 0 w st tl M) (k1 : av (isD (M0 33)) n q = q → ∀ v M', CS M0 n q 1 q st tl M' → Q (some (0, v)) WF M') (k2 : ¬ av (isD (M0 33)) n q = q → 3 < av (isD (M0 33)) n q - q → ∀ v M', CS M0 n (av (isD (M0 33)) n q) 2 q st tl M' → Q (some (0, v)) WF M') (k3 : ¬ av (isD (M0 33)) n q = q → ¬ 3 < av (isD (M0 33)) n q - q → ∀ M', CS M0 n (av (isD (M0 33)) n q) 0 w st tl M' → Q (some (0, nv (M0 33) q (av (isD (M0 33)) n q - q).toNat)) WF M') : P 86 0 [some (2, 32), none, none] [] WF M (0, 0) Q := by
  have main : ∀ (d : Nat) (z : Int) (M : Mm_), (n - z).toNat = d → q ≤ z ∧ z ≤ n → (∀ y, q ≤ y → y < z → 48 ≤ M0 33 y ∧ M0 33 y ≤ 57) → av (isD (M0 33)) n z = av (isD (M0 33)) n q → CS M0 n z 0 w st tl M → P 86 5 [some (2, 32), some (0, q), some (0, nv (M0 33) q (if z - q ≤ 3 then (z - q).toNat else 3))] [] WF M (0, 0) Q := by
    intro d
    induction d with
    | zero =>
      intro z M hd hz dg ea h
      obtain ⟨g1, g2, g3, -⟩ := id h
      have e : av (isD (M0 33)) n q = z := by rw [← ea, av_ge (by omega)]
      refine t_RuleReader_readNumber_5 hP (fun _ q1 q2 => ?_) (fun _ q1 q2 => ?_) (fun _ q1 => ?_) (fun q => by omega) (fun q => by omega) (fun q => by omega) (fun q => by omega) (fun q => by omega) (fun q => by omega) (fun q => by omega) (fun q => by omega)
      · rw [if_pos (by omega)]
        rw [e] at k3
        exact k3 (by omega) (by omega) M h
      · rw [e] at k2
        exact k2 (by omega) (by omega) _ _ (h.fw 2 q)
      · rw [e] at k1
        have : z = q := by omega
        rw [this] at h
        exact k1 (by omega) _ _ (h.fw 1 q)
    | succ d ih =>
      intro z M hd hz dg ea h
      obtain ⟨g1, g2, g3, -⟩ := id h
      have b1 : M 33 = M0 33 := g1 33 (by decide) (by decide)
      have ex : isD (M0 33) z = false → av (isD (M0 33)) n q = z := fun c => by rw [← ea, av_n c]
      have A : isD (M0 33) z = false → ¬ z = q → z - q ≤ 3 → Q (some (0, nv (M0 33) q (if z - q ≤ 3 then (z - q).toNat else 3))) WF M := fun c c1 c2 => by
        rw [if_pos c2]
        have e := ex c
        rw [e] at k3
        exact k3 c1 (by omega) M h
      have B2 : isD (M0 33) z = false → ¬ z = q → ¬ z - q ≤ 3 → Q (some (0, nv (M0 33) q (if z - q ≤ 3 then (z - q).toNat else 3))) WF (updM (updM M 32 5 2) 32 6 q) := fun c c1 c2 => by
        have e := ex c
        rw [e] at k2
        exact k2 c1 (by omega) _ _ (h.fw 2 q)
      have C1 : isD (M0 33) z = false → z = q → Q (some (0, nv (M0 33) q (if z - q ≤ 3 then (z - q).toNat else 3))) WF (updM (updM M 32 5 1) 32 6 q) := fun c c1 => by
        have e := ex c
        rw [e] at k1
        have h' := h
        rw [c1] at h'
        exact k1 c1 _ _ (h'.fw 1 q)
      have nb := nv_999 (b := M0 33) (q := q) (m := if z - q ≤ 3 then (z - q).toNat else 3) (by split <;> omega) fun y y1 y2 => dg y y1 (by split at y2 <;> omega)
      have lo : M 33 (M 32 4) < 48 → isD (M0 33) z = false := fun c => by
        rw [g3, b1] at c
        exact decide_eq_false (by omega)
      have hi : 57 < M 33 (M 32 4) → isD (M0 33) z = false := fun c => by
        rw [g3, b1] at c
        exact decide_eq_false (by omega)
      have yes : ¬ M 33 (M 32 4) < 48 → ¬ 57 < M 33 (M 32 4) → ∀ v, v = nv (M0 33) q (if z + 1 - q ≤ 3 then (z + 1 - q).toNat else 3) → P 86 5 [some (2, 32), some (0, q), some (0, v)] [] WF (updM M 32 4 (M 32 4 + 1)) (0, 0) Q := fun c1 c2 v hv => by
        rw [g3, b1] at c1 c2
        rw [hv, g3]
        refine ih (z + 1) _ (by omega) (by omega) (fun y y1 y2 => ?_) ?_ (h.pl _)
        · by_cases e : y = z
          · rw [e]
            omega
          · exact dg y y1 (by omega)
        · rw [← ea]
          exact (av_y (by omega) (decide_eq_true (by omega))).symm
      refine t_RuleReader_readNumber_5 hP (fun q => by omega) (fun q => by omega) (fun q => by omega) (fun _ c q1 q2 => A (lo c) (by omega) (by omega)) (fun _ c q1 q2 => B2 (lo c) (by omega) (by omega)) (fun _ c q1 => C1 (lo c) (by omega)) (fun _ _ c q1 q2 => A (hi c) (by omega) (by omega)) (fun _ _ c q1 q2 => B2 (hi c) (by omega) (by omega)) (fun _ _ c q1 => C1 (hi c) (by omega)) (fun _ c1 c2 q1 => yes c1 c2 _ ?_) (fun _ c1 c2 q1 => yes c1 c2 _ ?_)
      · rw [if_neg (show ¬ z + 1 - q ≤ 3 by omega)]
        by_cases e : z - q ≤ 3
        · rw [if_pos e, show (z - q).toNat = 3 by omega]
        · rw [if_neg e]
      · rw [if_pos (show z - q ≤ 3 by omega), if_pos (show z + 1 - q ≤ 3 by omega), g3, b1, show (z + 1 - q).toNat = (z - q).toNat + 1 by omega]
        show _ = nv (M0 33) q (z - q).toNat * 10 + M0 33 (q + ((z - q).toNat : Int)) - 48
        rw [show q + ((z - q).toNat : Int) = z by omega]
  obtain ⟨g1, g2, g3, -⟩ := id h
  refine t_RuleReader_readNumber_0 hP ?_
  rw [g3]
  have := main _ q M rfl (by omega) (fun y y1 y2 => by omega) rfl h
  rw [if_pos (by omega), show (q - q).toNat = 0 by omega] at this
  exact this
theorem s_argC (hP : Clo P) {Q : Qp_} {M : Mm_} {q kd R : Int} (hn : n ≤ 120) (hro : ∀ a, a < 0 → M0 a = RMx L xs a) (hq : 0 ≤ q ∧ q ≤ n) (hk : 0 ≤ kd ∧ kd ≤ 7) (h : CS M0 n q 0 w st tl M) (k1 : (ARG (M0 33) n R kd q).1 = 0 → ∀ M', CS M0 n (ARG (M0 33) n R kd q).2.2 0 w (st2 kd (ARG (M0 33) n R kd q).2.1 st) (tl2 kd (ARG (M0 33) n R kd q).2.1 tl) M' → P 90 53 [some (2, 32), none, none, none, none] [] WF M' (0, 0) Q) (k0 : ¬ (ARG (M0 33) n R kd q).1 = 0 → ∀ M' p', 0 ≤ p' ∧ p' ≤ n → CS M0 n p' (ARG (M0 33) n R kd q).1 q st tl M' → P 90 53 [some (2, 32), none, none, none, none] [] WF M' (0, 0) Q) : P 90 33 [some (2, 32), none, some (0, R), none, some (0, kd)] [] WF M (0, 0) Q := by
  obtain ⟨g1, g2, g3, -⟩ := id h
  have one : (1 : Int) = 0 → False := by decide
  have aD := av_bd (isD (M0 33)) hq.2
  have aL := av_bd (isL (M0 33)) hq.2
  have yes : kd = 2 ∨ kd = 3 → P 88 0 [some (2, 32), some (0, kd), none, none] [] WF M (0, 0) (fun v w' M' => P 90 49 [some (2, 32), none, none, none, none] (v.toList ++ []) w' M' (0, 0) Q) := fun c => by
    have e : ARG (M0 33) n R kd q = YES (M0 33) n q := if_pos c
    rw [e] at k1 k0
    refine t_RuleReader_readYes_0 hP ?_
    rw [g3]
    refine s_eowC hP hn h hq.1 (t_RuleReader_readYes_6 hP ?_)
    refine s_spC hP hn hro h (i := 8) (by decide) (by omega) _ (by decide) (fun g => t_RuleReader_readYes_12 hP (fun q => absurd q one) (fun _ => t_RuleReader_readClause_49 hP ?_)) (fun g => t_RuleReader_readYes_12 hP (fun _ => ?_) (fun q => absurd rfl q))
    · have e2 : YES (M0 33) n q = (0, 1, av (isL (M0 33)) n q) := if_pos g
      rw [e2] at k1
      refine k1 rfl _ ?_
      have := (h.td kd 1).pl (av (isL (M0 33)) n q)
      unfold st2 tl2
      rw [if_neg (by omega), if_neg (by omega)]
      exact this
    · refine s_spC hP hn hro h (i := 9) (by decide) (by omega) _ (by decide) (fun g2 => t_RuleReader_readYes_24 hP (fun q => absurd q one) (fun _ => t_RuleReader_readClause_49 hP ?_)) (fun g2 => t_RuleReader_readYes_24 hP (fun _ => t_RuleReader_readClause_49 hP ?_) (fun q => absurd rfl q))
      · have e2 : YES (M0 33) n q = (0, 0, av (isL (M0 33)) n q) := (if_neg (by rw [g]; decide)).trans (if_pos g2)
        rw [e2] at k1
        refine k1 rfl _ ?_
        have := (h.td kd 0).pl (av (isL (M0 33)) n q)
        unfold st2 tl2
        rw [if_neg (by omega), if_neg (by omega)]
        exact this
      · have e2 : YES (M0 33) n q = (1, 0, av (isL (M0 33)) n q) := (if_neg (by rw [g]; decide)).trans (if_neg (by rw [g2]; decide))
        rw [e2] at k0
        exact k0 one _ (av (isL (M0 33)) n q) (by omega) ((h.fw 1 q).pl _)
  refine t_RuleReader_readClause_33 hP (fun _ c => yes (by omega)) (fun c1 c2 c3 => ?_) (fun _ _ c => yes (by omega)) (fun c => ?_)
  · have e : ARG (M0 33) n R kd q = NUM (M0 33) n q (lowK kd) (higK kd) 2 := (if_neg (by omega)).trans (if_neg c1)
    rw [e] at k1 k0
    refine t_RuleReader_readSetting_0 hP ?_
    rw [g3]
    refine s_numC hP hn hq h (fun c v M' h' => ?_) (fun c d v M' h' => ?_) (fun c d M' h' => ?_)
    · obtain ⟨x1, x2, x3, x4, -⟩ := id h'
      have e2 : NUM (M0 33) n q (lowK kd) (higK kd) 2 = (1, 0, q) := if_pos c
      rw [e2] at k0
      exact t_RuleReader_readSetting_5 hP (fun q => by omega) (fun q => by omega) (fun q => by omega) (fun _ => k0 one M' q hq h')
    · obtain ⟨x1, x2, x3, x4, -⟩ := id h'
      have e2 : NUM (M0 33) n q (lowK kd) (higK kd) 2 = (2, 0, av (isD (M0 33)) n q) := (if_neg c).trans (if_pos d)
      rw [e2] at k0
      exact t_RuleReader_readSetting_5 hP (fun q => by omega) (fun q => by omega) (fun q => by omega) (fun _ => k0 (by show ¬ (2 : Int) = 0; decide) M' (av (isD (M0 33)) n q) (by omega) h')
    · obtain ⟨x1, x2, x3, x4, -⟩ := id h'
      have l1 : M' (-4) kd = lowK kd ∧ M' (-4) (-1) = 7 := by
        rw [x1 (-4) (by decide) (by decide), hro (-4) (by decide)]
        have : kd = 0 ∨ kd = 1 ∨ kd = 2 ∨ kd = 3 ∨ kd = 4 ∨ kd = 5 ∨ kd = 6 := by omega
        rcases this with rfl | rfl | rfl | rfl | rfl | rfl | rfl <;> exact ⟨rfl, rfl⟩
      have l2 : M' (-5) kd = higK kd ∧ M' (-5) (-1) = 7 := by
        rw [x1 (-5) (by decide) (by decide), hro (-5) (by decide)]
        have : kd = 0 ∨ kd = 1 ∨ kd = 2 ∨ kd = 3 ∨ kd = 4 ∨ kd = 5 ∨ kd = 6 := by omega
        rcases this with rfl | rfl | rfl | rfl | rfl | rfl | rfl <;> exact ⟨rfl, rfl⟩
      have bad : (nv (M0 33) q (av (isD (M0 33)) n q - q).toNat < lowK kd ∨ higK kd < nv (M0 33) q (av (isD (M0 33)) n q - q).toNat) → P 90 53 [some (2, 32), none, none, none, none] [] WF (updM (updM M' 32 5 2) 32 6 q) (0, 0) Q := fun b => by
        have e2 : NUM (M0 33) n q (lowK kd) (higK kd) 2 = (2, 0, av (isD (M0 33)) n q) := (if_neg c).trans ((if_neg d).trans (if_pos b))
        rw [e2] at k0
        exact k0 (by show ¬ (2 : Int) = 0; decide) _ (av (isD (M0 33)) n q) (by omega) (h'.fw 2 q)
      refine t_RuleReader_readSetting_5 hP (fun _ y => bad (by omega)) (fun _ y1 y2 => ?_) (fun _ y1 y2 => bad (by omega)) (fun q => by omega)
      have e2 : NUM (M0 33) n q (lowK kd) (higK kd) 2 = (0, nv (M0 33) q (av (isD (M0 33)) n q - q).toNat, av (isD (M0 33)) n q) := (if_neg c).trans ((if_neg d).trans (if_neg (by omega)))
      rw [e2] at k1
      refine k1 rfl _ ?_
      unfold st2 tl2
      rw [if_neg c1, if_neg c1]
      exact h'.td _ _
  · have e : ARG (M0 33) n R kd q = NUM (M0 33) n q 0 (R - 1) 3 := (if_neg (by omega)).trans (if_pos c)
    rw [e] at k1 k0
    refine t_RuleReader_readStrike_0 hP ?_
    rw [g3]
    refine s_numC hP hn hq h (fun c v M' h' => ?_) (fun c d v M' h' => ?_) (fun c d M' h' => ?_)
    · obtain ⟨x1, x2, x3, x4, -⟩ := id h'
      have e2 : NUM (M0 33) n q 0 (R - 1) 3 = (1, 0, q) := if_pos c
      rw [e2] at k0
      exact t_RuleReader_readStrike_5 hP (fun q => by omega) (fun q => by omega) (fun _ => t_RuleReader_readClause_39 hP (k0 one M' q hq h'))
    · obtain ⟨x1, x2, x3, x4, -⟩ := id h'
      have e2 : NUM (M0 33) n q 0 (R - 1) 3 = (2, 0, av (isD (M0 33)) n q) := (if_neg c).trans (if_pos d)
      rw [e2] at k0
      exact t_RuleReader_readStrike_5 hP (fun q => by omega) (fun q => by omega) (fun _ => t_RuleReader_readClause_39 hP (k0 (by show ¬ (2 : Int) = 0; decide) M' (av (isD (M0 33)) n q) (by omega) h'))
    · obtain ⟨x1, x2, x3, x4, x5, x6, -⟩ := id h'
      have nb := nv_999 (b := M0 33) (q := q) (m := (av (isD (M0 33)) n q - q).toNat) (by omega) fun y y1 y2 => of_decide_eq_true (aD.2.2.1 y y1 (by omega))
      refine t_RuleReader_readStrike_5 hP (fun _ y => t_RuleReader_readClause_39 hP ?_) (fun _ y => t_RuleReader_readClause_39 hP ?_) (fun q => by omega)
      · have e2 : NUM (M0 33) n q 0 (R - 1) 3 = (0, nv (M0 33) q (av (isD (M0 33)) n q - q).toNat, av (isD (M0 33)) n q) := (if_neg c).trans ((if_neg d).trans (if_neg (by omega)))
        rw [e2] at k1
        refine k1 rfl _ ?_
        unfold st2 tl2
        rw [if_pos (by assumption), if_pos (by assumption), x6]
        exact h'.sk _
      · have e2 : NUM (M0 33) n q 0 (R - 1) 3 = (3, 0, av (isD (M0 33)) n q) := (if_neg c).trans ((if_neg d).trans (if_pos (by omega)))
        rw [e2] at k0
        exact k0 (by show ¬ (3 : Int) = 0; decide) _ (av (isD (M0 33)) n q) (by omega) (h'.fw 3 q)
end RD2
