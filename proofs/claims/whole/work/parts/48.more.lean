/-! stop, mark, same, count -/
theorem cntB_or {p q r : Int → Bool} : ∀ {n : Nat}, (∀ k : Nat, k < n → (r k = (p k || q k)) ∧ ¬ (p k = true ∧ q k = true)) → cntB r n = cntB p n + cntB q n
  | 0, _ => rfl
  | n + 1, h => by
    show cntB r n + _ = (cntB p n + _) + (cntB q n + _)
    rw [cntB_or (p := p) (q := q) fun k hk => h k (by omega)]
    obtain ⟨h1, h2⟩ := h n (by omega)
    rw [h1]
    cases hp : p n <;> cases hq : q n <;> simp [hp, hq] at h2 ⊢ <;> omega
def sumI (f : Int → Int) : Nat → Int
  | 0 => 0
  | n + 1 => sumI f n + f n
theorem sumI_bd {f : Int → Int} (n : Nat) (h : ∀ k : Nat, k < n → 0 ≤ f k ∧ f k ≤ 60) : 0 ≤ sumI f n ∧ sumI f n ≤ 60 * n := by
  induction n with
  | zero => exact ⟨Int.le_refl _, Int.le_refl _⟩
  | succ n ih =>
    have a := ih fun k hk => h k (by omega)
    have b := h n (by omega)
    have e : sumI f (n + 1) = sumI f n + f n := rfl
    omega
section MK2
variable {P : Jg_} {L : Nat} {xs : Nat → Int32}
theorem tw_mark (hP : Clo P) {x i j y : Int} : Two P L xs 61 [some (2, 0), some (0, x), some (0, i), some (0, j), some (0, y)] 62 [some (2, 112), some (0, x), some (0, i), some (0, j), some (0, y)] := by
  intro M hI
  have hI0 := hI
  obtain ⟨A, B, hS, hW, hC, hSn, hN⟩ := hI
  obtain ⟨t0, t1, t2⟩ := rdT hS hW.2.1
  have hm3 := hN.2.2.1
  have m0 : M 27 5 = A 112 9 := (congrFun (hSn.r 27) 5).trans hm3.2.2
  have m1 : M 112 9 = A 112 9 := hSn 112 9 (by unfold Pn; omega)
  by_cases h1 : (0 ≤ x ∧ x < B 112 0) ∧ (y = -1 ∨ 0 ≤ y ∧ y < B 112 0)
  · obtain ⟨x1, x2, x3, x4, -⟩ := rdX hS hW.2.1 (x := x) (by omega)
    have ent : ∀ Q : Qp_, P 61 15 [some (2, 0), some (0, x), some (0, i), some (0, j), some (0, y)] [] WF M (0, 0) Q → P 61 0 [some (2, 0), some (0, x), some (0, i), some (0, j), some (0, y)] [] WF M (0, 0) Q := fun Q k => by
      refine t_BW_mark_0 hP ?_ ?_ ?_ ?_ ?_ ?_ <;> intros <;> first | (exfalso; omega) | exact k
    have ent2 : ∀ (M' : Mm_) (Q : Qp_), M' 112 0 = B 112 0 → P 62 13 [some (2, 112), some (0, x), some (0, i), some (0, j), some (0, y)] [] WF M' (0, 0) Q → P 62 0 [some (2, 112), some (0, x), some (0, i), some (0, j), some (0, y)] [] WF M' (0, 0) Q := fun M' Q e k => by
      refine t_Mo_mark_0 hP ?_ ?_ ?_ ?_ ?_ ?_ <;> intros <;> first | (exfalso; omega) | exact k
    by_cases h2 : (0 ≤ i ∧ i ≤ j ∧ j < B 115 x) ∧ ¬ x = y
    · by_cases h3 : A 112 9 = 30
      · refine ⟨fun r M1 => r = -1004 ∧ M1 = M, fun Q k => ?_, fun r M1 hR => ?_⟩
        · refine ent Q ?_
          refine t_BW_mark_15 hP ?_ ?_ ?_ ?_ ?_ ?_ <;> intros <;> first | (exfalso; omega) | exact k _ _ ⟨rfl, rfl⟩
        · obtain ⟨rfl, rfl⟩ := hR
          refine ⟨hI0.ro, fun Q k => ent2 _ Q t1 ?_⟩
          refine t_Mo_mark_13 hP ?_ ?_ ?_ ?_ ?_ ?_ ?_ <;> intros <;> first | (exfalso; omega) | exact k _ hI0
      · obtain ⟨t, ht⟩ : ∃ t, t = A 112 9 := ⟨_, rfl⟩
        rw [← ht] at m0 m1 h3
        refine ⟨fun r M1 => r = t ∧ M1 = updM (updM (updM (updM (updM M 28 t x) 29 t i) 30 t j) 31 t y) 27 5 (t + 1), fun Q k => ?_, fun r M1 hR => ?_⟩
        · refine ent Q ?_
          refine t_BW_mark_15 hP ?_ ?_ ?_ ?_ ?_ ?_ <;> intros <;> first | (exfalso; omega) | skip
          rw [m0, show t + 1 - 1 = t by omega]
          exact k _ _ ⟨rfl, rfl⟩
        · obtain ⟨rfl, rfl⟩ := hR
          have e1 : (updM (updM (updM (updM (updM M 28 r x) 29 r i) 30 r j) 31 r y) 27 5 (r + 1)) 112 = M 112 := by
            rw [upd_r (by omega), upd_r (by omega), upd_r (by omega), upd_r (by omega), upd_r (by omega)]
          have e2 : (updM (updM (updM (updM (updM M 28 r x) 29 r i) 30 r j) 31 r y) 27 5 (r + 1)) 115 x = B 115 x := by
            rw [upd_c (by omega), upd_c (by omega), upd_c (by omega), upd_c (by omega), upd_c (by omega), x3]
          have e3 : (updM (updM (updM (updM (updM M 28 r x) 29 r i) 30 r j) 31 r y) 27 5 (r + 1)) 112 9 = r := by rw [e1, m1]
          refine ⟨?_, fun Q k => ent2 _ Q (by rw [e1, t1]) ?_⟩
          · rw [upd_r (by omega), upd_r (by omega), upd_r (by omega), upd_r (by omega), upd_r (by omega)]
            exact hI0.ro
          refine t_Mo_mark_13 hP ?_ ?_ ?_ ?_ ?_ ?_ ?_ <;> intros <;> first | (exfalso; omega) | skip
          rw [e3, show r + 1 - 1 = r by omega]
          apply k
          obtain ⟨M2, hM2⟩ : ∃ M2, M2 = updM (updM (updM (updM (updM (updM (updM (updM (updM (updM M 28 r x) 29 r i) 30 r j) 31 r y) 27 5 (r + 1)) 120 r x) 121 r i) 122 r j) 123 r y) 112 9 (r + 1) := ⟨_, rfl⟩
          rw [← hM2]
          have hr : ∀ c q, M2 c q = if c = 112 ∧ q = 9 then r + 1 else if c = 123 ∧ q = r then y else if c = 122 ∧ q = r then j else if c = 121 ∧ q = r then i else if c = 120 ∧ q = r then x else if c = 27 ∧ q = 5 then r + 1 else if c = 31 ∧ q = r then y else if c = 30 ∧ q = r then j else if c = 29 ∧ q = r then i else if c = 28 ∧ q = r then x else M c q := fun c q => by rw [hM2]; rfl
          clear hM2
          have hc : ∀ c, ¬ (c = 112 ∨ 120 ≤ c ∧ c ≤ 123 ∨ 27 ≤ c ∧ c ≤ 31) → M2 c = M c := fun c h => funext fun q => by (rw [hr]; repeat first | rw [if_neg (by omega)] | rw [if_pos (by omega)])
          have hd : ∀ q, ¬ q = 9 → M2 112 q = M 112 q := fun q h => by (rw [hr]; repeat first | rw [if_neg (by omega)] | rw [if_pos (by omega)])
          have e9 : M2 112 9 = r + 1 := by (rw [hr]; repeat first | rw [if_neg (by omega)] | rw [if_pos (by omega)])
          obtain ⟨g1, g2, g3, g4, g5, g6⟩ := hN
          refine ⟨M2, B, fun c q h => ?_, hW, Ca_c (by omega) hC (fun c h => hc c (by omega)) (hd 8 (by decide)) (hc 135 (by omega)), Sn.refl _, ?_, ?_, ?_, ?_, ?_, ?_⟩
          · have : M2 c q = M c q := by
              unfold Pc at h
              (rw [hr]; repeat first | rw [if_neg (by omega)] | rw [if_pos (by omega)])
            rw [this]
            exact hS c q h
          · intro z hz
            have a1 : M2 (3 + 2 * z) 1 = A (3 + 2 * z) 1 := by
              rw [hc (3 + 2 * z) (by omega)]
              exact hSn _ _ (by unfold Pn; omega)
            rw [a1, hc 117 (by omega), hSn.r 117]
            exact g1 z hz
          · rw [hc 117 (by omega), hSn.r 117]
            exact g2
          · have a1 : M2 27 5 = r + 1 := by (rw [hr]; repeat first | rw [if_neg (by omega)] | rw [if_pos (by omega)])
            omega
          · intro m hm
            by_cases e : m = r
            · subst e
              have a1 : M2 28 m = x := by (rw [hr]; repeat first | rw [if_neg (by omega)] | rw [if_pos (by omega)])
              have a2 : M2 29 m = i := by (rw [hr]; repeat first | rw [if_neg (by omega)] | rw [if_pos (by omega)])
              have a3 : M2 30 m = j := by (rw [hr]; repeat first | rw [if_neg (by omega)] | rw [if_pos (by omega)])
              have a4 : M2 31 m = y := by (rw [hr]; repeat first | rw [if_neg (by omega)] | rw [if_pos (by omega)])
              have a5 : M2 120 m = x := by (rw [hr]; repeat first | rw [if_neg (by omega)] | rw [if_pos (by omega)])
              have a6 : M2 121 m = i := by (rw [hr]; repeat first | rw [if_neg (by omega)] | rw [if_pos (by omega)])
              have a7 : M2 122 m = j := by (rw [hr]; repeat first | rw [if_neg (by omega)] | rw [if_pos (by omega)])
              have a8 : M2 123 m = y := by (rw [hr]; repeat first | rw [if_neg (by omega)] | rw [if_pos (by omega)])
              rw [a1, a2, a3, a4, a5, a6, a7, a8]
              omega
            · have a1 : M2 28 m = M 28 m := by (rw [hr]; repeat first | rw [if_neg (by omega)] | rw [if_pos (by omega)])
              have a2 : M2 29 m = M 29 m := by (rw [hr]; repeat first | rw [if_neg (by omega)] | rw [if_pos (by omega)])
              have a3 : M2 30 m = M 30 m := by (rw [hr]; repeat first | rw [if_neg (by omega)] | rw [if_pos (by omega)])
              have a4 : M2 31 m = M 31 m := by (rw [hr]; repeat first | rw [if_neg (by omega)] | rw [if_pos (by omega)])
              have a5 : M2 120 m = M 120 m := by (rw [hr]; repeat first | rw [if_neg (by omega)] | rw [if_pos (by omega)])
              have a6 : M2 121 m = M 121 m := by (rw [hr]; repeat first | rw [if_neg (by omega)] | rw [if_pos (by omega)])
              have a7 : M2 122 m = M 122 m := by (rw [hr]; repeat first | rw [if_neg (by omega)] | rw [if_pos (by omega)])
              have a8 : M2 123 m = M 123 m := by (rw [hr]; repeat first | rw [if_neg (by omega)] | rw [if_pos (by omega)])
              rw [a1, a2, a3, a4, a5, a6, a7, a8, hSn.r 28, hSn.r 29, hSn.r 30, hSn.r 31, hSn.r 120, hSn.r 121, hSn.r 122, hSn.r 123]
              exact g4 m (by omega)
          · rw [hc 32 (by omega), hSn.r 32, hd 23 (by decide), hd 24 (by decide), hSn 112 23 (by unfold Pn; omega), hSn 112 24 (by unfold Pn; omega)]
            exact g5
          · rw [hc 33 (by omega), hSn.r 33, hc 130 (by omega), hSn.r 130, hd 23 (by decide), hSn 112 23 (by unfold Pn; omega)]
            exact g6
    · refine ⟨fun r M1 => r = -1002 ∧ M1 = M, fun Q k => ?_, fun r M1 hR => ?_⟩
      · refine ent Q ?_
        refine t_BW_mark_15 hP ?_ ?_ ?_ ?_ ?_ ?_ <;> intros <;> first | (exfalso; omega) | (refine t_BW_mark_27 hP ?_; exact k _ _ ⟨rfl, rfl⟩)
      · obtain ⟨rfl, rfl⟩ := hR
        refine ⟨hI0.ro, fun Q k => ent2 _ Q t1 ?_⟩
        refine t_Mo_mark_13 hP ?_ ?_ ?_ ?_ ?_ ?_ ?_ <;> intros <;> first | (exfalso; omega) | (refine t_Mo_mark_35 hP ?_; exact k _ hI0)
  · refine ⟨fun r M1 => r = -1001 ∧ M1 = M, fun Q k => ?_, fun r M1 hR => ?_⟩
    · refine t_BW_mark_0 hP ?_ ?_ ?_ ?_ ?_ ?_ <;> intros <;> first | (exfalso; omega) | exact k _ _ ⟨rfl, rfl⟩ | (refine t_BW_mark_13 hP ?_; exact k _ _ ⟨rfl, rfl⟩)
    · obtain ⟨rfl, rfl⟩ := hR
      refine ⟨hI0.ro, fun Q k => ?_⟩
      refine t_Mo_mark_0 hP ?_ ?_ ?_ ?_ ?_ ?_ <;> intros <;> first | (exfalso; omega) | exact k _ hI0 | (refine t_Mo_mark_11 hP ?_; exact k _ hI0)
theorem tw_stop (hP : Clo P) {x : Int} : Two P L xs 31 [some (2, 0), some (0, x), none] 33 [some (2, 112), some (0, x)] := by
  intro M hI
  have hI0 := hI
  obtain ⟨A, B, hS, hW, hC, hSn, hN⟩ := hI
  obtain ⟨t0, t1, t2⟩ := rdT hS hW.2.1
  by_cases h1 : 0 ≤ x ∧ x < B 112 0
  · obtain ⟨x1, x2, x3, x4, -⟩ := rdX hS hW.2.1 (x := x) (by omega)
    have g2 := hN.2.1 (60 * x + (B 115 x - 1))
    have m1 : M 117 = A 117 := hSn.r 117
    have e1 : M (3 + 2 * x) 1 = (mset (fun i => decide (A 117 (60 * x + i) = 1)) (B 115 x).toNat : Int) := (hSn _ _ (by unfold Pn; omega)).trans (hN.1 x (by omega))
    have bt : 0 < B 115 x → andL (ushrL (M (3 + 2 * x) 1) (M (3 + 2 * x) 4 - 1)) 1 = if A 117 (60 * x + (B 115 x - 1)) = 1 then 1 else 0 := fun h => by
      have t := tbL (a := mset (fun i => decide (A 117 (60 * x + i) = 1)) (B 115 x).toNat) (k := (B 115 x - 1).toNat) (mset_le _ (n := 63) (by omega)) (by omega)
      rw [mset_tb, Int.toNat_of_nonneg (by omega)] at t
      rw [e1, x4, t]
      simp only [show (B 115 x - 1).toNat < (B 115 x).toNat by omega, decide_true, Bool.true_and, decide_eq_true_iff]
    have en : 60 * x + M 115 x - 1 = 60 * x + (B 115 x - 1) := by omega
    by_cases h2 : 0 < B 115 x ∧ A 117 (60 * x + (B 115 x - 1)) = 0
    · obtain ⟨n, hn⟩ : ∃ n : Nat, B 115 x = n + 1 := ⟨(B 115 x - 1).toNat, by omega⟩
      have bt0 : andL (ushrL (M (3 + 2 * x) 1) (M (3 + 2 * x) 4 - 1)) 1 = 0 := by rw [bt h2.1, if_neg (by omega)]
      obtain ⟨fl, hfl⟩ : ∃ fl : Int → Bool, fl = fun i : Int => decide ((if i = (n : Int) then 1 else A 117 (60 * x + i)) = 1) := ⟨_, rfl⟩
      have fln : fl n = true := by rw [hfl]; simp
      have hor : orL (M (3 + 2 * x) 1) (shlL 1 (M (3 + 2 * x) 4 - 1)) = (mset fl (n + 1) : Int) := by
        rw [e1, x4, show B 115 x - 1 = (n : Int) by omega, show (B 115 x).toNat = n + 1 by omega, sbL (mset_le _ (n := 63) (by omega)) (by omega), ← mset_put fln]
        have : mset (fun i => decide (A 117 (60 * x + i) = 1)) (n + 1) = mset fl n := by
          rw [mset_s, if_neg (by rw [show B 115 x - 1 = (n : Int) by omega] at h2; simp [h2.2])]
          refine mset_cong fun k hk => ?_
          rw [hfl]
          simp only [if_neg (show ¬ (k : Int) = n by omega)]
        rw [this]
      refine ⟨fun r M1 => r = (cntB fl (n + 1) : Int) ∧ M1 = updM M (3 + 2 * x) 1 (mset fl (n + 1) : Int), fun Q k => ?_, fun r M1 hR => ?_⟩
      · refine t_BW_stop_0 hP (fun q => by omega) (fun _ q => by omega) (fun _ _ q => by omega) (fun _ _ _ q => by omega) (fun _ _ _ _ q => ?_) (fun _ _ _ _ q => absurd bt0 q)
        rw [hor]
        exact s_bitM hP (by omega) (t_BW_stop_26 hP (k _ _ ⟨rfl, rfl⟩))
      · obtain ⟨rfl, hM1⟩ := hR
        have v1 : M1 112 0 = B 112 0 := by rw [hM1, upd_c (by omega), t1]
        have v2 : M1 115 x = B 115 x := by rw [hM1, upd_c (by omega), x3]
        have v3 : M1 117 = A 117 := by rw [hM1, upd_r (by omega), m1]
        have en : 60 * x + M1 115 x - 1 = 60 * x + (B 115 x - 1) := by omega
        refine ⟨by rw [hM1, upd_r (by omega)]; exact hI0.ro, fun Q k => ?_⟩
        refine t_Mo_stop_0 hP (fun q => by omega) (fun _ q => by omega) (fun _ _ q => by omega) (fun _ _ _ q => ?_) (fun _ _ _ q => by rw [v3, en] at q; exact absurd h2.2 q)
        rw [en, show B 115 x - 1 = (n : Int) by omega]
        obtain ⟨M2, hM2⟩ : ∃ M2, M2 = updM M1 117 (60 * x + n) 1 := ⟨_, rfl⟩
        rw [← hM2]
        have hr : ∀ c j, M2 c j = if c = 117 ∧ j = 60 * x + n then 1 else if c = 3 + 2 * x ∧ j = 1 then (mset fl (n + 1) : Int) else M c j := fun c j => by rw [hM2, hM1]; rfl
        clear hM2 hM1
        have w1 : ∀ j, ¬ j = 60 * x + n → M2 117 j = A 117 j := fun j h => by
          have : M2 117 j = M 117 j := by (rw [hr]; repeat first | rw [if_neg (by omega)] | rw [if_pos (by omega)])
          rw [this, m1]
        have w2 : M2 117 (60 * x + n) = 1 := by (rw [hr]; repeat first | rw [if_neg (by omega)] | rw [if_pos (by omega)])
        have w3 : ∀ j, M2 117 j = 0 ∨ M2 117 j = 1 := fun j => by
          by_cases e : j = 60 * x + n
          · rw [e, w2]
            exact Or.inr rfl
          · rw [w1 j e]
            exact hN.2.1 j
        have w4 : M2 115 x = B 115 x := by
          have : M2 115 x = M 115 x := by (rw [hr]; repeat first | rw [if_neg (by omega)] | rw [if_pos (by omega)])
          rw [this, x3]
        have w5 : ∀ k : Nat, fl k = decide (M2 117 (60 * x + k) = 1) := fun k => by
          rw [hfl]
          by_cases e : (k : Int) = n
          · simp only [if_pos e]
            rw [e, w2]
            simp
          · simp only [if_neg e]
            rw [w1 _ (by omega)]
        refine s_stopMany hP (by omega) (n := n + 1) (by omega) (by omega) w3 (t_Mo_stop_44 hP ?_)
        rw [← cntB_cong (p := fl) (q := fun i => decide (M2 117 (60 * x + i) = 1)) fun k _ => w5 k]
        apply k
        have hc : ∀ c, ¬ (c = 117 ∨ c = 3 + 2 * x) → M2 c = M c := fun c h => funext fun q => by (rw [hr]; repeat first | rw [if_neg (by omega)] | rw [if_pos (by omega)])
        obtain ⟨g1, g2, g3, g4, g5, g6⟩ := hN
        refine ⟨M2, B, fun c q h => ?_, hW, Ca_c (by omega) hC (fun c h => hc c (by omega)) (by rw [hc 112 (by omega)]) (hc 135 (by omega)), Sn.refl _, ?_, w3, ?_, ?_, ?_, ?_⟩
        · have : M2 c q = M c q := by
            unfold Pc at h
            (rw [hr]; repeat first | rw [if_neg (by omega)] | rw [if_pos (by omega)])
          rw [this]
          exact hS c q h
        · intro z hz
          by_cases e : z = x
          · subst e
            have a1 : M2 (3 + 2 * z) 1 = (mset fl (n + 1) : Int) := by (rw [hr]; repeat first | rw [if_neg (by omega)] | rw [if_pos (by omega)])
            rw [a1, show (B 115 z).toNat = n + 1 by omega, mset_cong (p := fl) (q := fun i => decide (M2 117 (60 * z + i) = 1)) fun k _ => w5 k]
          · have zb := (rdX hS hW.2.1 hz).1
            rw [hc (3 + 2 * z) (by omega), hSn (3 + 2 * z) 1 (by unfold Pn; omega), g1 z hz]
            have : mset (fun i => decide (A 117 (60 * z + i) = 1)) (B 115 z).toNat = mset (fun i => decide (M2 117 (60 * z + i) = 1)) (B 115 z).toNat := mset_cong fun k hk => by
              rw [w1 _ (by omega)]
            rw [this]
        · rw [hc 27 (by omega), hc 112 (by omega), hSn.r 27, hSn 112 9 (by unfold Pn; omega)]
          exact g3
        · rw [hc 112 (by omega), hc 28 (by omega), hc 29 (by omega), hc 30 (by omega), hc 31 (by omega), hc 120 (by omega), hc 121 (by omega), hc 122 (by omega), hc 123 (by omega), hSn.r 28, hSn.r 29, hSn.r 30, hSn.r 31, hSn.r 120, hSn.r 121, hSn.r 122, hSn.r 123, hSn 112 9 (by unfold Pn; omega)]
          exact g4
        · rw [hc 32 (by omega), hSn.r 32, hc 112 (by omega), hSn 112 23 (by unfold Pn; omega), hSn 112 24 (by unfold Pn; omega)]
          exact g5
        · rw [hc 33 (by omega), hSn.r 33, hc 130 (by omega), hSn.r 130, hc 112 (by omega), hSn 112 23 (by unfold Pn; omega)]
          exact g6
    · refine ⟨fun r M1 => r = -1003 ∧ M1 = M, fun Q k => ?_, fun r M1 hR => ?_⟩
      · have b1 : 0 < B 115 x → ¬ andL (ushrL (M (3 + 2 * x) 1) (M (3 + 2 * x) 4 - 1)) 1 = 0 := fun h => by
          rw [bt h, if_pos (by omega)]
          decide
        exact t_BW_stop_0 hP (fun q => by omega) (fun _ q => by omega) (fun _ _ q => t_BW_stop_19 hP (k _ _ ⟨rfl, rfl⟩)) (fun _ _ q1 q => by omega) (fun _ _ q1 q2 q => absurd q (b1 (by omega))) (fun _ _ _ _ q => t_BW_stop_19 hP (k _ _ ⟨rfl, rfl⟩))
      · obtain ⟨rfl, rfl⟩ := hR
        refine ⟨hI0.ro, fun Q k => ?_⟩
        exact t_Mo_stop_0 hP (fun q => by omega) (fun _ q => by omega) (fun _ _ q => k _ hI0) (fun _ _ q1 q => by rw [m1, en] at q; omega) (fun _ _ _ _ => k _ hI0)
  · refine ⟨fun r M1 => r = -1001 ∧ M1 = M, fun Q k => ?_, fun r M1 hR => ?_⟩
    · refine t_BW_stop_0 hP ?_ ?_ ?_ ?_ ?_ ?_ <;> intros <;> first | (exfalso; omega) | exact k _ _ ⟨rfl, rfl⟩
    · obtain ⟨rfl, rfl⟩ := hR
      refine ⟨hI0.ro, fun Q k => ?_⟩
      refine t_Mo_stop_0 hP ?_ ?_ ?_ ?_ ?_ <;> intros <;> first | (exfalso; omega) | exact k _ hI0
theorem gcnt_eq {B : Mm_} (hL : WfL B) {w : Int} (hw : 1 ≤ w ∧ w ≤ 200) : gcnt (B 24) (B 24 w) = gcnt (B 118) (B 118 w) := cntB_cong fun k hk => by
  rw [decide_eq_decide]
  exact hL.2 _ _ (by omega) hw
theorem s_groupMany (hP : Clo P) {Q : Qp_} {M : Mm_} {g : Int} (k : Q (some (0, (gcnt (M 118) g : Int))) WF M) : P 56 0 [some (2, 112), some (0, g), none, none] [] WF M (0, 0) Q := by
  refine t_Mo_groupMany_0 hP ?_
  have lp := lpN (n := 200) (f := fun i : Nat => P 56 4 [some (2, 112), some (0, g), some (0, (cntB (fun w => decide (M 118 (w + 1) = g)) i : Int)), some (0, (i : Int) + 1)] [] WF M (0, 0) Q) ?_ ?_ 0 (Nat.zero_le _)
  · exact lp
  · have c := cntB_le (fun w => decide (M 118 (w + 1) = g)) 200
    exact t_Mo_groupMany_4 hP (fun _ => k) (fun q => by omega) (fun q => by omega)
  · intro i hi ih
    have c := cntB_le (fun w => decide (M 118 (w + 1) = g)) i
    refine t_Mo_groupMany_4 hP (fun q => by omega) (fun _ q => ?_) (fun _ q => ?_)
    · rw [cntB_f (by simp [q])] at ih
      rw [Int.add_zero]
      exact ih
    · rw [cntB_t (by simp [q])] at ih
      exact ih
theorem tw_count (hP : Clo P) {a : Int} : Two P L xs 69 [some (2, 0), some (0, a)] 70 [some (2, 112), some (0, a), none, none, none, none] := by
  intro M hI
  have hI0 := hI
  obtain ⟨A, B, hS, hW, hC, hSn, hN⟩ := hI
  obtain ⟨t0, t1, t2⟩ := rdT hS hW.2.1
  have hm3 := hN.2.2.1
  have hL := hW.2.2.1
  have m0 : M 27 5 = A 112 9 := (congrFun (hSn.r 27) 5).trans hm3.2.2
  have m1 : M 112 9 = A 112 9 := hSn 112 9 (by unfold Pn; omega)
  have m2 : M 35 3 = B 112 14 := (congrFun (hS.r 35) 3).trans hW.2.2.2.1.2.2.1
  have m3 : M 112 14 = B 112 14 := hS 112 14 (by unfold Pc; omega)
  have m4 : M 32 3 = A 112 23 := (congrFun (hSn.r 32) 3).trans hN.2.2.2.2.1.1
  have m5 : M 112 23 = A 112 23 := hSn 112 23 (by unfold Pn; omega)
  have m24 : M 24 = B 24 := hS.r 24
  have m25 : M 25 = B 25 := hS.r 25
  have m26 : M 26 = B 26 := hS.r 26
  have m118 : M 118 = B 118 := hS.r 118
  have m119 : M 119 = B 119 := hS.r 119
  have sb : ∀ n : Nat, n ≤ 10 → 0 ≤ sumI (B 115) n ∧ sumI (B 115) n ≤ 60 * n := fun n hn => sumI_bd n fun k hk => (rdX hS hW.2.1 (x := k) (by omega)).1
  refine ⟨fun r M1 => r = (if a < 0 ∨ 7 ≤ a then -1002 else if a = 0 then B 112 0 else if a = 1 then sumI (B 115) (B 112 0).toNat else if a = 2 then A 112 9 else if a = 3 then B 112 14 else if a = 4 then A 112 23 else if a = 5 then (cntB (fun w => decide (1 < (gcnt (B 118) (B 118 (w + 1)) : Int))) 200 : Int) else (cntB (fun w => decide (B 119 (w + 1) = 1)) 200 : Int)) ∧ M1 = M, fun Q k => ?_, fun r M1 hR => ?_⟩
  · refine t_BW_count_0 hP (fun q => ?_) (fun q => ?_) (fun q => ?_) (fun q => ?_) (fun q => ?_) (fun q => ?_) (fun q => ?_) (fun q => ?_)
    · exact k _ _ ⟨by rw [if_pos (by omega)], rfl⟩
    · subst q
      exact k _ _ ⟨t2, rfl⟩
    · subst q
      refine t_Shelf_wordCount_0 hP ?_
      refine lpN (n := (B 112 0).toNat) (f := fun i : Nat => P 66 4 [some (2, 1), some (0, sumI (B 115) i), some (0, (i : Int))] [] WF M (0, 0) _) ?_ ?_ 0 (Nat.zero_le _)
      · exact t_Shelf_wordCount_4 hP (fun _ => t_BW_count_9 hP (k _ _ ⟨rfl, rfl⟩)) (fun q => by omega)
      · intro i hi ih
        have b := sb i (by omega)
        have X := rdX hS hW.2.1 (x := i) (by omega)
        refine t_Shelf_wordCount_4 hP (fun q => by omega) (fun _ => ?_)
        rw [X.2.2.2.1]
        exact ih
    · subst q
      exact k _ _ ⟨m0, rfl⟩
    · subst q
      exact k _ _ ⟨m2, rfl⟩
    · subst q
      exact k _ _ ⟨m4, rfl⟩
    · subst q
      refine t_Lexicon_countOfShared_0 hP ?_
      refine lpN (n := 200) (f := fun i : Nat => P 67 4 [some (2, 23), some (0, (cntB (fun w => decide (1 < (gcnt (B 118) (B 118 (w + 1)) : Int))) i : Int)), some (0, (i : Int) + 1)] [] WF M (0, 0) _) ?_ ?_ 0 (Nat.zero_le _)
      · exact t_Lexicon_countOfShared_4 hP (fun _ => t_BW_count_25 hP (k _ _ ⟨rfl, rfl⟩)) (fun q => by omega) (fun q => by omega)
      · intro i hi ih
        have c := cntB_le (fun w => decide (1 < (gcnt (B 118) (B 118 (w + 1)) : Int))) i
        obtain ⟨l1, l2, l3, l4⟩ := hL.1 ((i : Int) + 1) (by omega)
        have e : M 25 (M 24 ((i : Int) + 1)) = (gcnt (B 118) (B 118 ((i : Int) + 1)) : Int) := by rw [m24, m25, l2, gcnt_eq hL (by omega)]
        have l5 : 1 ≤ M 24 ((i : Int) + 1) ∧ M 24 ((i : Int) + 1) ≤ 200 := by rw [m24]; exact l1
        refine t_Lexicon_countOfShared_4 hP (fun q => by omega) (fun _ q => ?_) (fun _ q => ?_)
        · rw [e] at q
          rw [cntB_f (by rw [decide_eq_true_iff]; omega)] at ih
          exact ih
        · rw [e] at q
          rw [cntB_t (by rw [decide_eq_true_iff]; omega)] at ih
          exact ih
    · subst q
      refine t_Lexicon_countOfCommon_0 hP ?_
      refine lpN (n := 200) (f := fun i : Nat => P 68 4 [some (2, 23), some (0, (cntB (fun w => decide (B 119 (w + 1) = 1)) i : Int)), some (0, (i : Int) + 1)] [] WF M (0, 0) _) ?_ ?_ 0 (Nat.zero_le _)
      · exact t_Lexicon_countOfCommon_4 hP (fun _ => t_BW_count_29 hP (k _ _ ⟨rfl, rfl⟩)) (fun q => by omega) (fun q => by omega)
      · intro i hi ih
        have c := cntB_le (fun w => decide (B 119 (w + 1) = 1)) i
        obtain ⟨l1, l2, l3, l4⟩ := hL.1 ((i : Int) + 1) (by omega)
        refine t_Lexicon_countOfCommon_4 hP (fun q => by omega) (fun _ q => ?_) (fun _ q => ?_)
        · rw [m26, l3] at q
          rw [cntB_f (by rw [decide_eq_true_iff]; omega)] at ih
          exact ih
        · rw [m26, l3] at q
          rw [cntB_t (by rw [decide_eq_true_iff]; omega)] at ih
          exact ih
  · obtain ⟨rfl, rfl⟩ := hR
    refine ⟨hI0.ro, fun Q k => ?_⟩
    refine t_Mo_count_0 hP ?_
    refine lpN (n := (B 112 0).toNat) (f := fun i : Nat => P 70 4 [some (2, 112), some (0, a), some (0, sumI (B 115) i), some (0, (i : Int)), none, none] [] WF M1 (0, 0) Q) ?_ ?_ 0 (Nat.zero_le _)
    · refine t_Mo_count_4 hP (fun _ => ?_) (fun q => by omega)
      refine lpN (n := 200) (f := fun i : Nat => P 70 23 [some (2, 112), some (0, a), some (0, sumI (B 115) (B 112 0).toNat), some (0, (cntB (fun w => decide (1 < (gcnt (B 118) (B 118 (w + 1)) : Int))) i : Int)), some (0, (cntB (fun w => decide (B 119 (w + 1) = 1)) i : Int)), some (0, (i : Int) + 1)] [] WF M1 (0, 0) Q) ?_ ?_ 0 (Nat.zero_le _)
      · have k := k _ hI0
        refine t_Mo_count_23 hP (fun _ q => ?_) (fun _ q => ?_) (fun _ q => ?_) (fun _ q => ?_) (fun _ q => ?_) (fun _ q => ?_) (fun _ q => ?_) (fun _ q => ?_) (fun q => by omega)
        · rw [if_pos (by omega)] at k
          exact k
        · subst q
          rw [t1]
          exact k
        · subst q
          exact k
        · subst q
          rw [m1]
          exact k
        · subst q
          rw [m3]
          exact k
        · subst q
          rw [m5]
          exact k
        · subst q
          exact k
        · subst q
          exact k
      · intro i hi ih
        have c1 := cntB_le (fun w => decide (1 < (gcnt (B 118) (B 118 (w + 1)) : Int))) i
        have c2 := cntB_le (fun w => decide (B 119 (w + 1) = 1)) i
        have l4 := (hL.1 ((i : Int) + 1) (by omega)).2.2.2
        refine t_Mo_count_23 hP (fun q => by omega) (fun q => by omega) (fun q => by omega) (fun q => by omega) (fun q => by omega) (fun q => by omega) (fun q => by omega) (fun q => by omega) (fun _ => ?_)
        refine s_groupMany hP ?_
        rw [m118]
        refine t_Mo_count_33 hP (fun q1 q2 => ?_) (fun q1 q2 => ?_) (fun q1 q2 => ?_) (fun q1 q2 => ?_) <;> rw [m119] at q2
        · rw [cntB_f (by rw [decide_eq_true_iff]; omega), cntB_f (by rw [decide_eq_true_iff]; omega)] at ih
          rw [Int.add_zero, Int.add_zero]
          exact ih
        · rw [cntB_f (by rw [decide_eq_true_iff]; omega), cntB_t (by rw [decide_eq_true_iff]; omega)] at ih
          rw [Int.add_zero]
          exact ih
        · rw [cntB_t (by rw [decide_eq_true_iff]; omega), cntB_f (by rw [decide_eq_true_iff]; omega)] at ih
          rw [Int.add_zero]
          exact ih
        · rw [cntB_t (by rw [decide_eq_true_iff]; omega), cntB_t (by rw [decide_eq_true_iff]; omega)] at ih
          exact ih
    · intro i hi ih
      have b := sb i (by omega)
      have X := rdX hS hW.2.1 (x := i) (by omega)
      refine t_Mo_count_4 hP (fun q => by omega) (fun _ => ?_)
      rw [X.2.2.1]
      exact ih
end MK2
