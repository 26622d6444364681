/-! WORDS: word, copy -/
theorem mset_s (p : Int → Bool) (n : Nat) : mset p (n + 1) = mset p n + (if p n then 2 ^ n else 0) := rfl
theorem mset_put {p : Int → Bool} {n : Nat} (h : p n = true) : mset p n ||| 2 ^ n = mset p (n + 1) := by
  rw [mset_or, mset_s, if_pos h]
theorem INV_app {L : Nat} {xs : Nat → Int32} {A B M M2 : Mm_} (hS : Sc B M) (hW : WfC L xs B) (hSn : Sn A M) (hN : WfN A B) {x n p : Int} (hx : 0 ≤ x ∧ x < B 112 0) (hn : n = B 115 x) (hp : 0 ≤ p ∧ n + p ≤ 60) (w s : Int → Int) (hw : ∀ q, 0 ≤ q ∧ q < p → 1 ≤ w q ∧ w q ≤ 200) (hs : ∀ q, s q = 0 ∨ s q = 1)
    (c1 : ∀ c, ¬ (c = 3 + 2 * x ∨ c = 3 + 2 * x + 1 ∨ c = 112 ∨ c = 115 ∨ c = 116 ∨ c = 117 ∨ 47 ≤ c ∧ c ≤ 111) → M2 c = M c)
    (c2 : ∀ j, ¬ j = 8 → M2 112 j = M 112 j) (c3 : ∀ j, j ≠ x → M2 115 j = M 115 j) (c3' : M2 115 x = n + p)
    (c4 : ∀ j, ¬ (60 * x + n ≤ j ∧ j < 60 * x + n + p) → M2 116 j = M 116 j ∧ M2 117 j = M 117 j)
    (c4' : ∀ q, 0 ≤ q ∧ q < p → M2 116 (60 * x + n + q) = w q ∧ M2 117 (60 * x + n + q) = s q)
    (c5 : ∀ j, j ≠ 4 → j ≠ 1 → M2 (3 + 2 * x) j = M (3 + 2 * x) j) (c5' : M2 (3 + 2 * x) 4 = n + p)
    (c6 : ∀ q, 0 ≤ q ∧ q < n → M2 (3 + 2 * x + 1) q = M (3 + 2 * x + 1) q) (c6' : ∀ q, 0 ≤ q ∧ q < p → M2 (3 + 2 * x + 1) (n + q) = w q)
    (c7 : M2 (3 + 2 * x) 1 = (mset (fun q => decide ((if q < n then A 117 (60 * x + q) else s (q - n)) = 1)) (n + p).toNat : Int))
    (k1 : M2 47 9 = -1) (k2 : M2 70 5 = 0) (k3 : M2 112 8 = 0) : INV L xs M2 := by
  obtain ⟨t0, t1, t2⟩ := rdT hS hW.2.1
  have q0 := hW.2.1.1.2.2.2
  have X := fun {z : Int} (hz : 0 ≤ z ∧ z < 10) => rdX hS hW.2.1 hz
  have Xx := X (z := x) (by omega)
  have e1 : M2 112 0 = B 112 0 := (c2 0 (by decide)).trans t1
  have m117 : M 117 = A 117 := hSn.r 117
  obtain ⟨g1, g2, g3, g4, g5, g6⟩ := hN
  refine ⟨M2, M2, Sc.refl _, ⟨fun c h => (c1 c (by omega)).trans ((hS.r c (by omega)).trans (hW.1 c h)), ⟨⟨by omega, by omega, ?_, ?_⟩, ?_, ?_⟩, WfL_c hW.2.2.1 fun c h => (c1 c (by omega)).trans (hS.r c (by omega)), WfR_c hW.2.2.2 (fun c h => (c1 c (by omega)).trans (hS.r c (by omega))) ((c2 14 (by decide)).trans (hS 112 14 (by unfold Pc; omega))) ((c2 17 (by decide)).trans (hS 112 17 (by unfold Pc; omega)))⟩, Ca_0 k1 k2 k3, Sn.refl _, ?_, ?_, ?_, ?_, ?_, ?_⟩
  · rw [c1 1 (by omega), t2, e1]
  · intro z hz
    rw [e1] at hz
    rw [c3 z (by omega), (X (z := z) (by omega)).2.2.1]
    exact q0 z hz
  · intro z hz
    obtain ⟨x1, x2, x3, x4, x5, x6, x7, x8⟩ := X hz
    rw [c1 114 (by omega), c1 113 (by omega)]
    by_cases e : z = x
    · subst e
      rw [c3', c5', c5 3 (by decide) (by decide), c5 2 (by decide) (by decide)]
      omega
    · rw [c3 z e, c1 (3 + 2 * z) (by omega)]
      omega
  · intro z i hz hi
    by_cases e : z = x
    · subst e
      rw [c3'] at hi
      by_cases e2 : i < n
      · rw [c6 i ⟨hi.1, e2⟩, (c4 (60 * z + i) (by omega)).1]
        obtain ⟨w1, w2, w3, w4⟩ := rdW hS hW.2.1 hz (i := i) (by omega)
        rw [w1, w2]
        exact ⟨rfl, w3, w4⟩
      · have a1 := c6' (i - n) (by omega)
        have a2 := (c4' (i - n) (by omega)).1
        rw [show n + (i - n) = i by omega] at a1
        rw [show 60 * z + n + (i - n) = 60 * z + i by omega] at a2
        rw [a1, a2]
        exact ⟨rfl, hw _ (by omega)⟩
    · rw [c3 z e, (X hz).2.2.1] at hi
      have := (X hz).1
      rw [c1 (3 + 2 * z + 1) (by omega), (c4 (60 * z + i) (by omega)).1]
      obtain ⟨w1, w2, w3, w4⟩ := rdW hS hW.2.1 hz hi
      rw [w1, w2]
      exact ⟨rfl, w3, w4⟩
  · intro z hz
    by_cases e : z = x
    · subst e
      rw [c7, c3']
      have : mset (fun q => decide ((if q < n then A 117 (60 * z + q) else s (q - n)) = 1)) (n + p).toNat = mset (fun i => decide (M2 117 (60 * z + i) = 1)) (n + p).toNat := mset_cong fun k hk => by
        by_cases e2 : (k : Int) < n
        · simp only [if_pos e2]
          rw [(c4 (60 * z + k) (by omega)).2, m117]
        · simp only [if_neg e2]
          have a2 := (c4' (k - n) (by omega)).2
          rw [show 60 * z + n + (k - n) = 60 * z + k by omega] at a2
          rw [a2]
      rw [this]
    · have b := (X hz).1
      rw [c3 z e, (X hz).2.2.1, c1 (3 + 2 * z) (by omega), hSn (3 + 2 * z) 1 (by unfold Pn; omega), g1 z hz]
      have : mset (fun i => decide (A 117 (60 * z + i) = 1)) (B 115 z).toNat = mset (fun i => decide (M2 117 (60 * z + i) = 1)) (B 115 z).toNat := mset_cong fun k hk => by
        rw [(c4 (60 * z + k) (by omega)).2, m117]
      rw [this]
  · intro j
    by_cases e : 60 * x + n ≤ j ∧ j < 60 * x + n + p
    · have a := (c4' (j - (60 * x + n)) (by omega)).2
      rw [show 60 * x + n + (j - (60 * x + n)) = j by omega] at a
      rw [a]
      exact hs _
    · rw [(c4 j e).2, m117]
      exact g2 j
  · rw [c1 27 (by omega), hSn.r 27, c2 9 (by decide), hSn 112 9 (by unfold Pn; omega)]
    exact g3
  · rw [c2 9 (by decide), hSn 112 9 (by unfold Pn; omega)]
    intro m hm
    obtain ⟨a, b, c, d, e⟩ := g4 m hm
    rw [c1 28 (by omega), c1 29 (by omega), c1 30 (by omega), c1 31 (by omega), c1 120 (by omega), c1 121 (by omega), c1 122 (by omega), c1 123 (by omega), hSn.r 28, hSn.r 29, hSn.r 30, hSn.r 31, hSn.r 120, hSn.r 121, hSn.r 122, hSn.r 123, e1]
    refine ⟨a, b, ?_, d, e⟩
    by_cases e : A 120 m = x
    · rw [e] at c ⊢
      rw [c3']
      omega
    · rw [c3 _ e, (X (z := A 120 m) (by omega)).2.2.1]
      exact c
  · rw [c1 32 (by omega), c2 23 (by decide), c2 24 (by decide), hSn.r 32, hSn 112 23 (by unfold Pn; omega), hSn 112 24 (by unfold Pn; omega)]
    exact g5
  · rw [c1 33 (by omega), c1 130 (by omega), c2 23 (by decide), hSn.r 33, hSn.r 130, hSn 112 23 (by unfold Pn; omega)]
    exact g6
section TX2
variable {P : Jg_} {L : Nat} {xs : Nat → Int32}
theorem tw_word (hP : Clo P) {a b : Int} : Two P L xs 23 [some (2, 0), some (0, a), some (0, b), none] 26 [some (2, 112), some (0, a), some (0, b)] := by
  intro M hI
  have hI0 := hI
  obtain ⟨A, B, hS, hW, hC, hSn, hN⟩ := hI
  obtain ⟨t0, t1, t2⟩ := rdT hS hW.2.1
  by_cases h1 : 0 ≤ a ∧ a < B 112 0
  · obtain ⟨x1, x2, x3, x4, x5, x6, x7, x8⟩ := rdX hS hW.2.1 (x := a) (by omega)
    by_cases h2 : 1 ≤ b ∧ b ≤ 200
    · by_cases h3 : B 115 a = 60
      · refine ⟨fun r M1 => r = -1004 ∧ M1 = M, fun Q k => ?_, fun r M1 hR => ?_⟩
        · refine t_BW_word_0 hP ?_ ?_ ?_ ?_ ?_ ?_ ?_ <;> intros <;> first | (exfalso; omega) | exact k _ _ ⟨rfl, rfl⟩
        · obtain ⟨rfl, rfl⟩ := hR
          refine ⟨hI0.ro, fun Q k => ?_⟩
          refine t_Mo_word_0 hP ?_ ?_ ?_ ?_ ?_ ?_ <;> intros <;> first | (exfalso; omega) | exact k _ hI0
      · refine ⟨fun r M1 => r = B 115 a + 1 ∧ M1 = updM (updM (updM (updM M 47 9 (-1)) 70 5 0) (3 + 2 * a + 1) (B 115 a) b) (3 + 2 * a) 4 (B 115 a + 1), fun Q k => ?_, fun r M1 hR => ?_⟩
        · refine t_BW_word_0 hP ?_ ?_ ?_ ?_ ?_ ?_ ?_ <;> intros <;> first | (exfalso; omega) | skip
          rw [x4]
          exact k _ _ ⟨rfl, rfl⟩
        · obtain ⟨rfl, rfl⟩ := hR
          obtain ⟨n, hn⟩ : ∃ n, n = B 115 a := ⟨_, rfl⟩
          rw [← hn] at x1 x3 x4 h3 ⊢
          have e0 : (updM (updM (updM (updM M 47 9 (-1)) 70 5 0) (3 + 2 * a + 1) n b) (3 + 2 * a) 4 (n + 1)) 112 0 = B 112 0 := by
            rw [upd_c (by omega), upd_c (by omega), upd_c (by omega), upd_c (by omega), t1]
          have e2 : (updM (updM (updM (updM M 47 9 (-1)) 70 5 0) (3 + 2 * a + 1) n b) (3 + 2 * a) 4 (n + 1)) 115 a = n := by
            rw [upd_c (by omega), upd_c (by omega), upd_c (by omega), upd_c (by omega), x3]
          refine ⟨?_, fun Q k => ?_⟩
          · rw [upd_r (by omega), upd_r (by omega), upd_r (by omega), upd_r (by omega)]
            exact hI0.ro
          · refine t_Mo_word_0 hP ?_ ?_ ?_ ?_ ?_ ?_ <;> intros <;> first | (exfalso; omega) | skip
            rw [e2]
            apply k
            obtain ⟨M2, hM2⟩ : ∃ M2, M2 = (updM (updM (updM (updM (updM (updM (updM (updM M 47 9 (-1)) 70 5 0) (3 + 2 * a + 1) n b) (3 + 2 * a) 4 (n + 1)) 116 (60 * a + n) b) 117 (60 * a + n) 0) 115 a (n + 1)) 112 8 0) := ⟨_, rfl⟩
            rw [← hM2]
            have hr : ∀ c j, M2 c j = if c = 112 ∧ j = 8 then 0 else if c = 115 ∧ j = a then n + 1 else if c = 117 ∧ j = 60 * a + n then 0 else if c = 116 ∧ j = 60 * a + n then b else if c = 3 + 2 * a ∧ j = 4 then n + 1 else if c = 3 + 2 * a + 1 ∧ j = n then b else if c = 70 ∧ j = 5 then 0 else if c = 47 ∧ j = 9 then -1 else M c j := fun c j => by rw [hM2]; rfl
            clear hM2
            refine INV_app hS hW hSn hN (x := a) (n := n) (p := 1) h1 hn (by omega) (fun _ => b) (fun _ => 0) (fun _ _ => h2) (fun _ => Or.inl rfl) (fun c h => funext fun j => by (rw [hr]; repeat first | rw [if_neg (by omega)] | rw [if_pos (by omega)])) (fun j h => by (rw [hr]; repeat first | rw [if_neg (by omega)] | rw [if_pos (by omega)])) (fun j h => by (rw [hr]; repeat first | rw [if_neg (by omega)] | rw [if_pos (by omega)])) (by (rw [hr]; repeat first | rw [if_neg (by omega)] | rw [if_pos (by omega)])) (fun j h => ⟨by (rw [hr]; repeat first | rw [if_neg (by omega)] | rw [if_pos (by omega)]), by (rw [hr]; repeat first | rw [if_neg (by omega)] | rw [if_pos (by omega)])⟩) (fun q h => ?_) (fun j h h' => by (rw [hr]; repeat first | rw [if_neg (by omega)] | rw [if_pos (by omega)])) (by (rw [hr]; repeat first | rw [if_neg (by omega)] | rw [if_pos (by omega)])) (fun q h => by (rw [hr]; repeat first | rw [if_neg (by omega)] | rw [if_pos (by omega)])) (fun q h => ?_) ?_ (by (rw [hr]; repeat first | rw [if_neg (by omega)] | rw [if_pos (by omega)])) (by (rw [hr]; repeat first | rw [if_neg (by omega)] | rw [if_pos (by omega)])) (by (rw [hr]; repeat first | rw [if_neg (by omega)] | rw [if_pos (by omega)]))
            · rw [show q = 0 by omega, Int.add_zero]
              exact ⟨by (rw [hr]; repeat first | rw [if_neg (by omega)] | rw [if_pos (by omega)]), by (rw [hr]; repeat first | rw [if_neg (by omega)] | rw [if_pos (by omega)])⟩
            · rw [show q = 0 by omega, Int.add_zero]
              (rw [hr]; repeat first | rw [if_neg (by omega)] | rw [if_pos (by omega)])
            · have r : M2 (3 + 2 * a) 1 = M (3 + 2 * a) 1 := by (rw [hr]; repeat first | rw [if_neg (by omega)] | rw [if_pos (by omega)])
              rw [r, hSn (3 + 2 * a) 1 (by unfold Pn; omega), hN.1 a (by omega), ← hn, show (n + 1).toNat = n.toNat + 1 by omega, mset_s]
              have z : ¬ (decide ((if ((n.toNat : Nat) : Int) < n then A 117 (60 * a + ((n.toNat : Nat) : Int)) else 0) = 1) = true) := by
                rw [if_neg (by omega)]
                decide
              rw [if_neg z, Nat.add_zero]
              have : mset (fun i => decide (A 117 (60 * a + i) = 1)) n.toNat = mset (fun q => decide ((if q < n then A 117 (60 * a + q) else 0) = 1)) n.toNat := mset_cong fun k hk => by
                simp only [if_pos (show (k : Int) < n by omega)]
              rw [this]
    · refine ⟨fun r M1 => r = -1002 ∧ M1 = M, fun Q k => ?_, fun r M1 hR => ?_⟩
      · refine t_BW_word_0 hP ?_ ?_ ?_ ?_ ?_ ?_ ?_ <;> intros <;> first | (exfalso; omega) | exact k _ _ ⟨rfl, rfl⟩
      · obtain ⟨rfl, rfl⟩ := hR
        refine ⟨hI0.ro, fun Q k => ?_⟩
        refine t_Mo_word_0 hP ?_ ?_ ?_ ?_ ?_ ?_ <;> intros <;> first | (exfalso; omega) | exact k _ hI0
  · refine ⟨fun r M1 => r = -1001 ∧ M1 = M, fun Q k => ?_, fun r M1 hR => ?_⟩
    · refine t_BW_word_0 hP ?_ ?_ ?_ ?_ ?_ ?_ ?_ <;> intros <;> first | (exfalso; omega) | exact k _ _ ⟨rfl, rfl⟩
    · obtain ⟨rfl, rfl⟩ := hR
      refine ⟨hI0.ro, fun Q k => ?_⟩
      refine t_Mo_word_0 hP ?_ ?_ ?_ ?_ ?_ ?_ <;> intros <;> first | (exfalso; omega) | exact k _ hI0
theorem tw_copy (hP : Clo P) {x y i j : Int} : Two P L xs 35 [some (2, 0), some (0, x), some (0, y), some (0, i), some (0, j), none, none, none] 37 [some (2, 112), some (0, x), some (0, y), some (0, i), some (0, j), none] := by
  intro M hI
  have hI0 := hI
  obtain ⟨A, B, hS, hW, hC, hSn, hN⟩ := hI
  obtain ⟨t0, t1, t2⟩ := rdT hS hW.2.1
  by_cases h1 : (0 ≤ x ∧ x < B 112 0) ∧ (0 ≤ y ∧ y < B 112 0)
  · obtain ⟨x1, x2, x3, x4, x5, x6, x7, x8⟩ := rdX hS hW.2.1 (x := x) (by omega)
    obtain ⟨y1, y2, y3, y4, y5, y6, y7, y8⟩ := rdX hS hW.2.1 (x := y) (by omega)
    by_cases h2 : 0 ≤ i ∧ i ≤ j ∧ j < B 115 y
    · by_cases h3 : B 115 x + j - i + 1 ≤ 60
      · obtain ⟨n, hn⟩ : ∃ n, n = B 115 x := ⟨_, rfl⟩
        rw [← hn] at x1 x3 x4 h3
        obtain ⟨fl, hfl⟩ : ∃ fl : Int → Bool, fl = fun q => decide ((if q < n then A 117 (60 * x + q) else A 117 (60 * y + (i + (q - n)))) = 1) := ⟨_, rfl⟩
        obtain ⟨M0, hM0⟩ : ∃ M0, M0 = updM (updM M 47 9 (-1)) 70 5 0 := ⟨_, rfl⟩
        have hM0r : ∀ c, c ≠ 47 → c ≠ 70 → M0 c = M c := fun c a b => by rw [hM0, upd_r b, upd_r a]
        refine ⟨fun r M1 => r = n + (j - i + 1) ∧ (∀ c, ¬ (c = 3 + 2 * x ∨ c = 3 + 2 * x + 1) → M1 c = M0 c) ∧ (∀ q, q ≠ 4 → q ≠ 1 → M1 (3 + 2 * x) q = M0 (3 + 2 * x) q) ∧ M1 (3 + 2 * x) 4 = n + (j - i + 1) ∧ M1 (3 + 2 * x) 1 = (mset fl (n + (j - i + 1)).toNat : Int) ∧ (∀ q, 0 ≤ q ∧ q < n → M1 (3 + 2 * x + 1) q = M0 (3 + 2 * x + 1) q) ∧ (∀ q, 0 ≤ q ∧ q < j - i + 1 → M1 (3 + 2 * x + 1) (n + q) = B 116 (60 * y + (i + q))), fun Q k => ?_, fun r M1 hR => ?_⟩
        · refine t_BW_copy_0 hP ?_ ?_ ?_ ?_ ?_ ?_ ?_ ?_ ?_ <;> intros <;> first | (exfalso; omega) | skip
          rw [← hM0]
          have lp := lpI (lo := i) (n := j + 1) (f := fun z => ∀ M', (∀ c, ¬ (c = 3 + 2 * x ∨ c = 3 + 2 * x + 1) → M' c = M0 c) → (∀ q, q ≠ 4 → q ≠ 1 → M' (3 + 2 * x) q = M0 (3 + 2 * x) q) → M' (3 + 2 * x) 4 = n + (z - i) → M' (3 + 2 * x) 1 = (mset fl (n + (z - i)).toNat : Int) → (∀ q, 0 ≤ q ∧ q < n → M' (3 + 2 * x + 1) q = M0 (3 + 2 * x + 1) q) → (∀ q, 0 ≤ q ∧ q < z - i → M' (3 + 2 * x + 1) (n + q) = B 116 (60 * y + (i + q))) → P 35 45 [none, none, none, none, some (0, j), some (2, 3 + 2 * y), some (2, 3 + 2 * x), some (0, z)] [] WF M' (0, 0) Q) ?_ ?_ i (by omega) (by omega)
          · refine lp M0 (fun _ _ => rfl) (fun _ _ _ => rfl) ?_ ?_ (fun _ _ => rfl) (fun q h => by omega)
            · rw [hM0r _ (by omega) (by omega), x4]
              omega
            · rw [hM0r _ (by omega) (by omega), hSn (3 + 2 * x) 1 (by unfold Pn; omega), hN.1 x (by omega), ← hn, show n + (i - i) = n by omega]
              have : mset (fun q => decide (A 117 (60 * x + q) = 1)) n.toNat = mset fl n.toNat := mset_cong fun k hk => by
                rw [hfl]
                simp only [if_pos (show (k : Int) < n by omega)]
              rw [this]
          · intro M' g1 g2 g3 g4 g5 g6
            rw [show j + 1 - i = j - i + 1 by omega] at g3 g4 g6
            refine t_BW_copy_45 hP (tx_of (by omega)) (tx_of (by omega)) (fun _ => ?_) (fun q => by omega) (fun q => by omega) (fun q => by omega) (fun q => by omega) (fun q => by omega) (fun q => by omega)
            rw [g3]
            exact k _ _ ⟨rfl, g1, g2, g3, g4, g5, g6⟩
          · intro z z1 z2 ih M' g1 g2 g3 g4 g5 g6
            have src : M' (3 + 2 * y + 1) z = B 116 (60 * y + z) := by
              by_cases e : y = x
              · subst e
                rw [g5 z (by omega), hM0r _ (by omega) (by omega)]
                exact (rdW hS hW.2.1 (x := y) (by omega) (i := z) (by omega)).1
              · rw [g1 _ (by omega), hM0r _ (by omega) (by omega)]
                exact (rdW hS hW.2.1 (x := y) (by omega) (i := z) (by omega)).1
            obtain ⟨S, hS1, hS2, hS3⟩ : ∃ S : Nat, M' (3 + 2 * y) 1 = (S : Int) ∧ S < 9223372036854775808 ∧ (S.testBit z.toNat = true ↔ A 117 (60 * y + z) = 1) := by
              by_cases e : y = x
              · subst e
                refine ⟨_, g4, mset_le fl (n := 63) (by omega), ?_⟩
                rw [mset_tb, hfl]
                simp only [Int.toNat_of_nonneg (show 0 ≤ z by omega), if_pos (show z < n by omega)]
                rw [Bool.and_eq_true, decide_eq_true_iff, decide_eq_true_iff]
                exact ⟨fun h => h.2, fun h => ⟨by omega, h⟩⟩
              · refine ⟨_, by rw [g1 _ (by omega), hM0r _ (by omega) (by omega), hSn (3 + 2 * y) 1 (by unfold Pn; omega)]; exact hN.1 y (by omega), mset_le _ (n := 63) (by omega), ?_⟩
                rw [mset_tb]
                simp only [Int.toNat_of_nonneg (show 0 ≤ z by omega)]
                rw [Bool.and_eq_true, decide_eq_true_iff, decide_eq_true_iff]
                exact ⟨fun h => h.2, fun h => ⟨by omega, h⟩⟩
            have rdS : (updM (updM M' (3 + 2 * x + 1) (n + (z - i)) (B 116 (60 * y + z))) (3 + 2 * x) 4 (n + (z - i) + 1)) (3 + 2 * y) 1 = (S : Int) := by
              rw [upd_i (by decide), upd_c (by omega), hS1]
            have tb : andL (ushrL (S : Int) z) 1 = if S.testBit z.toNat then 1 else 0 := by
              have := tbL (a := S) (k := z.toNat) hS2 (by omega)
              rwa [Int.toNat_of_nonneg (by omega)] at this
            have fz : fl (n + (z - i)) = decide (A 117 (60 * y + z) = 1) := by
              rw [hfl]
              simp only [if_neg (show ¬ n + (z - i) < n by omega)]
              rw [show i + (n + (z - i) - n) = z by omega]
            have ns : (n + (z + 1 - i)).toNat = (n + (z - i)).toNat + 1 := by omega
            have nc : ((n + (z - i)).toNat : Int) = n + (z - i) := by omega
            refine t_BW_copy_45 hP (tx_of (by omega)) (tx_of (by omega)) (fun q => by omega) (fun _ _ q => ?_) (fun _ _ q q2 => by omega) (fun _ _ q _ => ?_) (fun _ q => by omega) (fun _ q => by omega) (fun _ q => by omega)
            · rw [g3, src, rdS, tb] at q
              rw [g3, src]
              have sf : ¬ A 117 (60 * y + z) = 1 := fun h => by
                rw [if_pos (hS3.mpr h)] at q
                exact absurd q (by decide)
              refine ih _ (fun c h => by rw [upd_r (by omega), upd_r (by omega)]; exact g1 c h) (fun q h h' => by rw [upd_i h, upd_c (by omega)]; exact g2 q h h') (by rw [upd_s]; omega) ?_ (fun q h => by rw [upd_c (by omega), upd_i (by omega)]; exact g5 q h) (fun q h => ?_)
              · rw [upd_i (by decide), upd_c (by omega), g4, ns, mset_s, nc, fz, if_neg (by simp [sf])]
                rfl
              · rw [upd_c (by omega)]
                by_cases e : q = z - i
                · subst e
                  rw [upd_s, show i + (z - i) = z by omega]
                · rw [upd_i (by omega)]
                  exact g6 q (by omega)
            · rw [g3, src, rdS, tb] at q
              rw [g3, src, g4]
              have sf : A 117 (60 * y + z) = 1 := by
                by_cases h : A 117 (60 * y + z) = 1
                · exact h
                · rw [if_neg (fun h' => h (hS3.mp h'))] at q
                  exact absurd rfl q
              have hor : orL (mset fl (n + (z - i)).toNat : Int) (shlL 1 (n + (z - i) + 1 - 1)) = (mset fl (n + (z + 1 - i)).toNat : Int) := by
                rw [show n + (z - i) + 1 - 1 = ((n + (z - i)).toNat : Int) by omega, sbL (mset_le fl (n := 63) (by omega)) (by omega), mset_put (by rw [nc, fz]; simp [sf]), ns]
              rw [hor]
              refine ih _ (fun c h => by rw [upd_r (by omega), upd_r (by omega), upd_r (by omega)]; exact g1 c h) (fun q h h' => by rw [upd_i h', upd_i h, upd_c (by omega)]; exact g2 q h h') (by rw [upd_i (by decide), upd_s]; omega) (upd_s _ _ _ _) (fun q h => by rw [upd_c (by omega), upd_c (by omega), upd_i (by omega)]; exact g5 q h) (fun q h => ?_)
              rw [upd_c (by omega), upd_c (by omega)]
              by_cases e : q = z - i
              · subst e
                rw [upd_s, show i + (z - i) = z by omega]
              · rw [upd_i (by omega)]
                exact g6 q (by omega)
        · obtain ⟨rfl, g1, g2, g3, g4, g5, g6⟩ := hR
          have u1 : ∀ c, ¬ (c = 3 + 2 * x ∨ c = 3 + 2 * x + 1 ∨ c = 47 ∨ c = 70) → M1 c = M c := fun c h => (g1 c (by omega)).trans (hM0r c (by omega) (by omega))
          refine ⟨(u1 (-2) (by omega)).trans hI0.ro, fun Q k => ?_⟩
          have v1 : M1 112 0 = B 112 0 := by rw [u1 112 (by omega)]; exact t1
          have v2 : M1 115 x = n := by rw [u1 115 (by omega)]; exact x3
          have v3 : M1 115 y = B 115 y := by rw [u1 115 (by omega)]; exact y3
          refine t_Mo_copy_0 hP ?_ ?_ ?_ ?_ ?_ ?_ ?_ ?_ ?_ ?_ <;> intros <;> first | (exfalso; omega) | skip
          have lp := lpI (lo := i) (n := j + 1) (f := fun z => ∀ M', (∀ c, ¬ (c = 115 ∨ c = 116 ∨ c = 117) → M' c = M1 c) → (∀ q, q ≠ x → M' 115 q = M1 115 q) → M' 115 x = n + (z - i) → (∀ q, ¬ (60 * x + n ≤ q ∧ q < 60 * x + n + (z - i)) → M' 116 q = M1 116 q ∧ M' 117 q = M1 117 q) → (∀ q, 0 ≤ q ∧ q < z - i → M' 116 (60 * x + n + q) = B 116 (60 * y + (i + q)) ∧ M' 117 (60 * x + n + q) = A 117 (60 * y + (i + q))) → P 37 47 [some (2, 112), some (0, x), some (0, y), none, some (0, j), some (0, z)] [] WF M' (0, 0) Q) ?_ ?_ i (by omega) (by omega)
          · exact lp M1 (fun _ _ => rfl) (fun _ _ => rfl) (by omega) (fun _ _ => ⟨rfl, rfl⟩) (fun q h => by omega)
          · intro M' f1 f2 f3 f4 f5
            rw [show j + 1 - i = j - i + 1 by omega] at f3 f4 f5
            refine t_Mo_copy_47 hP (fun _ => ?_) (fun q => by omega) (s16 := fun q => by omega)
            rw [f3]
            apply k
            have w1 : ∀ c, ¬ (c = 112 ∨ c = 115 ∨ c = 116 ∨ c = 117) → updM M' 112 8 0 c = M1 c := fun c h => by rw [upd_r (by omega)]; exact f1 c (by omega)
            refine INV_app hS hW hSn hN (x := x) (n := n) (p := j - i + 1) h1.1 hn (by omega) (fun q => B 116 (60 * y + (i + q))) (fun q => A 117 (60 * y + (i + q))) (fun q h => (rdW hS hW.2.1 (x := y) (by omega) (i := i + q) (by omega)).2.2) (fun q => hN.2.1 _) (fun c h => (w1 c (by omega)).trans (u1 c (by omega))) (fun q h => ?_) (fun q h => ?_) ?_ (fun q h => ?_) (fun q h => ?_) (fun q h h' => ?_) ?_ (fun q h => ?_) (fun q h => ?_) ?_ ?_ ?_ (upd_s _ _ _ _)
            · rw [upd_i h, f1 112 (by omega), u1 112 (by omega)]
            · rw [upd_c (by decide), f2 q h, u1 115 (by omega)]
            · rw [upd_c (by decide), f3]
            · rw [upd_c (by decide), upd_c (by decide), (f4 q h).1, (f4 q h).2, u1 116 (by omega), u1 117 (by omega)]
              exact ⟨rfl, rfl⟩
            · rw [upd_c (by decide), upd_c (by decide)]
              exact f5 q h
            · rw [w1 _ (by omega), g2 q h h', hM0r _ (by omega) (by omega)]
            · rw [w1 _ (by omega), g3]
            · rw [w1 _ (by omega), g5 q h, hM0r _ (by omega) (by omega)]
            · rw [w1 _ (by omega), g6 q h]
            · rw [w1 _ (by omega), g4, hfl]
            · rw [w1 _ (by omega), g1 47 (by omega), hM0, upd_c (by decide), upd_s]
            · rw [w1 _ (by omega), g1 70 (by omega), hM0, upd_s]
          · intro z z1 z2 ih M' f1 f2 f3 f4 f5
            have src : M' 116 (60 * y + z) = B 116 (60 * y + z) ∧ M' 117 (60 * y + z) = A 117 (60 * y + z) := by
              have hh : ¬ (60 * x + n ≤ 60 * y + z ∧ 60 * y + z < 60 * x + n + (z - i)) := by
                by_cases e : y = x
                · subst e
                  omega
                · omega
              rw [(f4 _ hh).1, (f4 _ hh).2, u1 116 (by omega), u1 117 (by omega), hSn.r 117]
              exact ⟨(rdW hS hW.2.1 (x := y) (by omega) (i := z) (by omega)).2.1, rfl⟩
            refine t_Mo_copy_47 hP (fun q => by omega) (fun _ => ?_) (s16 := fun _ => by rw [src.2]; exact hN.2.1 _)
            rw [f3, src.1, src.2]
            refine ih _ (fun c h => by rw [upd_r (by omega), upd_r (by omega), upd_r (by omega)]; exact f1 c h) (fun q h => by rw [upd_i h, upd_c (by decide), upd_c (by decide)]; exact f2 q h) (by rw [upd_s]; omega) (fun q h => ?_) (fun q h => ?_)
            · rw [upd_c (by decide), upd_c (by decide), upd_i (by omega), upd_c (by decide), upd_i (by omega)]
              exact f4 q (by omega)
            · refine ⟨?_, ?_⟩
              · rw [upd_c (by decide), upd_c (by decide)]
                by_cases e : q = z - i
                · subst e
                  rw [show 60 * x + n + (z - i) = 60 * x + (n + (z - i)) by omega, upd_s, show i + (z - i) = z by omega]
                · rw [upd_i (by omega)]
                  exact (f5 q (by omega)).1
              · rw [upd_c (by decide)]
                by_cases e : q = z - i
                · subst e
                  rw [show 60 * x + n + (z - i) = 60 * x + (n + (z - i)) by omega, upd_s, show i + (z - i) = z by omega]
                · rw [upd_i (by omega), upd_c (by decide)]
                  exact (f5 q (by omega)).2
      · refine ⟨fun r M1 => r = -1004 ∧ M1 = M, fun Q k => ?_, fun r M1 hR => ?_⟩
        · refine t_BW_copy_0 hP ?_ ?_ ?_ ?_ ?_ ?_ ?_ ?_ ?_ <;> intros <;> first | (exfalso; omega) | exact k _ _ ⟨rfl, rfl⟩
        · obtain ⟨rfl, rfl⟩ := hR
          refine ⟨hI0.ro, fun Q k => ?_⟩
          refine t_Mo_copy_0 hP ?_ ?_ ?_ ?_ ?_ ?_ ?_ ?_ ?_ ?_ <;> intros <;> first | (exfalso; omega) | exact k _ hI0
    · refine ⟨fun r M1 => r = -1002 ∧ M1 = M, fun Q k => ?_, fun r M1 hR => ?_⟩
      · refine t_BW_copy_0 hP ?_ ?_ ?_ ?_ ?_ ?_ ?_ ?_ ?_ <;> intros <;> first | (exfalso; omega) | exact k _ _ ⟨rfl, rfl⟩
      · obtain ⟨rfl, rfl⟩ := hR
        refine ⟨hI0.ro, fun Q k => ?_⟩
        refine t_Mo_copy_0 hP ?_ ?_ ?_ ?_ ?_ ?_ ?_ ?_ ?_ ?_ <;> intros <;> first | (exfalso; omega) | exact k _ hI0 | (refine t_Mo_copy_29 hP ?_; exact k _ hI0)
  · refine ⟨fun r M1 => r = -1001 ∧ M1 = M, fun Q k => ?_, fun r M1 hR => ?_⟩
    · refine t_BW_copy_0 hP ?_ ?_ ?_ ?_ ?_ ?_ ?_ ?_ ?_ <;> intros <;> first | (exfalso; omega) | exact k _ _ ⟨rfl, rfl⟩ | (refine t_BW_copy_10 hP ?_; exact k _ _ ⟨rfl, rfl⟩)
    · obtain ⟨rfl, rfl⟩ := hR
      refine ⟨hI0.ro, fun Q k => ?_⟩
      refine t_Mo_copy_0 hP ?_ ?_ ?_ ?_ ?_ ?_ ?_ ?_ ?_ ?_ <;> intros <;> first | (exfalso; omega) | exact k _ hI0 | (refine t_Mo_copy_8 hP ?_; exact k _ hI0)
end TX2
