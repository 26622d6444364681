/-! THE START HOLDS WHAT EVERY CALL KEEPS; the law from its entry to its loop -/
theorem lk_lex (E : Mm_) (c j : Int) : ∀ n : Nat, lookE E (Llex n) c j = if c = 24 ∧ 0 ≤ j ∧ j < n then j else if c = 25 ∧ 0 ≤ j ∧ j < n then 1 else E c j
  | 0 => by
    rw [if_neg (by omega), if_neg (by omega)]
    rfl
  | n + 1 => by
    show (if c = 25 ∧ j = (n : Int) then 1 else if c = 24 ∧ j = (n : Int) then (n : Int) else lookE E (Llex n) c j) = _
    rw [lk_lex E c j n]
    by_cases h1 : c = 25 ∧ j = (n : Int)
    · rw [if_pos h1, if_neg (by omega), if_pos (by omega)]
    · rw [if_neg h1]
      by_cases h2 : c = 24 ∧ j = (n : Int)
      · rw [if_pos h2, if_pos (by omega)]
        omega
      · rw [if_neg h2]
        by_cases h3 : c = 24 ∧ 0 ≤ j ∧ j < n
        · rw [if_pos h3, if_pos (by omega)]
        · rw [if_neg h3, if_neg (c := c = 24 ∧ 0 ≤ j ∧ j < ((n + 1 : Nat) : Int)) (by omega)]
          by_cases h4 : c = 25 ∧ 0 ≤ j ∧ j < n
          · rw [if_pos h4, if_pos (by omega)]
          · rw [if_neg h4, if_neg (by omega)]
theorem lk_mo (E : Mm_) (r : Lg_) (c j : Int) : ∀ n : Nat, lookE E (Lmo r n) c j = if c = 118 ∧ 0 ≤ j ∧ j < n then j else lookE E r c j
  | 0 => by
    rw [if_neg (by omega)]
    rfl
  | n + 1 => by
    show (if c = 118 ∧ j = (n : Int) then (n : Int) else lookE E (Lmo r n) c j) = _
    rw [lk_mo E r c j n]
    by_cases h2 : c = 118 ∧ j = (n : Int)
    · rw [if_pos h2, if_pos (by omega)]
      omega
    · rw [if_neg h2]
      by_cases h3 : c = 118 ∧ 0 ≤ j ∧ j < n
      · rw [if_pos h3, if_pos (by omega)]
      · rw [if_neg h3, if_neg (by omega)]
theorem gc1 {R : Int → Int} (hR : ∀ v, 1 ≤ v ∧ v ≤ 200 → R v = v) {w : Int} (hw : 1 ≤ w) : ∀ n : Nat, n ≤ 200 → (cntB (fun v => decide (R (v + 1) = w)) n : Int) = if w ≤ n then 1 else 0
  | 0, _ => by
    rw [if_neg (by omega)]
    rfl
  | n + 1, h => by
    have ih := gc1 hR hw n (by omega)
    have e := hR ((n : Int) + 1) (by omega)
    by_cases g : (n : Int) + 1 = w
    · rw [cntB_t (p := fun v => decide (R (v + 1) = w)) (decide_eq_true (e.trans g)), if_pos (by omega)]
      rw [if_neg (by omega)] at ih
      omega
    · rw [cntB_f (p := fun v => decide (R (v + 1) = w)) (fun q => g (e.symm.trans (of_decide_eq_true q))), ih]
      by_cases k : w ≤ n
      · rw [if_pos k, if_pos (by omega)]
      · rw [if_neg k, if_neg (by omega)]
def E0 (L : Nat) (xs : Nat → Int32) : Mm_ := fun c j => if c < 0 then RMx L xs c j else 0
section BG
variable {P : Jg_} {L : Nat} {xs : Nat → Int32}
theorem INV_0 {M : Mm_} (h : Mr (E0 L xs) (Lmo ((112, 24, -1) :: lgB) 201) 141 M) : INV L xs M := by
  have F : ∀ c j, c < 141 → M c j = if c = 118 ∧ 0 ≤ j ∧ j < 201 then j else if c = 112 ∧ j = 24 then -1 else if c = 47 ∧ j = 9 then -1 else if c = 32 ∧ j = 6 then -1 else if c = 24 ∧ 0 ≤ j ∧ j < 201 then j else if c = 25 ∧ 0 ≤ j ∧ j < 201 then 1 else E0 L xs c j := by
    intro c j hc
    rw [h.1 c j hc, lk_mo]
    show (if _ then j else if c = 112 ∧ j = 24 then -1 else if c = 47 ∧ j = 9 then -1 else if c = 32 ∧ j = 6 then -1 else lookE (E0 L xs) (Llex 201) c j) = _
    rw [lk_lex]
    rfl
  have z : ∀ c j, 0 ≤ c ∧ c < 141 ∧ c ≠ 118 ∧ c ≠ 24 ∧ c ≠ 25 ∧ ¬ (c = 112 ∧ j = 24) ∧ ¬ (c = 47 ∧ j = 9) ∧ ¬ (c = 32 ∧ j = 6) → M c j = 0 := by
    intro c j hc
    rw [F c j (by omega), if_neg (by omega), if_neg (by omega), if_neg (by omega), if_neg (by omega), if_neg (by omega), if_neg (by omega)]
    unfold E0
    rw [if_neg (by omega)]
  have ng : ∀ c, c < 0 → M c = RMx L xs c := by
    intro c hc
    refine funext fun j => ?_
    rw [F c j (by omega), if_neg (by omega), if_neg (by omega), if_neg (by omega), if_neg (by omega), if_neg (by omega), if_neg (by omega)]
    unfold E0
    rw [if_pos hc]
  have e118 : ∀ w, 1 ≤ w ∧ w ≤ 200 → M 118 w = w := fun w hw => by
    rw [F 118 w (by omega), if_pos (by omega)]
  have e24 : ∀ w, 1 ≤ w ∧ w ≤ 200 → M 24 w = w := fun w hw => by
    rw [F 24 w (by omega), if_neg (by omega), if_neg (by omega), if_neg (by omega), if_neg (by omega), if_pos (by omega)]
  have e25 : ∀ w, 1 ≤ w ∧ w ≤ 200 → M 25 w = 1 := fun w hw => by
    rw [F 25 w (by omega), if_neg (by omega), if_neg (by omega), if_neg (by omega), if_neg (by omega), if_neg (by omega), if_pos (by omega)]
  have e47 : M 47 9 = -1 := by
    rw [F 47 9 (by omega), if_neg (by omega), if_neg (by omega), if_pos (by omega)]
  have e32 : M 32 6 = -1 := by
    rw [F 32 6 (by omega), if_neg (by omega), if_neg (by omega), if_neg (by omega), if_pos (by omega)]
  have e112 : M 112 24 = -1 := by
    rw [F 112 24 (by omega), if_neg (by omega), if_pos (by omega)]
  have a0 := z 112 0 (by omega)
  have a14 := z 112 14 (by omega)
  have a17 := z 112 17 (by omega)
  have a9 := z 112 9 (by omega)
  have a23 := z 112 23 (by omega)
  have a8 := z 112 8 (by omega)
  have b1 := z 1 1 (by omega)
  have b35 := z 35 3 (by omega)
  have b27 := z 27 5 (by omega)
  have b32 := z 32 3 (by omega)
  have b70 := z 70 5 (by omega)
  have c125 : ∀ j, M 125 j = 0 := fun j => z 125 j (by omega)
  have c115 : ∀ j, M 115 j = 0 := fun j => z 115 j (by omega)
  have c114 : ∀ j, M 114 j = 0 := fun j => z 114 j (by omega)
  have c113 : ∀ j, M 113 j = 0 := fun j => z 113 j (by omega)
  have c117 : ∀ j, M 117 j = 0 := fun j => z 117 j (by omega)
  have c119 : ∀ j, M 119 j = 0 := fun j => z 119 j (by omega)
  have c26 : ∀ j, M 26 j = 0 := fun j => z 26 j (by omega)
  refine ⟨M, M, Sc.refl M, ⟨ng, ?_, ?_, ?_⟩, Ca_0 e47 b70 a8, Sn.refl M, ?_⟩
  · refine ⟨⟨by omega, by omega, by omega, fun x hx => c115 x⟩, fun x hx => ?_, fun x i hx hi => ?_⟩
    · rw [c115, c114, c113, z (3 + 2 * x) 4 (by omega), z (3 + 2 * x) 3 (by omega), z (3 + 2 * x) 2 (by omega)]
      omega
    · rw [c115] at hi
      omega
  · refine ⟨fun w hw => ?_, fun v w hv hw => ?_⟩
    · have g := gc1 e24 hw.1 200 (Nat.le_refl _)
      rw [if_pos (by omega)] at g
      rw [e24 w hw, e25 w hw, c26, c119]
      refine ⟨hw, ?_, rfl, Or.inl rfl⟩
      exact g.symm
    · rw [e24 v hv, e24 w hw, e118 v hv, e118 w hw]
  · refine ⟨⟨by omega, by omega, by omega, ?_⟩, fun r hr => ?_, fun r hr => ?_, fun c hc => ?_⟩
    · rw [c125, a17]
    · rw [a14] at hr
      omega
    · rw [c125]
      omega
    · rw [a17] at hc
      omega
  · refine ⟨fun x hx => ?_, fun j => Or.inl (c117 j), ⟨by omega, by omega, by omega⟩, fun m hm => ?_, ⟨by omega, by omega, by omega, by omega⟩, fun i hi => ?_⟩
    · rw [c115, z (3 + 2 * x) 1 (by omega)]
      rfl
    · rw [a9] at hm
      omega
    · rw [a23] at hi
      omega
set_option maxRecDepth 20000 in
theorem law_init (hP : Clo P) {Q : Qp_} (k : ∀ M, INV L xs M → P 210 10 [some (2, (-2)), some (2, 0), some (2, 112), some (0, 0)] [] WF M (141, 13062) Q) : P 210 0 [some (2, -2), none, none, none] [] [] (RMx L xs) (0, 0) Q := by
  have s0 : (codeOf 210)[0]? = some (.new 7, 0, 11, 10, 0, [600000, 7302250]) := rfl
  have s1 : (codeOf 210)[1]? = some (.dup, 3, 0, 0, 0, []) := rfl
  have s2 : (codeOf 210)[2]? = some (.invokespecial 9, 4, 11, 0, 0, [1, 111, 5045, 600000, 7302250]) := rfl
  have s3 : (codeOf 210)[3]? = some (.astore_n 1, 7, 1, 0, 0, []) := rfl
  have s4 : (codeOf 210)[4]? = some (.new 10, 8, 12, 42, 0, [600000, 7302250]) := rfl
  have s5 : (codeOf 210)[5]? = some (.dup, 11, 0, 0, 0, []) := rfl
  have s6 : (codeOf 210)[6]? = some (.invokespecial 12, 12, 12, 0, 0, [1, 28, 7965, 600000, 7302250]) := rfl
  have m0 : Mr (E0 L xs) [] (([] : Wd_).length : Int) (RMx L xs) := by
    refine ⟨fun c j hc => ?_, fun c j hc => ?_⟩
    · have hc : c < 0 := hc
      show RMx L xs c j = if c < 0 then RMx L xs c j else 0
      rw [if_pos hc]
    · have hc : 0 ≤ c := hc
      show (if c < 0 then RMx L xs c j else 0) = 0
      rw [if_neg (by omega)]
  refine hP.2.2 210 0 _ _ _ _ _ Q _ s0 ?_
  show P 210 1 [some (2, -2), none, none, none] [(2, 0)] [(0, 11, List.replicate 10 (-1))] (zeroM (RMx L xs) (([] : Wd_).length : Int)) (1, 10) Q
  refine hP.2.2 210 1 _ _ _ _ _ Q _ s1 ?_
  show P 210 2 [some (2, -2), none, none, none] [(2, 0), (2, 0)] [(0, 11, List.replicate 10 (-1))] (zeroM (RMx L xs) (([] : Wd_).length : Int)) (1, 10) Q
  refine hP.2.2 210 2 _ _ _ _ _ Q _ s2 ?_
  show (0 : Int) ≤ 0 ∧ P 11 0 (entL [(2, 0)] (mxL 11)) [] [(0, 11, List.replicate 10 (-1))] (zeroM (RMx L xs) (([] : Wd_).length : Int)) (0, 0) (fun v w' M' => P 210 3 [some (2, -2), none, none, none] (v.toList ++ [(2, 0)]) w' M' (112, 5055) Q)
  refine ⟨by decide, ?_⟩
  refine ev_ok hP (E0 L xs) 3300 11 0 (entL [(2, 0)] (mxL 11)) [] [(0, 11, List.replicate 10 (-1))] [] (0, 0) (WF.take 112, lgB) _ _ ev_BW (m0.z (0, 11, List.replicate 10 (-1))) (fun M1 h1 => ?_)
  show P 210 3 [some (2, -2), none, none, none] [(2, 0)] (WF.take 112) M1 (112, 5055) Q
  refine hP.2.2 210 3 _ _ _ _ _ Q _ s3 ?_
  show P 210 4 [some (2, -2), some (2, 0), none, none] [] (WF.take 112) M1 (112, 5055) Q
  refine hP.2.2 210 4 _ _ _ _ _ Q _ s4 ?_
  show P 210 5 [some (2, -2), some (2, 0), none, none] [(2, 112)] (WF.take 112 ++ [(0, 12, List.replicate 42 (-1))]) (zeroM M1 ((WF.take 112).length : Int)) (113, 5097) Q
  refine hP.2.2 210 5 _ _ _ _ _ Q _ s5 ?_
  show P 210 6 [some (2, -2), some (2, 0), none, none] [(2, 112), (2, 112)] (WF.take 112 ++ [(0, 12, List.replicate 42 (-1))]) (zeroM M1 ((WF.take 112).length : Int)) (113, 5097) Q
  refine hP.2.2 210 6 _ _ _ _ _ Q _ s6 ?_
  show (0 : Int) ≤ 112 ∧ P 12 0 (entL [(2, 112)] (mxL 12)) [] (WF.take 112 ++ [(0, 12, List.replicate 42 (-1))]) (zeroM M1 ((WF.take 112).length : Int)) (0, 0) (fun v w' M' => P 210 7 [some (2, -2), some (2, 0), none, none] (v.toList ++ [(2, 112)]) w' M' (141, 13062) Q)
  refine ⟨by decide, ?_⟩
  refine ev_ok hP (E0 L xs) 2300 12 0 (entL [(2, 112)] (mxL 12)) [] (WF.take 112 ++ [(0, 12, List.replicate 42 (-1))]) lgB (0, 0) (WF, Lmo ((112, 24, -1) :: lgB) 201) _ _ ev_Mo (h1.z (0, 12, List.replicate 42 (-1))) (fun M2 h2 => ?_)
  show P 210 7 [some (2, -2), some (2, 0), none, none] [(2, 112)] WF M2 (141, 13062) Q
  exact t_Law_law_7 hP (k M2 (INV_0 h2))
theorem law_all (hP : Clo P) (hL : L ≤ 2560) : P LAWI 0 [some (2, -2), none, none, none] [] [] (RMx L xs) (0, 0) (fun v _ _ => v = some (0, 1)) :=
  law_init hP fun M hI => law_loop hP hL (fun _ => rfl) (L - 0 : Int).toNat 0 M (Nat.le_refl _) (by omega) hI
end BG
