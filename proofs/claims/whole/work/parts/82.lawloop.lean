/-! THE LAW'S LOOP -/
section LL
variable {P : Jg_} {L : Nat} {xs : Nat → Int32}
theorem two_go {i1 i2 : Nat} {l1 l2 : Lc_} (h : Two P L xs i1 l1 i2 l2) {M : Mm_} (hI : INV L xs M) {Q1 : Qp_} (k : ∀ r M1, M1 (-2) = RMx L xs (-2) → (∀ Q2 : Qp_, (∀ M2, INV L xs M2 → Q2 (some (0, r)) WF M2) → P i2 0 l2 [] WF M1 (0, 0) Q2) → Q1 (some (0, r)) WF M1) : P i1 0 l1 [] WF M (0, 0) Q1 := by
  obtain ⟨R, h1, h2⟩ := h M hI
  exact h1 Q1 fun r M1 hR => k r M1 (h2 r M1 hR).1 (h2 r M1 hR).2
theorem RMx_L : RMx L xs (-2) (-1) = (L : Int) := rfl
theorem law_text (hP : Clo P) {M : Mm_} {x3 : Int} (hL : L ≤ 2560) (hI : INV L xs M) (hx : 0 ≤ x3 ∧ x3 + 5 ≤ L) {Q : Qp_} (nx : ∀ M2, INV L xs M2 → P 210 907 [some (2, (-2)), some (2, 0), some (2, 112), some (0, x3)] [] WF M2 (141, 13062) Q) : P 210 22 [some (2, (-2)), some (2, 0), some (2, 112), some (0, x3)] [] WF M (141, 13062) Q := by
  have ro := hI.ro
  have eL : M (-2) (-1) = (L : Int) := by rw [ro]; rfl
  refine t_Law_law_22 hP ?_
  rw [ro]
  refine two_go (tw_text hP) hI fun r M1 e1 k2 => ?_
  have eL1 : M1 (-2) (-1) = (L : Int) := by rw [e1]; rfl
  refine t_Law_law_34 hP ?_
  rw [e1]
  exact k2 _ fun M2 hI2 => t_Law_law_46 hP (fun _ => nx M2 hI2) (fun q => absurd rfl q)
theorem law_word (hP : Clo P) {M : Mm_} {x3 : Int} (hL : L ≤ 2560) (hI : INV L xs M) (hx : 0 ≤ x3 ∧ x3 + 5 ≤ L) {Q : Qp_} (nx : ∀ M2, INV L xs M2 → P 210 907 [some (2, (-2)), some (2, 0), some (2, 112), some (0, x3)] [] WF M2 (141, 13062) Q) : P 210 49 [some (2, (-2)), some (2, 0), some (2, 112), some (0, x3)] [] WF M (141, 13062) Q := by
  have ro := hI.ro
  have eL : M (-2) (-1) = (L : Int) := by rw [ro]; rfl
  refine t_Law_law_49 hP ?_
  rw [ro]
  refine two_go (tw_word hP) hI fun r M1 e1 k2 => ?_
  have eL1 : M1 (-2) (-1) = (L : Int) := by rw [e1]; rfl
  refine t_Law_law_61 hP ?_
  rw [e1]
  exact k2 _ fun M2 hI2 => t_Law_law_73 hP (fun _ => nx M2 hI2) (fun q => absurd rfl q)
theorem law_stop (hP : Clo P) {M : Mm_} {x3 : Int} (hL : L ≤ 2560) (hI : INV L xs M) (hx : 0 ≤ x3 ∧ x3 + 5 ≤ L) {Q : Qp_} (nx : ∀ M2, INV L xs M2 → P 210 907 [some (2, (-2)), some (2, 0), some (2, 112), some (0, x3)] [] WF M2 (141, 13062) Q) : P 210 76 [some (2, (-2)), some (2, 0), some (2, 112), some (0, x3)] [] WF M (141, 13062) Q := by
  have ro := hI.ro
  have eL : M (-2) (-1) = (L : Int) := by rw [ro]; rfl
  refine t_Law_law_76 hP ?_
  rw [ro]
  refine two_go (tw_stop hP) hI fun r M1 e1 k2 => ?_
  have eL1 : M1 (-2) (-1) = (L : Int) := by rw [e1]; rfl
  refine t_Law_law_83 hP ?_
  rw [e1]
  exact k2 _ fun M2 hI2 => t_Law_law_90 hP (fun _ => nx M2 hI2) (fun q => absurd rfl q)
theorem law_copy (hP : Clo P) {M : Mm_} {x3 : Int} (hL : L ≤ 2560) (hI : INV L xs M) (hx : 0 ≤ x3 ∧ x3 + 5 ≤ L) {Q : Qp_} (nx : ∀ M2, INV L xs M2 → P 210 907 [some (2, (-2)), some (2, 0), some (2, 112), some (0, x3)] [] WF M2 (141, 13062) Q) : P 210 93 [some (2, (-2)), some (2, 0), some (2, 112), some (0, x3)] [] WF M (141, 13062) Q := by
  have ro := hI.ro
  have eL : M (-2) (-1) = (L : Int) := by rw [ro]; rfl
  refine t_Law_law_93 hP ?_
  rw [ro]
  refine two_go (tw_copy hP) hI fun r M1 e1 k2 => ?_
  have eL1 : M1 (-2) (-1) = (L : Int) := by rw [e1]; rfl
  refine t_Law_law_115 hP ?_
  rw [e1]
  exact k2 _ fun M2 hI2 => t_Law_law_137 hP (fun _ => nx M2 hI2) (fun q => absurd rfl q)
theorem law_about (hP : Clo P) {M : Mm_} {x3 : Int} (hL : L ≤ 2560) (hI : INV L xs M) (hx : 0 ≤ x3 ∧ x3 + 5 ≤ L) {Q : Qp_} (nx : ∀ M2, INV L xs M2 → P 210 907 [some (2, (-2)), some (2, 0), some (2, 112), some (0, x3)] [] WF M2 (141, 13062) Q) : P 210 140 [some (2, (-2)), some (2, 0), some (2, 112), some (0, x3)] [] WF M (141, 13062) Q := by
  have ro := hI.ro
  have eL : M (-2) (-1) = (L : Int) := by rw [ro]; rfl
  refine t_Law_law_140 hP ?_
  rw [ro]
  refine two_go (tw_about hP) hI fun r M1 e1 k2 => ?_
  have eL1 : M1 (-2) (-1) = (L : Int) := by rw [e1]; rfl
  refine t_Law_law_152 hP ?_
  rw [e1]
  exact k2 _ fun M2 hI2 => t_Law_law_164 hP (fun _ => nx M2 hI2) (fun q => absurd rfl q)
theorem law_at (hP : Clo P) {M : Mm_} {x3 : Int} (hL : L ≤ 2560) (hI : INV L xs M) (hx : 0 ≤ x3 ∧ x3 + 5 ≤ L) {Q : Qp_} (nx : ∀ M2, INV L xs M2 → P 210 907 [some (2, (-2)), some (2, 0), some (2, 112), some (0, x3)] [] WF M2 (141, 13062) Q) : P 210 167 [some (2, (-2)), some (2, 0), some (2, 112), some (0, x3)] [] WF M (141, 13062) Q := by
  have ro := hI.ro
  have eL : M (-2) (-1) = (L : Int) := by rw [ro]; rfl
  refine t_Law_law_167 hP ?_
  rw [ro]
  refine two_go (tw_at hP) hI fun r M1 e1 k2 => ?_
  have eL1 : M1 (-2) (-1) = (L : Int) := by rw [e1]; rfl
  refine t_Law_law_179 hP ?_
  rw [e1]
  exact k2 _ fun M2 hI2 => t_Law_law_191 hP (fun _ => nx M2 hI2) (fun q => absurd rfl q)
theorem law_same (hP : Clo P) {M : Mm_} {x3 : Int} (hL : L ≤ 2560) (hI : INV L xs M) (hx : 0 ≤ x3 ∧ x3 + 5 ≤ L) {Q : Qp_} (nx : ∀ M2, INV L xs M2 → P 210 907 [some (2, (-2)), some (2, 0), some (2, 112), some (0, x3)] [] WF M2 (141, 13062) Q) : P 210 194 [some (2, (-2)), some (2, 0), some (2, 112), some (0, x3)] [] WF M (141, 13062) Q := by
  have ro := hI.ro
  have eL : M (-2) (-1) = (L : Int) := by rw [ro]; rfl
  refine t_Law_law_194 hP ?_
  rw [ro]
  refine two_go (tw_same hP) hI fun r M1 e1 k2 => ?_
  have eL1 : M1 (-2) (-1) = (L : Int) := by rw [e1]; rfl
  refine t_Law_law_206 hP ?_
  rw [e1]
  exact k2 _ fun M2 hI2 => t_Law_law_218 hP (fun _ => nx M2 hI2) (fun q => absurd rfl q)
theorem law_common (hP : Clo P) {M : Mm_} {x3 : Int} (hL : L ≤ 2560) (hI : INV L xs M) (hx : 0 ≤ x3 ∧ x3 + 5 ≤ L) {Q : Qp_} (nx : ∀ M2, INV L xs M2 → P 210 907 [some (2, (-2)), some (2, 0), some (2, 112), some (0, x3)] [] WF M2 (141, 13062) Q) : P 210 221 [some (2, (-2)), some (2, 0), some (2, 112), some (0, x3)] [] WF M (141, 13062) Q := by
  have ro := hI.ro
  have eL : M (-2) (-1) = (L : Int) := by rw [ro]; rfl
  by_cases z : RMx L xs (-2) (x3 + 2) = 0
  · refine t_Law_law_221 hP (fun _ => ?_) (fun q => absurd (by rw [ro]; exact z) q)
    rw [ro]
    refine two_go (tw_common hP (Or.inl rfl)) hI fun r M1 e1 k2 => ?_
    have eL1 : M1 (-2) (-1) = (L : Int) := by rw [e1]; rfl
    refine t_Law_law_237 hP (fun _ => ?_) (fun q => absurd (by rw [e1]; exact z) q)
    rw [e1]
    exact k2 _ fun M2 hI2 => t_Law_law_253 hP (fun _ => nx M2 hI2) (fun q => absurd rfl q)
  · refine t_Law_law_221 hP (fun q => absurd (by rw [ro] at q; exact q) z) (fun _ => ?_)
    rw [ro]
    refine two_go (tw_common hP (Or.inr rfl)) hI fun r M1 e1 k2 => ?_
    have eL1 : M1 (-2) (-1) = (L : Int) := by rw [e1]; rfl
    refine t_Law_law_237 hP (fun q => absurd (by rw [e1] at q; exact q) z) (fun _ => ?_)
    rw [e1]
    exact k2 _ fun M2 hI2 => t_Law_law_253 hP (fun _ => nx M2 hI2) (fun q => absurd rfl q)
theorem law_mark (hP : Clo P) {M : Mm_} {x3 : Int} (hL : L ≤ 2560) (hI : INV L xs M) (hx : 0 ≤ x3 ∧ x3 + 5 ≤ L) {Q : Qp_} (nx : ∀ M2, INV L xs M2 → P 210 907 [some (2, (-2)), some (2, 0), some (2, 112), some (0, x3)] [] WF M2 (141, 13062) Q) : P 210 256 [some (2, (-2)), some (2, 0), some (2, 112), some (0, x3)] [] WF M (141, 13062) Q := by
  have ro := hI.ro
  have eL : M (-2) (-1) = (L : Int) := by rw [ro]; rfl
  refine t_Law_law_256 hP ?_
  rw [ro]
  refine two_go (tw_mark hP) hI fun r M1 e1 k2 => ?_
  have eL1 : M1 (-2) (-1) = (L : Int) := by rw [e1]; rfl
  refine t_Law_law_278 hP ?_
  rw [e1]
  exact k2 _ fun M2 hI2 => t_Law_law_300 hP (fun _ => nx M2 hI2) (fun q => absurd rfl q)
theorem law_stands (hP : Clo P) {M : Mm_} {x3 : Int} (hL : L ≤ 2560) (hI : INV L xs M) (hx : 0 ≤ x3 ∧ x3 + 5 ≤ L) {Q : Qp_} (nx : ∀ M2, INV L xs M2 → P 210 907 [some (2, (-2)), some (2, 0), some (2, 112), some (0, x3)] [] WF M2 (141, 13062) Q) : P 210 303 [some (2, (-2)), some (2, 0), some (2, 112), some (0, x3)] [] WF M (141, 13062) Q := by
  have ro := hI.ro
  have eL : M (-2) (-1) = (L : Int) := by rw [ro]; rfl
  refine t_Law_law_303 hP ?_
  rw [ro]
  refine two_go (tw_stands hP) hI fun r M1 e1 k2 => ?_
  have eL1 : M1 (-2) (-1) = (L : Int) := by rw [e1]; rfl
  refine t_Law_law_310 hP ?_
  rw [e1]
  exact k2 _ fun M2 hI2 => t_Law_law_317 hP (fun _ => nx M2 hI2) (fun q => absurd rfl q)
theorem law_count (hP : Clo P) {M : Mm_} {x3 : Int} (hL : L ≤ 2560) (hI : INV L xs M) (hx : 0 ≤ x3 ∧ x3 + 5 ≤ L) {Q : Qp_} (nx : ∀ M2, INV L xs M2 → P 210 907 [some (2, (-2)), some (2, 0), some (2, 112), some (0, x3)] [] WF M2 (141, 13062) Q) : P 210 320 [some (2, (-2)), some (2, 0), some (2, 112), some (0, x3)] [] WF M (141, 13062) Q := by
  have ro := hI.ro
  have eL : M (-2) (-1) = (L : Int) := by rw [ro]; rfl
  refine t_Law_law_320 hP ?_
  rw [ro]
  refine two_go (tw_count hP) hI fun r M1 e1 k2 => ?_
  have eL1 : M1 (-2) (-1) = (L : Int) := by rw [e1]; rfl
  refine t_Law_law_327 hP ?_
  rw [e1]
  exact k2 _ fun M2 hI2 => t_Law_law_334 hP (fun _ => nx M2 hI2) (fun q => absurd rfl q)
theorem law_feed (hP : Clo P) {M : Mm_} {x3 : Int} (hL : L ≤ 2560) (hI : INV L xs M) (hx : 0 ≤ x3 ∧ x3 + 5 ≤ L) {Q : Qp_} (nx : ∀ M2, INV L xs M2 → P 210 907 [some (2, (-2)), some (2, 0), some (2, 112), some (0, x3)] [] WF M2 (141, 13062) Q) : P 210 337 [some (2, (-2)), some (2, 0), some (2, 112), some (0, x3)] [] WF M (141, 13062) Q := by
  have ro := hI.ro
  have eL : M (-2) (-1) = (L : Int) := by rw [ro]; rfl
  refine t_Law_law_337 hP (t_Law_law_351 hP (t_Law_law_357 hP (t_Law_law_359 hP ?_)))
  rw [ro]
  refine two_go (tw_feed hP) hI fun r M1 e1 k2 => ?_
  have eL1 : M1 (-2) (-1) = (L : Int) := by rw [e1]; rfl
  refine t_Law_law_361 hP (t_Law_law_375 hP (t_Law_law_381 hP (t_Law_law_383 hP ?_)))
  rw [e1]
  exact k2 _ fun M2 hI2 => t_Law_law_385 hP (fun _ => nx M2 hI2) (fun q => absurd rfl q)
theorem law_rule (hP : Clo P) {M : Mm_} {x3 : Int} (hL : L ≤ 2560) (hI : INV L xs M) (hx : 0 ≤ x3 ∧ x3 + 5 ≤ L) {Q : Qp_} (nx : ∀ M2, INV L xs M2 → P 210 907 [some (2, (-2)), some (2, 0), some (2, 112), some (0, x3)] [] WF M2 (141, 13062) Q) : P 210 388 [some (2, (-2)), some (2, 0), some (2, 112), some (0, x3)] [] WF M (141, 13062) Q := by
  have ro := hI.ro
  have eL : M (-2) (-1) = (L : Int) := by rw [ro]; rfl
  refine t_Law_law_388 hP ?_
  rw [ro]
  refine two_go (tw_rule hP) hI fun r M1 e1 k2 => ?_
  have eL1 : M1 (-2) (-1) = (L : Int) := by rw [e1]; rfl
  refine t_Law_law_395 hP ?_
  rw [e1]
  exact k2 _ fun M2 hI2 => t_Law_law_402 hP (fun _ => nx M2 hI2) (fun q => absurd rfl q)
theorem law_fault (hP : Clo P) {M : Mm_} {x3 : Int} (hL : L ≤ 2560) (hI : INV L xs M) (hx : 0 ≤ x3 ∧ x3 + 5 ≤ L) {Q : Qp_} (nx : ∀ M2, INV L xs M2 → P 210 907 [some (2, (-2)), some (2, 0), some (2, 112), some (0, x3)] [] WF M2 (141, 13062) Q) : P 210 405 [some (2, (-2)), some (2, 0), some (2, 112), some (0, x3)] [] WF M (141, 13062) Q := by
  have ro := hI.ro
  have eL : M (-2) (-1) = (L : Int) := by rw [ro]; rfl
  have e : M 32 6 = M 112 24 := by
    obtain ⟨A, B, hS, hW, hC, hSn, hN⟩ := hI
    exact ((congrFun (hSn.r 32) 6).trans hN.2.2.2.2.1.2.2.2).trans (hSn 112 24 (by unfold Pn; omega)).symm
  exact t_Law_law_405 hP (fun _ => nx M hI) (fun q => absurd e q)
theorem law_force (hP : Clo P) {M : Mm_} {x3 : Int} (hL : L ≤ 2560) (hI : INV L xs M) (hx : 0 ≤ x3 ∧ x3 + 5 ≤ L) {Q : Qp_} (nx : ∀ M2, INV L xs M2 → P 210 907 [some (2, (-2)), some (2, 0), some (2, 112), some (0, x3)] [] WF M2 (141, 13062) Q) : P 210 412 [some (2, (-2)), some (2, 0), some (2, 112), some (0, x3)] [] WF M (141, 13062) Q := by
  have ro := hI.ro
  have eL : M (-2) (-1) = (L : Int) := by rw [ro]; rfl
  refine t_Law_law_412 hP ?_
  rw [ro]
  refine two_go (tw_force hP) hI fun r M1 e1 k2 => ?_
  have eL1 : M1 (-2) (-1) = (L : Int) := by rw [e1]; rfl
  refine t_Law_law_424 hP ?_
  rw [e1]
  exact k2 _ fun M2 hI2 => t_Law_law_436 hP (fun _ => nx M2 hI2) (fun q => absurd rfl q)
theorem law_sources (hP : Clo P) {M : Mm_} {x3 : Int} (hL : L ≤ 2560) (hI : INV L xs M) (hx : 0 ≤ x3 ∧ x3 + 5 ≤ L) {Q : Qp_} (nx : ∀ M2, INV L xs M2 → P 210 907 [some (2, (-2)), some (2, 0), some (2, 112), some (0, x3)] [] WF M2 (141, 13062) Q) : P 210 439 [some (2, (-2)), some (2, 0), some (2, 112), some (0, x3)] [] WF M (141, 13062) Q := by
  have ro := hI.ro
  have eL : M (-2) (-1) = (L : Int) := by rw [ro]; rfl
  refine t_Law_law_439 hP ?_
  rw [ro]
  refine two_go (tw_sources hP) hI fun r M1 e1 k2 => ?_
  have eL1 : M1 (-2) (-1) = (L : Int) := by rw [e1]; rfl
  refine t_Law_law_451 hP ?_
  rw [e1]
  exact k2 _ fun M2 hI2 => t_Law_law_463 hP (fun _ => nx M2 hI2) (fun q => absurd rfl q)
theorem law_reach (hP : Clo P) {M : Mm_} {x3 : Int} (hL : L ≤ 2560) (hI : INV L xs M) (hx : 0 ≤ x3 ∧ x3 + 5 ≤ L) {Q : Qp_} (nx : ∀ M2, INV L xs M2 → P 210 907 [some (2, (-2)), some (2, 0), some (2, 112), some (0, x3)] [] WF M2 (141, 13062) Q) : P 210 466 [some (2, (-2)), some (2, 0), some (2, 112), some (0, x3)] [] WF M (141, 13062) Q := by
  have ro := hI.ro
  have eL : M (-2) (-1) = (L : Int) := by rw [ro]; rfl
  refine t_Law_law_466 hP ?_
  rw [ro]
  refine two_go (tw_reach hP) hI fun r M1 e1 k2 => ?_
  have eL1 : M1 (-2) (-1) = (L : Int) := by rw [e1]; rfl
  refine t_Law_law_488 hP ?_
  rw [e1]
  exact k2 _ fun M2 hI2 => t_Law_law_510 hP (fun _ => nx M2 hI2) (fun q => absurd rfl q)
theorem law_piece (hP : Clo P) {M : Mm_} {x3 : Int} (hL : L ≤ 2560) (hI : INV L xs M) (hx : 0 ≤ x3 ∧ x3 + 5 ≤ L) {Q : Qp_} (nx : ∀ M2, INV L xs M2 → P 210 907 [some (2, (-2)), some (2, 0), some (2, 112), some (0, x3)] [] WF M2 (141, 13062) Q) : P 210 513 [some (2, (-2)), some (2, 0), some (2, 112), some (0, x3)] [] WF M (141, 13062) Q := by
  have ro := hI.ro
  have eL : M (-2) (-1) = (L : Int) := by rw [ro]; rfl
  refine t_Law_law_513 hP ?_
  rw [ro]
  refine two_go (tw_piece hP (RMx_in hL xs _ _).2) hI fun r M1 e1 k2 => ?_
  have eL1 : M1 (-2) (-1) = (L : Int) := by rw [e1]; rfl
  refine t_Law_law_535 hP ?_
  rw [e1]
  exact k2 _ fun M2 hI2 => t_Law_law_557 hP (fun _ => nx M2 hI2) (fun q => absurd rfl q)
theorem law_judged (hP : Clo P) {M : Mm_} {x3 : Int} (hL : L ≤ 2560) (hI : INV L xs M) (hx : 0 ≤ x3 ∧ x3 + 5 ≤ L) {Q : Qp_} (nx : ∀ M2, INV L xs M2 → P 210 907 [some (2, (-2)), some (2, 0), some (2, 112), some (0, x3)] [] WF M2 (141, 13062) Q) : P 210 560 [some (2, (-2)), some (2, 0), some (2, 112), some (0, x3)] [] WF M (141, 13062) Q := by
  have ro := hI.ro
  have eL : M (-2) (-1) = (L : Int) := by rw [ro]; rfl
  refine t_Law_law_560 hP ?_
  rw [ro]
  refine two_go (tw_judged hP) hI fun r M1 e1 k2 => ?_
  have eL1 : M1 (-2) (-1) = (L : Int) := by rw [e1]; rfl
  refine t_Law_law_577 hP ?_
  rw [e1]
  exact k2 _ fun M2 hI2 => t_Law_law_594 hP (fun _ => nx M2 hI2) (fun q => absurd rfl q)
theorem law_fewest (hP : Clo P) {M : Mm_} {x3 : Int} (hL : L ≤ 2560) (hI : INV L xs M) (hx : 0 ≤ x3 ∧ x3 + 5 ≤ L) {Q : Qp_} (nx : ∀ M2, INV L xs M2 → P 210 907 [some (2, (-2)), some (2, 0), some (2, 112), some (0, x3)] [] WF M2 (141, 13062) Q) : P 210 597 [some (2, (-2)), some (2, 0), some (2, 112), some (0, x3)] [] WF M (141, 13062) Q := by
  have ro := hI.ro
  have eL : M (-2) (-1) = (L : Int) := by rw [ro]; rfl
  refine t_Law_law_597 hP ?_
  rw [ro]
  refine two_go (tw_fewest hP) hI fun r M1 e1 k2 => ?_
  have eL1 : M1 (-2) (-1) = (L : Int) := by rw [e1]; rfl
  refine t_Law_law_609 hP ?_
  rw [e1]
  exact k2 _ fun M2 hI2 => t_Law_law_621 hP (fun _ => nx M2 hI2) (fun q => absurd rfl q)
theorem law_hangs (hP : Clo P) {M : Mm_} {x3 : Int} (hL : L ≤ 2560) (hI : INV L xs M) (hx : 0 ≤ x3 ∧ x3 + 5 ≤ L) {Q : Qp_} (nx : ∀ M2, INV L xs M2 → P 210 907 [some (2, (-2)), some (2, 0), some (2, 112), some (0, x3)] [] WF M2 (141, 13062) Q) : P 210 624 [some (2, (-2)), some (2, 0), some (2, 112), some (0, x3)] [] WF M (141, 13062) Q := by
  have ro := hI.ro
  have eL : M (-2) (-1) = (L : Int) := by rw [ro]; rfl
  refine t_Law_law_624 hP ?_
  rw [ro]
  refine two_go (tw_hangs hP) hI fun r M1 e1 k2 => ?_
  have eL1 : M1 (-2) (-1) = (L : Int) := by rw [e1]; rfl
  refine t_Law_law_636 hP ?_
  rw [e1]
  exact k2 _ fun M2 hI2 => t_Law_law_648 hP (fun _ => nx M2 hI2) (fun q => absurd rfl q)
theorem law_first (hP : Clo P) {M : Mm_} {x3 : Int} (hL : L ≤ 2560) (hI : INV L xs M) (hx : 0 ≤ x3 ∧ x3 + 5 ≤ L) {Q : Qp_} (nx : ∀ M2, INV L xs M2 → P 210 907 [some (2, (-2)), some (2, 0), some (2, 112), some (0, x3)] [] WF M2 (141, 13062) Q) : P 210 651 [some (2, (-2)), some (2, 0), some (2, 112), some (0, x3)] [] WF M (141, 13062) Q := by
  have ro := hI.ro
  have eL : M (-2) (-1) = (L : Int) := by rw [ro]; rfl
  refine t_Law_law_651 hP ?_
  rw [ro]
  refine two_go (tw_first hP) hI fun r M1 e1 k2 => ?_
  have eL1 : M1 (-2) (-1) = (L : Int) := by rw [e1]; rfl
  refine t_Law_law_668 hP ?_
  rw [e1]
  exact k2 _ fun M2 hI2 => t_Law_law_685 hP (fun _ => nx M2 hI2) (fun q => absurd rfl q)
theorem law_passed (hP : Clo P) {M : Mm_} {x3 : Int} (hL : L ≤ 2560) (hI : INV L xs M) (hx : 0 ≤ x3 ∧ x3 + 5 ≤ L) {Q : Qp_} (nx : ∀ M2, INV L xs M2 → P 210 907 [some (2, (-2)), some (2, 0), some (2, 112), some (0, x3)] [] WF M2 (141, 13062) Q) : P 210 688 [some (2, (-2)), some (2, 0), some (2, 112), some (0, x3)] [] WF M (141, 13062) Q := by
  have ro := hI.ro
  have eL : M (-2) (-1) = (L : Int) := by rw [ro]; rfl
  refine t_Law_law_688 hP ?_
  rw [ro]
  refine two_go (tw_passed hP) hI fun r M1 e1 k2 => ?_
  have eL1 : M1 (-2) (-1) = (L : Int) := by rw [e1]; rfl
  refine t_Law_law_700 hP ?_
  rw [e1]
  exact k2 _ fun M2 hI2 => t_Law_law_712 hP (fun _ => nx M2 hI2) (fun q => absurd rfl q)
theorem law_sprung (hP : Clo P) {M : Mm_} {x3 : Int} (hL : L ≤ 2560) (hI : INV L xs M) (hx : 0 ≤ x3 ∧ x3 + 5 ≤ L) {Q : Qp_} (nx : ∀ M2, INV L xs M2 → P 210 907 [some (2, (-2)), some (2, 0), some (2, 112), some (0, x3)] [] WF M2 (141, 13062) Q) : P 210 715 [some (2, (-2)), some (2, 0), some (2, 112), some (0, x3)] [] WF M (141, 13062) Q := by
  have ro := hI.ro
  have eL : M (-2) (-1) = (L : Int) := by rw [ro]; rfl
  refine t_Law_law_715 hP ?_
  rw [ro]
  refine two_go (tw_sprung hP) hI fun r M1 e1 k2 => ?_
  have eL1 : M1 (-2) (-1) = (L : Int) := by rw [e1]; rfl
  refine t_Law_law_722 hP ?_
  rw [e1]
  exact k2 _ fun M2 hI2 => t_Law_law_729 hP (fun _ => nx M2 hI2) (fun q => absurd rfl q)
theorem law_rows (hP : Clo P) {M : Mm_} {x3 : Int} (hL : L ≤ 2560) (hI : INV L xs M) (hx : 0 ≤ x3 ∧ x3 + 5 ≤ L) {Q : Qp_} (nx : ∀ M2, INV L xs M2 → P 210 907 [some (2, (-2)), some (2, 0), some (2, 112), some (0, x3)] [] WF M2 (141, 13062) Q) : P 210 732 [some (2, (-2)), some (2, 0), some (2, 112), some (0, x3)] [] WF M (141, 13062) Q := by
  have ro := hI.ro
  have eL : M (-2) (-1) = (L : Int) := by rw [ro]; rfl
  refine t_Law_law_732 hP ?_
  rw [ro]
  refine two_go (tw_rows hP) hI fun r M1 e1 k2 => ?_
  have eL1 : M1 (-2) (-1) = (L : Int) := by rw [e1]; rfl
  refine t_Law_law_744 hP ?_
  rw [e1]
  exact k2 _ fun M2 hI2 => t_Law_law_756 hP (fun _ => nx M2 hI2) (fun q => absurd rfl q)
theorem law_likeness (hP : Clo P) {M : Mm_} {x3 : Int} (hL : L ≤ 2560) (hI : INV L xs M) (hx : 0 ≤ x3 ∧ x3 + 5 ≤ L) {Q : Qp_} (nx : ∀ M2, INV L xs M2 → P 210 907 [some (2, (-2)), some (2, 0), some (2, 112), some (0, x3)] [] WF M2 (141, 13062) Q) : P 210 759 [some (2, (-2)), some (2, 0), some (2, 112), some (0, x3)] [] WF M (141, 13062) Q := by
  have ro := hI.ro
  have eL : M (-2) (-1) = (L : Int) := by rw [ro]; rfl
  refine t_Law_law_759 hP ?_
  rw [ro]
  refine two_go (tw_likeness hP) hI fun r M1 e1 k2 => ?_
  have eL1 : M1 (-2) (-1) = (L : Int) := by rw [e1]; rfl
  refine t_Law_law_781 hP ?_
  rw [e1]
  exact k2 _ fun M2 hI2 => t_Law_law_803 hP (fun _ => nx M2 hI2) (fun q => absurd rfl q)
theorem law_nearest (hP : Clo P) {M : Mm_} {x3 : Int} (hL : L ≤ 2560) (hI : INV L xs M) (hx : 0 ≤ x3 ∧ x3 + 5 ≤ L) {Q : Qp_} (nx : ∀ M2, INV L xs M2 → P 210 907 [some (2, (-2)), some (2, 0), some (2, 112), some (0, x3)] [] WF M2 (141, 13062) Q) : P 210 806 [some (2, (-2)), some (2, 0), some (2, 112), some (0, x3)] [] WF M (141, 13062) Q := by
  have ro := hI.ro
  have eL : M (-2) (-1) = (L : Int) := by rw [ro]; rfl
  refine t_Law_law_806 hP ?_
  rw [ro]
  refine two_go (tw_nearest hP) hI fun r M1 e1 k2 => ?_
  have eL1 : M1 (-2) (-1) = (L : Int) := by rw [e1]; rfl
  refine t_Law_law_818 hP ?_
  rw [e1]
  exact k2 _ fun M2 hI2 => t_Law_law_830 hP (fun _ => nx M2 hI2) (fun q => absurd rfl q)
theorem law_family (hP : Clo P) {M : Mm_} {x3 : Int} (hL : L ≤ 2560) (hI : INV L xs M) (hx : 0 ≤ x3 ∧ x3 + 5 ≤ L) {Q : Qp_} (nx : ∀ M2, INV L xs M2 → P 210 907 [some (2, (-2)), some (2, 0), some (2, 112), some (0, x3)] [] WF M2 (141, 13062) Q) : P 210 833 [some (2, (-2)), some (2, 0), some (2, 112), some (0, x3)] [] WF M (141, 13062) Q := by
  have ro := hI.ro
  have eL : M (-2) (-1) = (L : Int) := by rw [ro]; rfl
  refine t_Law_law_833 hP ?_
  rw [ro]
  refine two_go (tw_family hP) hI fun r M1 e1 k2 => ?_
  have eL1 : M1 (-2) (-1) = (L : Int) := by rw [e1]; rfl
  refine t_Law_law_850 hP ?_
  rw [e1]
  exact k2 _ fun M2 hI2 => t_Law_law_867 hP (fun _ => nx M2 hI2) (fun q => absurd rfl q)
theorem law_moved (hP : Clo P) {M : Mm_} {x3 : Int} (hL : L ≤ 2560) (hI : INV L xs M) (hx : 0 ≤ x3 ∧ x3 + 5 ≤ L) {Q : Qp_} (nx : ∀ M2, INV L xs M2 → P 210 907 [some (2, (-2)), some (2, 0), some (2, 112), some (0, x3)] [] WF M2 (141, 13062) Q) : P 210 870 [some (2, (-2)), some (2, 0), some (2, 112), some (0, x3)] [] WF M (141, 13062) Q := by
  have ro := hI.ro
  have eL : M (-2) (-1) = (L : Int) := by rw [ro]; rfl
  refine t_Law_law_870 hP ?_
  rw [ro]
  refine two_go (tw_moved hP) hI fun r M1 e1 k2 => ?_
  have eL1 : M1 (-2) (-1) = (L : Int) := by rw [e1]; rfl
  refine t_Law_law_887 hP ?_
  rw [e1]
  exact k2 _ fun M2 hI2 => t_Law_law_904 hP (fun _ => nx M2 hI2) (fun q => absurd rfl q)
theorem law_loop (hP : Clo P) (hL : L ≤ 2560) {Q : Qp_} (k : ∀ M, Q (some (0, 1)) WF M) : ∀ (d : Nat) (x3 : Int) (M : Mm_), (L - x3).toNat ≤ d → 0 ≤ x3 ∧ x3 ≤ 10000 → INV L xs M → P 210 10 [some (2, (-2)), some (2, 0), some (2, 112), some (0, x3)] [] WF M (141, 13062) Q := by
  intro d
  induction d with
  | zero =>
    intro x3 M hd hx hI
    have ro := hI.ro
    have eL : M (-2) (-1) = (L : Int) := by rw [ro]; rfl
    exact t_Law_law_10 hP (fun _ => k M) (fun q => by omega) (fun q => by omega) (fun q => by omega) (fun q => by omega) (fun q => by omega) (fun q => by omega) (fun q => by omega) (fun q => by omega) (fun q => by omega) (fun q => by omega) (fun q => by omega) (fun q => by omega) (fun q => by omega) (fun q => by omega) (fun q => by omega) (fun q => by omega) (fun q => by omega) (fun q => by omega) (fun q => by omega) (fun q => by omega) (fun q => by omega) (fun q => by omega) (fun q => by omega) (fun q => by omega) (fun q => by omega) (fun q => by omega) (fun q => by omega) (fun q => by omega) (fun q => by omega) (fun q => by omega)
  | succ d ih =>
    intro x3 M hd hx hI
    have ro := hI.ro
    have eL : M (-2) (-1) = (L : Int) := by rw [ro]; rfl
    have nx : ¬ M (-2) (-1) - 5 < x3 → ∀ M2, INV L xs M2 → P 210 907 [some (2, (-2)), some (2, 0), some (2, 112), some (0, x3)] [] WF M2 (141, 13062) Q := fun q M2 hI2 => t_Law_law_907 hP (ih (x3 + 5) M2 (by omega) (by omega) hI2)
    exact t_Law_law_10 hP (fun _ => k M) (fun q _ => nx q M hI) (fun q _ => law_text hP hL hI (by omega) (nx q)) (fun q _ => law_word hP hL hI (by omega) (nx q)) (fun q _ => law_stop hP hL hI (by omega) (nx q)) (fun q _ => law_copy hP hL hI (by omega) (nx q)) (fun q _ => law_about hP hL hI (by omega) (nx q)) (fun q _ => law_at hP hL hI (by omega) (nx q)) (fun q _ => law_same hP hL hI (by omega) (nx q)) (fun q _ => law_common hP hL hI (by omega) (nx q)) (fun q _ => law_mark hP hL hI (by omega) (nx q)) (fun q _ => law_stands hP hL hI (by omega) (nx q)) (fun q _ => law_count hP hL hI (by omega) (nx q)) (fun q _ => law_feed hP hL hI (by omega) (nx q)) (fun q _ => law_rule hP hL hI (by omega) (nx q)) (fun q _ => law_fault hP hL hI (by omega) (nx q)) (fun q _ => law_force hP hL hI (by omega) (nx q)) (fun q _ => law_sources hP hL hI (by omega) (nx q)) (fun q _ => law_reach hP hL hI (by omega) (nx q)) (fun q _ => law_piece hP hL hI (by omega) (nx q)) (fun q _ => law_judged hP hL hI (by omega) (nx q)) (fun q _ => law_fewest hP hL hI (by omega) (nx q)) (fun q _ => law_hangs hP hL hI (by omega) (nx q)) (fun q _ => law_first hP hL hI (by omega) (nx q)) (fun q _ => law_passed hP hL hI (by omega) (nx q)) (fun q _ => law_sprung hP hL hI (by omega) (nx q)) (fun q _ => law_rows hP hL hI (by omega) (nx q)) (fun q _ => law_likeness hP hL hI (by omega) (nx q)) (fun q _ => law_nearest hP hL hI (by omega) (nx q)) (fun q _ => law_family hP hL hI (by omega) (nx q)) (fun q _ => law_moved hP hL hI (by omega) (nx q))
end LL
