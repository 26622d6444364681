/-! SOURCES; frames of the whole state -/
theorem mset_ext {p : Int → Bool} {n : Nat} : ∀ {N : Nat}, n ≤ N → (∀ k : Nat, n ≤ k → k < N → p k = false) → mset p N = mset p n
  | 0, h, _ => by rw [show n = 0 by omega]
  | N + 1, h, g => by
    by_cases e : n = N + 1
    · rw [e]
    · rw [mset_s, g N (by omega) (by omega), mset_ext (by omega) (fun k h1 h2 => g k h1 (by omega))]
      rfl
theorem mset_eq {a : Nat} {p : Int → Bool} {n : Nat} (h : ∀ j : Nat, a.testBit j = (decide (j < n) && p j)) : a = mset p n := Nat.eq_of_testBit_eq fun j => by rw [h, mset_tb]
theorem mset_skip {p : Int → Bool} {n : Nat} (h : ¬ p n = true) : mset p (n + 1) = mset p n := by
  rw [mset_s, if_neg h, Nat.add_zero]
theorem mset_I {p : Int → Bool} {n : Nat} (hn : n < 31) (h : p n = true) : orI (mset p n) (shlI 1 n) = (mset p (n + 1) : Int) := by
  rw [sbI (mset_le p (n := 31) (by omega)) hn, mset_put h]
theorem Ca_d {B M M' : Mm_} (hT : B 112 0 ≤ 10) (h : Ca B M) (g : ∀ c, 47 ≤ c ∧ c ≤ 60 ∨ 70 ≤ c ∧ c ≤ 92 → M' c = M c) (g1 : M' 112 8 = M 112 8) (g2 : M' 135 = M 135) : Ca B M' := by
  obtain ⟨h1, h2, h3⟩ := h
  refine ⟨?_, ?_, ?_⟩
  · rw [g 47 (by omega)]
    rcases h1 with h1 | ⟨a, b⟩
    · exact Or.inl h1
    · exact Or.inr ⟨a, Lk_c hT b fun c hc => g c (by omega)⟩
  · rw [g 70 (by omega)]
    rcases h2 with h2 | ⟨a, b⟩
    · exact Or.inl h2
    · refine Or.inr ⟨a, fun x i hx hi => ?_⟩
      rw [g (72 + x) (by omega), g (83 + x) (by omega)]
      exact b x i hx hi
  · rw [g1, g2]
    exact h3
theorem IV.fr {L : Nat} {xs : Nat → Int32} {A B M M' : Mm_} {lo hi : Int} (h : IV L xs A B M) (g : Fr lo hi M M') (b : 61 ≤ lo ∧ hi ≤ 69 ∨ 93 ≤ lo ∧ hi ≤ 111 ∨ 128 ≤ lo ∧ hi ≤ 129 ∨ 131 ≤ lo ∧ hi ≤ 134 ∨ 136 ≤ lo ∧ hi ≤ 140 := by omega) : IV L xs A B M' := by
  obtain ⟨hS, hW, hC, hSn, hN⟩ := h
  exact ⟨hS.fr g (by omega), hW, Ca_d hW.2.1.1.2.1 hC (fun c hc => g c (by omega)) (by rw [g 112 (by omega)]) (g 135 (by omega)), hSn.fr g (by omega), hN⟩
theorem IV.v {L : Nat} {xs : Nat → Int32} {A B M : Mm_} (h : IV L xs A B M) {i v : Int} (b : 25 ≤ i := by decide) : IV L xs A B (updM M 112 i v) := by
  obtain ⟨hS, hW, hC, hSn, hN⟩ := h
  exact ⟨hS.v (by omega), hW, Ca_d hW.2.1.1.2.1 hC (fun c hc => upd_r (by omega) _ _) (upd_i (by omega) _ _ _) (upd_r (by decide) _ _), hSn.v (by omega), hN⟩
noncomputable def srS (B : Mm_) (x k : Int) : Nat := mset (srcB B x k) 10
theorem srS_lt (B : Mm_) (x k : Int) : srS B x k < 1024 := mset_lt _ 10
theorem srS_tb (B : Mm_) (x k : Int) (y : Nat) : (srS B x k).testBit y = (decide (y < 10) && srcB B x k y) := mset_tb _ _ _
section SR
variable {P : Jg_} {L : Nat} {xs : Nat → Int32} {B : Mm_}
theorem s_sourceSet (hP : Clo P) {Q : Qp_} {M : Mm_} {x k : Int} (hS : Sc B M) (hW : WfC L xs B) (hx : 0 ≤ x ∧ x < B 112 0) (hk : 0 ≤ k ∧ k ≤ B 112 0) (kk : Q (some (0, (srS B x k : Int))) WF M) : P 113 0 [some (2, 47), some (0, x), some (0, k), none, none, none, none] [] WF M (0, 0) Q := by
  obtain ⟨t0, t1, t2⟩ := rdT hS hW.2.1
  have X := rdX hS hW.2.1 (x := x) (by omega)
  refine t_Runs_sourceSet_0 hP ?_
  rw [X.2.2.2.2.2.1]
  refine s_holding hP hS hW (by decide) (t_Runs_sourceSet_12 hP ?_)
  have hb := (lws_bd hW.2.2.2 x).2.2.2.2.1
  have e : srS B x k = mset (srcB B x k) k.toNat := mset_ext (by omega) fun y h1 h2 => by
    unfold srcB
    rw [decide_eq_false_iff_not]
    omega
  refine lpN (n := k.toNat) (f := fun y : Nat => P 113 17 [some (2, 47), some (0, x), some (0, k), some (0, B 114 x), some (0, hold B 4 (B 114 x)), some (0, (mset (srcB B x k) y : Int)), some (0, (y : Int))] [] WF M (0, 0) Q) ?_ ?_ 0 (Nat.zero_le _)
  · refine t_Runs_sourceSet_17 hP (fun _ => ?_) (fun q => by omega) (fun q => by omega) (fun q => by omega) (fun q => by omega) (fun q => by omega) (fun q => by omega) (fun q => by omega)
    rw [← e]
    exact kk
  · intro y hy ih
    have Y := rdX hS hW.2.1 (x := y) (by omega)
    have b := mset_lt (srcB B x k) y
    have no : ¬ (0 ≤ (y : Int) ∧ (y : Int) < k ∧ (B 114 y < B 114 x ∨ B 114 y = B 114 x ∧ (y : Int) < x) ∧ B 114 x - B 114 y < hold B 4 (B 114 x)) → P 113 17 [some (2, 47), some (0, x), some (0, k), some (0, B 114 x), some (0, hold B 4 (B 114 x)), some (0, (mset (srcB B x k) y : Int)), some (0, (y : Int) + 1)] [] WF M (0, 0) Q := fun h => by
      rw [mset_skip (by unfold srcB; rw [decide_eq_true_iff]; exact h)] at ih
      exact ih
    have ye : (0 ≤ (y : Int) ∧ (y : Int) < k ∧ (B 114 y < B 114 x ∨ B 114 y = B 114 x ∧ (y : Int) < x) ∧ B 114 x - B 114 y < hold B 4 (B 114 x)) → P 113 17 [some (2, 47), some (0, x), some (0, k), some (0, B 114 x), some (0, hold B 4 (B 114 x)), some (0, orI (mset (srcB B x k) y : Int) (shlI 1 (y : Int))), some (0, (y : Int) + 1)] [] WF M (0, 0) Q := fun h => by
      rw [mset_I (by omega) (by unfold srcB; rw [decide_eq_true_iff]; exact h)]
      exact ih
    refine t_Runs_sourceSet_17 hP (fun q => by omega) (fun _ q => by omega) (fun _ _ q1 q2 => no (by omega)) (fun _ _ q1 q2 => ye (by omega)) (fun _ _ q1 q2 => no (by omega)) (fun _ _ q1 q2 q3 => no (by omega)) (fun _ _ q1 q2 q3 q4 => no (by omega)) (fun _ _ q1 q2 q3 q4 => ye (by omega))
theorem s_sourcesOf (hP : Clo P) {Q : Qp_} {M : Mm_} {x k : Int} (hS : Sc B M) (hW : WfC L xs B) (h4 : M 129 4 = hold B 4 (B 114 x)) (hx : 0 ≤ x ∧ x < B 112 0) (hk : 0 ≤ k ∧ k ≤ B 112 0) (kk : Q (some (0, (srS B x k : Int))) WF M) : P 116 0 [some (2, 112), some (0, x), some (0, k), none, none] [] WF M (0, 0) Q := by
  obtain ⟨t0, t1, t2⟩ := rdT hS hW.2.1
  have X := rdX hS hW.2.1 (x := x) (by omega)
  refine t_Mo_sourcesOf_0 hP ?_
  have hb := (lws_bd hW.2.2.2 x).2.2.2.2.1
  have e : srS B x k = mset (srcB B x k) k.toNat := mset_ext (by omega) fun y h1 h2 => by
    unfold srcB
    rw [decide_eq_false_iff_not]
    omega
  refine lpN (n := k.toNat) (f := fun y : Nat => P 116 4 [some (2, 112), some (0, x), some (0, k), some (0, (mset (srcB B x k) y : Int)), some (0, (y : Int))] [] WF M (0, 0) Q) ?_ ?_ 0 (Nat.zero_le _)
  · refine t_Mo_sourcesOf_4 hP (fun _ => ?_) (fun q => by omega) (fun q => by omega) (fun q => by omega) (fun q => by omega) (fun q => by omega) (fun q => by omega) (fun q => by omega)
    rw [← e]
    exact kk
  · intro y hy ih
    have Y := rdX hS hW.2.1 (x := y) (by omega)
    have no : ¬ (0 ≤ (y : Int) ∧ (y : Int) < k ∧ (B 114 y < B 114 x ∨ B 114 y = B 114 x ∧ (y : Int) < x) ∧ B 114 x - B 114 y < hold B 4 (B 114 x)) → P 116 4 [some (2, 112), some (0, x), some (0, k), some (0, orI (mset (srcB B x k) y : Int) 0), some (0, (y : Int) + 1)] [] WF M (0, 0) Q := fun h => by
      rw [mset_skip (by unfold srcB; rw [decide_eq_true_iff]; exact h)] at ih
      rw [orI_0 (mset_le _ (n := 31) (by omega))]
      exact ih
    have ye : (0 ≤ (y : Int) ∧ (y : Int) < k ∧ (B 114 y < B 114 x ∨ B 114 y = B 114 x ∧ (y : Int) < x) ∧ B 114 x - B 114 y < hold B 4 (B 114 x)) → P 116 4 [some (2, 112), some (0, x), some (0, k), some (0, orI (mset (srcB B x k) y : Int) (shlI 1 (y : Int))), some (0, (y : Int) + 1)] [] WF M (0, 0) Q := fun h => by
      rw [mset_I (by omega) (by unfold srcB; rw [decide_eq_true_iff]; exact h)]
      exact ih
    refine t_Mo_sourcesOf_4 hP (fun q => by omega) (fun _ q => no (by rw [q]; omega)) (fun _ _ q1 q2 => no (by omega)) (fun _ _ q1 q2 => ye (by omega)) (fun _ _ q1 q2 => no (by omega)) (fun _ _ q1 q2 q3 => no (by omega)) (fun _ _ q1 q2 q3 q4 => no (by omega)) (fun _ _ q1 q2 q3 q4 => ye (by omega))
theorem tw_force (hP : Clo P) {a b : Int} : Two P L xs 108 [some (2, 0), some (0, a), some (0, b)] 111 [some (2, 112), some (0, a), some (0, b)] := by
  intro M hI
  have hI0 := hI
  obtain ⟨A, B, hI⟩ := hI
  have hI1 := hI
  obtain ⟨hS, hW, hC, hSn, hN⟩ := hI
  by_cases h1 : (0 ≤ a ∧ a < 7) ∧ (0 ≤ b ∧ b ≤ 999)
  · refine ⟨fun r M1 => r = hold B a b ∧ M1 = M, fun Q k => ?_, fun r M1 hR => ?_⟩
    · refine t_BW_force_0 hP ?_ ?_ ?_ ?_ ?_ <;> intros <;> first | (exfalso; omega) | skip
      exact s_holding hP hS hW h1.1 (t_BW_force_15 hP (k _ _ ⟨rfl, rfl⟩))
    · obtain ⟨rfl, rfl⟩ := hR
      refine ⟨hI0.ro, fun Q k => ?_⟩
      refine t_Mo_force_0 hP ?_ ?_ ?_ ?_ ?_ <;> intros <;> first | (exfalso; omega) | skip
      refine s_findRules hP hS hW.2.2.2 fun M' hF hM => t_Mo_force_17 hP ?_
      rw [hM a h1.1]
      exact k _ ⟨A, B, hI1.fr hF⟩
  · refine ⟨fun r M1 => r = -1002 ∧ M1 = M, fun Q k => ?_, fun r M1 hR => ?_⟩
    · refine t_BW_force_0 hP ?_ ?_ ?_ ?_ ?_ <;> intros <;> first | (exfalso; omega) | exact k _ _ ⟨rfl, rfl⟩
    · obtain ⟨rfl, rfl⟩ := hR
      refine ⟨hI0.ro, fun Q k => ?_⟩
      refine t_Mo_force_0 hP ?_ ?_ ?_ ?_ ?_ <;> intros <;> first | (exfalso; omega) | exact k _ hI0 | (refine t_Mo_force_12 hP ?_; exact k _ hI0)
theorem s_refusal (hP : Clo P) {Q : Qp_} {M : Mm_} {x k : Int} (hS : Sc B M) (hT : WfT B) (kk : ∀ r, (¬ (0 ≤ x ∧ x < B 112 0) → r = -1001) → (0 ≤ x ∧ x < B 112 0 → ¬ (0 ≤ k ∧ k ≤ B 112 0) → r = -1002) → (0 ≤ x ∧ x < B 112 0 → 0 ≤ k ∧ k ≤ B 112 0 → r = 0) → Q (some (0, r)) WF M) : P 112 0 [some (2, 0), some (0, x), some (0, k)] [] WF M (0, 0) Q := by
  obtain ⟨t0, t1, t2⟩ := rdT hS hT
  refine t_BW_refusalOfLook_0 hP ?_ ?_ ?_ ?_ ?_ <;> intros <;> exact kk _ (fun q => by omega) (fun q q' => by omega) (fun q q' => by omega)
theorem tw_sources (hP : Clo P) {x k : Int} : Two P L xs 114 [some (2, 0), some (0, x), some (0, k), none] 117 [some (2, 112), some (0, x), some (0, k)] := by
  intro M hI
  have hI0 := hI
  obtain ⟨A, B, hI⟩ := hI
  have hI1 := hI
  obtain ⟨hS, hW, hC, hSn, hN⟩ := hI
  obtain ⟨t0, t1, t2⟩ := rdT hS hW.2.1
  by_cases h1 : 0 ≤ x ∧ x < B 112 0
  · by_cases h2 : 0 ≤ k ∧ k ≤ B 112 0
    · refine ⟨fun r M1 => r = (srS B x k : Int) ∧ M1 = M, fun Q kk => ?_, fun r M1 hR => ?_⟩
      · refine t_BW_sources_0 hP (s_refusal hP hS hW.2.1 fun r _ _ hr => ?_)
        have := hr h1 h2
        subst this
        exact t_BW_sources_4 hP (fun _ => s_sourceSet hP hS hW h1 h2 (t_BW_sources_14 hP (kk _ _ ⟨rfl, rfl⟩))) (fun q => absurd rfl q)
      · obtain ⟨rfl, rfl⟩ := hR
        refine ⟨hI0.ro, fun Q kk => ?_⟩
        have X := rdX hS hW.2.1 (x := x) (by omega)
        refine t_Mo_sources_0 hP ?_ ?_ ?_ ?_ ?_ <;> intros <;> first | (exfalso; omega) | skip
        rw [X.2.2.2.2.1]
        refine s_findRules hP hS hW.2.2.2 fun M' hF hM => t_Mo_sources_18 hP ?_
        exact s_sourcesOf hP (hS.fr hF) hW (hM 4 (by decide)) h1 h2 (t_Mo_sources_22 hP (kk _ ⟨A, B, hI1.fr hF⟩))
    · refine ⟨fun r M1 => r = -1002 ∧ M1 = M, fun Q kk => ?_, fun r M1 hR => ?_⟩
      · refine t_BW_sources_0 hP (s_refusal hP hS hW.2.1 fun r _ hr _ => ?_)
        have := hr h1 h2
        subst this
        exact t_BW_sources_4 hP (fun q => by omega) (fun _ => t_BW_sources_14 hP (kk _ _ ⟨rfl, rfl⟩))
      · obtain ⟨rfl, rfl⟩ := hR
        refine ⟨hI0.ro, fun Q kk => ?_⟩
        refine t_Mo_sources_0 hP ?_ ?_ ?_ ?_ ?_ <;> intros <;> first | (exfalso; omega) | exact kk _ hI0
  · refine ⟨fun r M1 => r = -1001 ∧ M1 = M, fun Q kk => ?_, fun r M1 hR => ?_⟩
    · refine t_BW_sources_0 hP (s_refusal hP hS hW.2.1 fun r hr _ _ => ?_)
      have := hr h1
      subst this
      exact t_BW_sources_4 hP (fun q => by omega) (fun _ => t_BW_sources_14 hP (kk _ _ ⟨rfl, rfl⟩))
    · obtain ⟨rfl, rfl⟩ := hR
      refine ⟨hI0.ro, fun Q kk => ?_⟩
      refine t_Mo_sources_0 hP ?_ ?_ ?_ ?_ ?_ <;> intros <;> first | (exfalso; omega) | exact kk _ hI0
end SR
