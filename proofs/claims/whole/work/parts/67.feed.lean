/-! feed, fault -/
theorem y_l2i : ∀ n : Nat, n < 256 → l2iI (n : Int) = n := by decide +kernel
theorem y_255 : ∀ i, i < 64 → ¬ i < 8 → (255#64).getLsbD i = false := by decide
theorem y_and (y : Int64) : ∃ n : Nat, n < 256 ∧ l2iI (y &&& Int64.ofInt 255).toInt = n ∧ n = (y.toBitVec &&& 255#64).toNat := by
  have hn : (y.toBitVec &&& 255#64).toNat < 256 := by
    rw [BitVec.toNat_and]
    exact Nat.lt_of_le_of_lt (Nat.and_le_right (m := 255)) (by decide)
  refine ⟨_, hn, ?_, rfl⟩
  have e : y &&& Int64.ofInt 255 = lN (y.toBitVec &&& 255#64).toNat := by
    apply Int64.toBitVec_inj.mp
    rw [Int64.toBitVec_and, z_bL, BitVec.ofNat_toNat, BitVec.setWidth_eq]
    rfl
  rw [e, z_tL (by omega)]
  exact y_l2i _ hn
theorem y_same {b : Int} {s : Nat} (hs : s ≤ 56) : l2iI (andL (ushrL b s) 255) = l2iI (andL (shrL b s) 255) ∧ 0 ≤ l2iI (andL (shrL b s) 255) ∧ l2iI (andL (shrL b s) 255) ≤ 255 := by
  unfold andL ushrL shrL
  rw [Int64.ofInt_toInt, Int64.ofInt_toInt, z_I]
  obtain ⟨n, n1, n2, n3⟩ := y_and ((Int64.ofInt b).toUInt64 >>> ((nI s).toInt64.toUInt64 &&& Int64.toUInt64 63)).toInt64
  obtain ⟨m, m1, m2, m3⟩ := y_and (Int64.ofInt b >>> ((nI s).toInt64 &&& 63))
  rw [n2, m2]
  have : n = m := by
    rw [n3, m3]
    congr 1
    rw [z_lu s (by omega), z_ll s (by omega)]
    apply BitVec.eq_of_getLsbD_eq
    intro i hi
    rw [BitVec.getLsbD_and, BitVec.getLsbD_and]
    by_cases h8 : i < 8
    · congr 1
      rw [Int64.toBitVec_shiftRight, z_bL, z_sm s (by omega), BitVec.sshiftRight_eq', BitVec.getLsbD_sshiftRight, BitVec.toNat_ofNat, Nat.mod_eq_of_lt (by omega), if_pos (by omega), decide_eq_false (by omega)]
      show ((Int64.ofInt b).toUInt64 >>> UInt64.ofNat s).toBitVec.getLsbD i = _
      rw [UInt64.toBitVec_shiftRight]
      have q : ((UInt64.ofNat s).toBitVec % 64).toNat = s := by
        show (BitVec.ofNat 64 s % 64).toNat = s
        rw [BitVec.toNat_umod, BitVec.toNat_ofNat]
        show s % 18446744073709551616 % 64 = s
        omega
      rw [BitVec.ushiftRight_eq', q, BitVec.getLsbD_ushiftRight]
      rfl
    · rw [y_255 i hi h8, Bool.and_false, Bool.and_false]
  omega
section FD
variable {P : Jg_} {L : Nat} {xs : Nat → Int32}
theorem tw_fault (hP : Clo P) : Two P L xs 104 [some (2, 0)] 105 [some (2, 112)] := by
  intro M hI
  have hI0 := hI
  obtain ⟨A, B, hS, hW, hC, hSn, hN⟩ := hI
  have e1 : M 32 6 = A 112 24 := (congrFun (hSn.r 32) 6).trans hN.2.2.2.2.1.2.2.2
  have e2 : M 112 24 = A 112 24 := hSn 112 24 (by unfold Pn; omega)
  refine ⟨fun r M1 => r = A 112 24 ∧ M1 = M, fun Q k => t_BW_fault_0 hP (k _ _ ⟨e1, rfl⟩), fun r M1 hR => ?_⟩
  obtain ⟨rfl, rfl⟩ := hR
  refine ⟨hI0.ro, fun Q k => t_Mo_fault_0 hP ?_⟩
  rw [e2]
  exact k _ hI0
/-- the byte of b at place i of n -/
def byt (b n i : Int) : Int := l2iI (andL (shrL b (8 * (n - 1 - i))) 255)
theorem byt_eq {b n i : Int} (h : 0 ≤ i ∧ i < n ∧ n ≤ 8) : l2iI (andL (ushrL b (8 * (n - 1 - i))) 255) = byt b n i ∧ 0 ≤ byt b n i ∧ byt b n i ≤ 255 := by
  obtain ⟨s, hs⟩ := Int.eq_ofNat_of_zero_le (show 0 ≤ 8 * (n - 1 - i) by omega)
  unfold byt
  rw [hs]
  exact y_same (by omega)
theorem s_feedC (hP : Clo P) {Q : Qp_} {M : Mm_} {n b t : Int} (hn : 1 ≤ n ∧ n ≤ 8) (ht : 0 ≤ t ∧ t + n ≤ 120) (h3 : M 32 3 = t) (k : ∀ M', Fr 32 33 M M' → (∀ j, M' 32 j = if j = 3 then t + n else M 32 j) → (∀ j, M' 33 j = if t ≤ j ∧ j < t + n then byt b n (j - t) else M 33 j) → Q (some (0, t + n)) WF M') : P 72 0 [some (2, 0), some (0, n), some (1, b), none, none] [] WF M (0, 0) Q := by
  refine t_BW_feed_0 hP (fun q => by omega) (fun _ _ _ => ?_) (fun _ _ q => by omega) (fun _ q => by omega)
  refine lpD (n := -1) (hi := n - 1) (f := fun z => ∀ M', Fr 32 33 M M' → (∀ j, M' 32 j = if j = 3 then t + n - 1 - z else M 32 j) → (∀ j, M' 33 j = if t ≤ j ∧ j < t + n - 1 - z then byt b n (j - t) else M 33 j) → P 72 21 [some (2, 0), none, some (1, b), none, some (0, z)] [] WF M' (0, 0) Q) ?_ ?_ (n - 1) (by omega) (by omega) M (Fr.refl _ _ _) (fun j => ?_) (fun j => ?_)
  · intro M' F' g1 g2
    refine t_BW_feed_21 hP (fun _ => ?_) (fun q => by omega) (fun q => by omega)
    have e := g1 3
    rw [if_pos rfl, show t + n - 1 - (-1) = t + n by omega] at e
    rw [e]
    refine k M' F' (fun j => ?_) (fun j => ?_)
    · rw [g1, show t + n - 1 - (-1) = t + n by omega]
    · rw [g2, show t + n - 1 - (-1) = t + n by omega]
  · intro z z0 z1 ih M' F' g1 g2
    have e := g1 3
    rw [if_pos rfl] at e
    refine t_BW_feed_21 hP (fun q => by omega) (fun _ _ => ih _ F'.u.u (fun j => ?_) (fun j => ?_)) (fun _ q => by omega)
    · by_cases c : j = 3
      · rw [c, upd_s, if_pos rfl, e]
        omega
      · rw [upd_i c, upd_c (by decide), g1, if_neg c, if_neg c]
    · rw [upd_c (by decide), e]
      by_cases c : j = t + n - 1 - z
      · have y := (byt_eq (b := b) (n := n) (i := n - 1 - z) (by omega)).1
        rw [show n - 1 - (n - 1 - z) = z by omega] at y
        rw [c, upd_s, if_pos (by omega), y, show t + n - 1 - z - t = n - 1 - z by omega]
      · rw [upd_i c, g2]
        by_cases d : t ≤ j ∧ j < t + n - 1 - z
        · rw [if_pos d, if_pos (by omega)]
        · rw [if_neg d, if_neg (by omega)]
  · by_cases c : j = 3
    · rw [c, if_pos rfl, h3]
      omega
    · rw [if_neg c]
  · rw [if_neg (by omega)]
theorem s_feedM (hP : Clo P) {Q : Qp_} {M : Mm_} {n b t : Int} (hn : 1 ≤ n ∧ n ≤ 8) (ht : 0 ≤ t ∧ t + n ≤ 120) (h3 : M 112 23 = t) (k : ∀ M', (∀ c, ¬ (c = 112 ∨ c = 130) → M' c = M c) → (∀ j, M' 112 j = if j = 23 then t + n else M 112 j) → (∀ j, M' 130 j = if t ≤ j ∧ j < t + n then byt b n (j - t) else M 130 j) → Q (some (0, t + n)) WF M') : P 73 0 [some (2, 112), some (0, n), some (1, b), none, none] [] WF M (0, 0) Q := by
  refine t_Mo_feed_0 hP (fun q => by omega) (fun _ q => by omega) (fun _ _ _ => ?_) (fun _ _ q => by omega)
  refine lpD (n := -1) (hi := n - 1) (f := fun z => ∀ M', (∀ c, ¬ (c = 112 ∨ c = 130) → M' c = M c) → (∀ j, M' 112 j = if j = 23 then t + n - 1 - z else M 112 j) → (∀ j, M' 130 j = if t ≤ j ∧ j < t + n - 1 - z then byt b n (j - t) else M 130 j) → P 73 20 [some (2, 112), none, some (1, b), none, some (0, z)] [] WF M' (0, 0) Q) ?_ ?_ (n - 1) (by omega) (by omega) M (fun _ _ => rfl) (fun j => ?_) (fun j => ?_)
  · intro M' F' g1 g2
    refine t_Mo_feed_20 hP (fun _ => ?_) (fun q => by omega)
    have e := g1 23
    rw [if_pos rfl, show t + n - 1 - (-1) = t + n by omega] at e
    rw [e]
    refine k M' F' (fun j => ?_) (fun j => ?_)
    · rw [g1, show t + n - 1 - (-1) = t + n by omega]
    · rw [g2, show t + n - 1 - (-1) = t + n by omega]
  · intro z z0 z1 ih M' F' g1 g2
    have e := g1 23
    rw [if_pos rfl] at e
    refine t_Mo_feed_20 hP (fun q => by omega) (fun _ => ih _ (fun c h => ?_) (fun j => ?_) (fun j => ?_))
    · rw [upd_r (by omega), upd_r (by omega)]
      exact F' c h
    · by_cases c : j = 23
      · rw [c, upd_s, if_pos rfl, e]
        omega
      · rw [upd_i c, upd_c (by decide), g1, if_neg c, if_neg c]
    · rw [upd_c (by decide), e]
      by_cases c : j = t + n - 1 - z
      · rw [c, upd_s, if_pos (by omega)]
        unfold byt
        rw [show n - 1 - (t + n - 1 - z - t) = z by omega]
      · rw [upd_i c, g2]
        by_cases d : t ≤ j ∧ j < t + n - 1 - z
        · rw [if_pos d, if_pos (by omega)]
        · rw [if_neg d, if_neg (by omega)]
  · by_cases c : j = 23
    · rw [c, if_pos rfl, h3]
      omega
    · rw [if_neg c]
  · rw [if_neg (by omega)]
theorem tw_feed (hP : Clo P) {n b : Int} : Two P L xs 72 [some (2, 0), some (0, n), some (1, b), none, none] 73 [some (2, 112), some (0, n), some (1, b), none, none] := by
  intro M hI
  have hI0 := hI
  obtain ⟨A, B, hS, hW, hC, hSn, hN⟩ := hI
  obtain ⟨g1, g2, g3, g4, g5, g6⟩ := hN
  have m32 : M 32 = A 32 := hSn.r 32
  have e1 : M 32 3 = A 112 23 := (congrFun m32 3).trans g5.1
  have e2 : M 112 23 = A 112 23 := hSn 112 23 (by unfold Pn; omega)
  have t0 := hW.2.1.1
  by_cases h1 : 1 ≤ n ∧ n ≤ 8
  · by_cases h2 : A 112 23 + n ≤ 120
    · obtain ⟨t, ht⟩ : ∃ t, t = A 112 23 := ⟨_, rfl⟩
      rw [← ht] at e1 e2 h2
      refine ⟨fun r M1 => r = t + n ∧ Fr 32 33 M M1 ∧ (∀ j, M1 32 j = if j = 3 then t + n else M 32 j) ∧ (∀ j, M1 33 j = if t ≤ j ∧ j < t + n then byt b n (j - t) else M 33 j), fun Q k => s_feedC hP h1 (by omega) e1 fun M1 F1 f1 f2 => k _ _ ⟨rfl, F1, f1, f2⟩, fun r M1 hR => ?_⟩
      obtain ⟨rfl, F1, f1, f2⟩ := hR
      refine ⟨by rw [F1 (-2) (by omega)]; exact hI0.ro, fun Q k => s_feedM hP h1 (by omega) (by rw [F1 112 (by omega)]; exact e2) fun M2 F2 k1 k2 => k M2 ?_⟩
      have hc : ∀ c, ¬ (c = 112 ∨ c = 130 ∨ 32 ≤ c ∧ c ≤ 33) → M2 c = M c := fun c h => (F2 c (by omega)).trans (F1 c (by omega))
      have hd : ∀ j, ¬ j = 23 → M2 112 j = M 112 j := fun j h => by rw [k1, if_neg h, F1 112 (by omega)]
      have n9 : M2 112 9 = A 112 9 := (hd 9 (by decide)).trans (hSn 112 9 (by unfold Pn; omega))
      refine ⟨M2, B, fun c q h => ?_, hW, Ca_c (by omega) hC (fun c h => hc c (by omega)) (hd 8 (by decide)) (hc 135 (by omega)), Sn.refl _, ?_, ?_, ?_, ?_, ?_, ?_⟩
      · by_cases e : c = 112
        · subst e
          rw [hd q (by unfold Pc at h; omega)]
          exact hS 112 q h
        · rw [hc c (by unfold Pc at h; omega)]
          exact hS c q h
      · intro z hz
        have a1 : M2 (3 + 2 * z) 1 = A (3 + 2 * z) 1 := by
          rw [hc (3 + 2 * z) (by omega)]
          exact hSn _ _ (by unfold Pn; omega)
        rw [a1, hc 117 (by omega), hSn.r 117]
        exact g1 z hz
      · rw [hc 117 (by omega), hSn.r 117]
        exact g2
      · rw [n9, hc 27 (by omega), hSn.r 27]
        exact g3
      · rw [n9, hc 28 (by omega), hc 29 (by omega), hc 30 (by omega), hc 31 (by omega), hc 120 (by omega), hc 121 (by omega), hc 122 (by omega), hc 123 (by omega), hSn.r 28, hSn.r 29, hSn.r 30, hSn.r 31, hSn.r 120, hSn.r 121, hSn.r 122, hSn.r 123]
        exact g4
      · have a1 : M2 32 3 = t + n := by rw [F2 32 (by omega), f1, if_pos rfl]
        have a2 : M2 112 23 = t + n := by rw [k1, if_pos rfl]
        have a3 : M2 32 6 = A 32 6 := by rw [F2 32 (by omega), f1, if_neg (by decide), m32]
        have a4 : M2 112 24 = A 112 24 := (hd 24 (by decide)).trans (hSn 112 24 (by unfold Pn; omega))
        rw [a1, a2, a3, a4]
        omega
      · have a2 : M2 112 23 = t + n := by rw [k1, if_pos rfl]
        rw [a2]
        intro i hi
        rw [F2 33 (by omega), f2, k2, F1 130 (by omega), hSn.r 33, hSn.r 130]
        by_cases c : t ≤ i ∧ i < t + n
        · rw [if_pos c, if_pos c]
          exact ⟨rfl, (byt_eq (by omega)).2⟩
        · rw [if_neg c, if_neg c]
          exact g6 i (by omega)
    · refine ⟨fun r M1 => r = -1004 ∧ M1 = M, fun Q k => ?_, fun r M1 hR => ?_⟩
      · refine t_BW_feed_0 hP ?_ ?_ ?_ ?_ <;> intros <;> first | (exfalso; omega) | exact k _ _ ⟨rfl, rfl⟩
      · obtain ⟨rfl, rfl⟩ := hR
        refine ⟨hI0.ro, fun Q k => ?_⟩
        refine t_Mo_feed_0 hP ?_ ?_ ?_ ?_ <;> intros <;> first | (exfalso; omega) | exact k _ hI0
  · refine ⟨fun r M1 => r = -1002 ∧ M1 = M, fun Q k => ?_, fun r M1 hR => ?_⟩
    · refine t_BW_feed_0 hP ?_ ?_ ?_ ?_ <;> intros <;> first | (exfalso; omega) | exact k _ _ ⟨rfl, rfl⟩
    · obtain ⟨rfl, rfl⟩ := hR
      refine ⟨hI0.ro, fun Q k => ?_⟩
      refine t_Mo_feed_0 hP ?_ ?_ ?_ ?_ <;> intros <;> first | (exfalso; omega) | exact k _ hI0
end FD
