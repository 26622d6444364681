/-! the class's reader, the whole text -/
theorem NUM_bd {b : Int → Int} {n q lo hi fn : Int} (h : q ≤ n) : q ≤ (NUM b n q lo hi fn).2.2 ∧ (NUM b n q lo hi fn).2.2 ≤ n := by
  have := av_bd (isD b) h
  unfold NUM
  (repeat' split) <;> (dsimp only; omega)
theorem YES_bd {b : Int → Int} {n q : Int} (h : q ≤ n) : q ≤ (YES b n q).2.2 ∧ (YES b n q).2.2 ≤ n := by
  have := av_bd (isL b) h
  unfold YES
  (repeat' split) <;> (dsimp only; omega)
theorem ARG_bd {b : Int → Int} {n R kd q : Int} (h : q ≤ n) : q ≤ (ARG b n R kd q).2.2 ∧ (ARG b n R kd q).2.2 ≤ n := by
  unfold ARG
  split
  · exact YES_bd h
  · split
    · exact NUM_bd h
    · exact NUM_bd h
theorem NUM_v {b : Int → Int} {n q lo hi fn : Int} (hf : ¬ fn = 0) (h : (NUM b n q lo hi fn).1 = 0) : lo ≤ (NUM b n q lo hi fn).2.1 ∧ (NUM b n q lo hi fn).2.1 ≤ hi := by
  unfold NUM at h ⊢
  by_cases c1 : av (isD b) n q = q
  · rw [if_pos c1] at h
    exact absurd h (by show ¬ (1 : Int) = 0; decide)
  · rw [if_neg c1] at h ⊢
    by_cases c2 : 3 < av (isD b) n q - q
    · rw [if_pos c2] at h
      exact absurd h (by show ¬ (2 : Int) = 0; decide)
    · rw [if_neg c2] at h ⊢
      by_cases c3 : nv b q (av (isD b) n q - q).toNat < lo ∨ hi < nv b q (av (isD b) n q - q).toNat
      · rw [if_pos c3] at h
        exact absurd h hf
      · rw [if_neg c3]
        dsimp only
        omega
theorem YES_v {b : Int → Int} {n q : Int} (h : (YES b n q).1 = 0) : 0 ≤ (YES b n q).2.1 ∧ (YES b n q).2.1 ≤ 1 := by
  unfold YES at h ⊢
  (repeat' split) <;> (dsimp only; omega)
theorem ARG_v {b : Int → Int} {n R kd q : Int} (hk : 0 ≤ kd ∧ kd ≤ 7) (hR : 0 ≤ R ∧ R ≤ 8) (h : (ARG b n R kd q).1 = 0) : lowK kd ≤ (ARG b n R kd q).2.1 ∧ (ARG b n R kd q).2.1 ≤ higK kd ∧ (kd = 7 → (ARG b n R kd q).2.1 < R) := by
  unfold ARG at h ⊢
  by_cases c : kd = 2 ∨ kd = 3
  · rw [if_pos c] at h ⊢
    have := YES_v h
    rcases c with rfl | rfl
    · exact ⟨this.1, this.2, fun q => absurd q (by decide)⟩
    · exact ⟨this.1, this.2, fun q => absurd q (by decide)⟩
  · rw [if_neg c] at h ⊢
    by_cases d : kd = 7
    · rw [if_pos d] at h ⊢
      have := NUM_v (by decide) h
      subst d
      have e1 : lowK 7 = 0 := rfl
      have e2 : higK 7 = 7 := rfl
      omega
    · rw [if_neg d] at h ⊢
      have := NUM_v (by decide) h
      exact ⟨this.1, this.2, fun q => absurd q d⟩
theorem CLS_v {b : Int → Int} {n R p : Int} {tm : Bool} (hp : p ≤ n) (hR : 0 ≤ R ∧ R ≤ 8) {X : Int × Int × Int × Int × Int} (hX : CLS b n R tm p = X) (h : X.1 = 0) : tm = false ∧ (0 ≤ X.2.2.1 ∧ X.2.2.1 ≤ 7) ∧ (lowK X.2.2.1 ≤ X.2.2.2.1 ∧ X.2.2.2.1 ≤ higK X.2.2.1 ∧ (X.2.2.1 = 7 → X.2.2.2.1 < R)) ∧ p ≤ X.2.2.2.2 ∧ X.2.2.2.2 ≤ n := by
  have kb := KD_bd b p (av (isL b) n p)
  have a1 := av_bd (isL b) hp
  have a2 := av_bd (isB b) a1.2.1
  have a3 := ARG_bd (b := b) (R := R) (kd := KD b p (av (isL b) n p)) a2.2.1
  have a4 := av_bd (isB b) a3.2
  unfold CLS at hX
  by_cases c1 : KD b p (av (isL b) n p) = -1
  · rw [if_pos c1] at hX
    rw [← hX] at h
    exact absurd h (by show ¬ (1 : Int) = 0; decide)
  · rw [if_neg c1] at hX
    by_cases c2 : tm = true
    · rw [if_pos c2] at hX
      rw [← hX] at h
      exact absurd h (by show ¬ (4 : Int) = 0; decide)
    · rw [if_neg c2] at hX
      unfold CL2 at hX
      by_cases c3 : (ARG b n R (KD b p (av (isL b) n p)) (av (isB b) n (av (isL b) n p))).1 = 0
      · have v := ARG_v (by omega) hR c3
        rw [if_pos c3] at hX
        split at hX
        · rw [← hX]
          exact ⟨Bool.eq_false_iff.mpr c2, by dsimp only; omega, v, by dsimp only; omega⟩
        · rw [← hX] at h
          exact absurd h (by show ¬ (1 : Int) = 0; decide)
      · rw [if_neg c3] at hX
        rw [← hX] at h
        exact absurd h c3
def pos (b : Int → Int) (n R : Int) : Nat → Int
  | 0 => av (isB b) n 0
  | c + 1 => av (isB b) n (CLS b n R (decide (8 ≤ (c : Int))) (pos b n R c)).2.2.2.2
def clz (b : Int → Int) (n R i : Int) : Int × Int × Int × Int × Int := CLS b n R (decide (8 ≤ i)) (pos b n R i.toNat)
def ck (b : Int → Int) (n R i : Int) : Int := (clz b n R i).2.2.1
def cn (b : Int → Int) (n R i : Int) : Int := (clz b n R i).2.2.2.1
def GO (b : Int → Int) (n R : Int) (c : Nat) : Prop := ∀ i : Nat, i < c → pos b n R i < n ∧ (clz b n R i).1 = 0
def TLr (b : Int → Int) (n R : Int) (t : Int → Int) : Nat → Int → Int
  | 0 => t
  | c + 1 => tl2 (ck b n R c) (cn b n R c) (TLr b n R t c)
def STr (b : Int → Int) (n R : Int) : Nat → Int
  | 0 => 0
  | c + 1 => st2 (ck b n R c) (cn b n R c) (STr b n R c)
theorem GO_s {b : Int → Int} {n R : Int} {c : Nat} (h : GO b n R c) (h1 : pos b n R c < n) (h2 : (clz b n R c).1 = 0) : GO b n R (c + 1) := fun i hi => by
  by_cases e : i = c
  · rw [e]
    exact ⟨h1, h2⟩
  · exact h i (by omega)
theorem pos_bd {b : Int → Int} {n R : Int} (hn : 0 ≤ n) (hR : 0 ≤ R ∧ R ≤ 8) : ∀ {c : Nat}, GO b n R c → 0 ≤ pos b n R c ∧ pos b n R c ≤ n ∧ av (isB b) n (pos b n R c) = pos b n R c
  | 0, _ => by
    have := av_bd (isB b) hn
    exact ⟨this.1, this.2.1, av_i _ hn⟩
  | c + 1, h => by
    have a := pos_bd (b := b) hn hR (c := c) fun i hi => h i (by omega)
    have g := h c (by omega)
    have v := CLS_v (b := b) (tm := decide (8 ≤ (c : Int))) a.2.1 hR rfl (by have := g.2; unfold clz at this; rw [Int.toNat_natCast] at this; exact this)
    have := av_bd (isB b) v.2.2.2.2
    exact ⟨by show 0 ≤ av (isB b) n _; omega, this.2.1, av_i _ v.2.2.2.2⟩
theorem GO_8 {b : Int → Int} {n R : Int} (hn : 0 ≤ n) (hR : 0 ≤ R ∧ R ≤ 8) {c : Nat} (h : GO b n R c) : c ≤ 8 := by
  apply Classical.byContradiction
  intro g
  have a := pos_bd hn hR (c := 8) fun i hi => h i (by omega)
  have := h 8 (by omega)
  have v := CLS_v (b := b) a.2.1 hR rfl this.2
  exact absurd v.1 (by decide)
theorem cl_v {b : Int → Int} {n R : Int} (hn : 0 ≤ n) (hR : 0 ≤ R ∧ R ≤ 8) {c i : Nat} (h : GO b n R c) (hi : i < c) : (0 ≤ ck b n R i ∧ ck b n R i ≤ 7) ∧ (lowK (ck b n R i) ≤ cn b n R i ∧ cn b n R i ≤ higK (ck b n R i) ∧ (ck b n R i = 7 → cn b n R i < R)) := by
  have a := pos_bd hn hR (c := i) fun j hj => h j (by omega)
  have v := CLS_v (b := b) (tm := decide (8 ≤ (i : Int))) (p := pos b n R i) a.2.1 hR rfl (by have := (h i hi).2; unfold clz at this; rw [Int.toNat_natCast] at this; exact this)
  unfold ck cn clz
  rw [Int.toNat_natCast]
  exact ⟨v.2.1, v.2.2.1⟩
theorem TL_ok {b : Int → Int} {n R : Int} {t : Int → Int} {j : Int} (hj : 0 ≤ j ∧ j < 7) (ht : t j = -1) : ∀ c : Nat, TLr b n R t c j = lastK (ck b n R) (cn b n R) j 0 c
  | 0 => ht
  | c + 1 => by
    show tl2 (ck b n R c) (cn b n R c) (TLr b n R t c) j = if ck b n R (0 + (c : Int)) = j then cn b n R (0 + (c : Int)) else lastK (ck b n R) (cn b n R) j 0 c
    rw [Int.zero_add, ← TL_ok hj ht c]
    unfold tl2
    by_cases e : ck b n R c = 7
    · rw [if_pos e, if_neg (by omega)]
    · rw [if_neg e]
      by_cases e2 : j = ck b n R c
      · rw [if_pos e2.symm, if_pos e2]
      · rw [if_neg e2, if_neg fun q => e2 q.symm]
theorem ST_ok {b : Int → Int} {n R : Int} (hn : 0 ≤ n) (hR : 0 ≤ R ∧ R ≤ 8) : ∀ {c : Nat}, GO b n R c → STr b n R c = (mset (fun k => anyB (fun i => decide (ck b n R i = 7 ∧ cn b n R i = k)) c) 8 : Int)
  | 0, _ => by
    show (0 : Int) = _
    rw [mset_zero (fun k _ => rfl)]
    rfl
  | c + 1, h => by
    have ih := ST_ok (b := b) hn hR (c := c) fun i hi => h i (by omega)
    have v := cl_v hn hR h (i := c) (by omega)
    show st2 (ck b n R c) (cn b n R c) (STr b n R c) = _
    rw [ih]
    unfold st2
    by_cases e : ck b n R c = 7
    · have l7 : lowK (ck b n R c) = 0 := by rw [e]; rfl
      obtain ⟨t, ht⟩ := Int.eq_ofNat_of_zero_le (show 0 ≤ cn b n R c by omega)
      have t8 : t < 8 := by have := v.2.2.2 e; omega
      rw [if_pos e, ht, sbI (mset_le _ (n := 31) (by omega)) (by omega), mset_ins (p' := fun k => anyB (fun i => decide (ck b n R i = 7 ∧ cn b n R i = k)) (c + 1)) t8 fun k => by
        show (anyB _ c || decide (ck b n R c = 7 ∧ cn b n R c = k)) = _
        congr 1
        exact decide_eq_decide.mpr ⟨fun q => by have := q.2; omega, fun q => ⟨e, by omega⟩⟩]
    · rw [if_neg e]
      congr 1
      refine mset_cong fun k _ => ?_
      show _ = (anyB _ c || decide (ck b n R c = 7 ∧ cn b n R c = k))
      rw [decide_eq_false (fun q => e q.1), Bool.or_false]
section RD3
variable {P : Jg_} {L : Nat} {xs : Nat → Int32} {M0 : Mm_} {n w st : Int} {tl : Int → Int}
theorem s_clauseC (hP : Clo P) {Q : Qp_} {M : Mm_} {p c R : Int} (hn : n ≤ 120) (hro : ∀ a, a < 0 → M0 a = RMx L xs a) (hp : 0 ≤ p ∧ p < n) (h : CS M0 n p 0 w st tl M) {X : Int × Int × Int × Int × Int} (hX : CLS (M0 33) n R (decide (8 ≤ c)) p = X) (k1 : X.1 = 0 → ∀ M', CS M0 n X.2.2.2.2 0 w (st2 X.2.2.1 X.2.2.2.1 st) (tl2 X.2.2.1 X.2.2.2.1 tl) M' → Q none WF M') (k0 : ¬ X.1 = 0 → ∀ M' p' st' tl', 0 ≤ p' ∧ p' ≤ n → CS M0 n p' X.1 X.2.1 st' tl' M' → Q none WF M') : P 90 0 [some (2, 32), some (0, c), some (0, R), none, none] [] WF M (0, 0) Q := by
  obtain ⟨g1, g2, g3, -⟩ := id h
  have a1 := av_bd (isL (M0 33)) (show p ≤ n by omega)
  have a2 := av_bd (isB (M0 33)) a1.2.1
  have kb := KD_bd (M0 33) p (av (isL (M0 33)) n p)
  have a3 := ARG_bd (b := M0 33) (R := R) (kd := KD (M0 33) p (av (isL (M0 33)) n p)) a2.2.1
  have a4 := av_bd (isB (M0 33)) a3.2
  refine t_RuleReader_readClause_0 hP ?_
  rw [g3]
  refine s_eowC hP hn h hp.1 (t_RuleReader_readClause_8 hP (s_kindC hP hn hro h (by omega) (t_RuleReader_readClause_9 hP (fun c1 c2 => ?_) (fun c1 c2 => ?_) (fun c1 => ?_))))
  · refine s_eowC hP hn h hp.1 (t_RuleReader_readClause_30 hP (s_skipC hP hn _ _ _ rfl (by omega) (h.pl _) fun M2 h2 => ?_))
    have hX : CL2 (M0 33) n (av (isB (M0 33)) n (av (isL (M0 33)) n p)) (KD (M0 33) p (av (isL (M0 33)) n p)) (ARG (M0 33) n R (KD (M0 33) p (av (isL (M0 33)) n p)) (av (isB (M0 33)) n (av (isL (M0 33)) n p))) = X := by
      rw [← hX]
      unfold CLS
      rw [if_neg c1, if_neg (by rw [decide_eq_false (by omega)]; decide)]
    unfold CL2 at hX
    refine s_argC hP hn hro (by omega) (by omega) h2 (fun z M3 h3 => ?_) (fun z M3 p' hp' h3 => ?_)
    · rw [if_pos z] at hX
      refine t_RuleReader_readClause_53 hP (s_skipC hP hn _ _ _ rfl (by omega) h3 fun M4 h4 => ?_)
      obtain ⟨y1, y2, y3, y4, -⟩ := id h4
      have b1 : M4 33 = M0 33 := y1 33 (by decide) (by decide)
      have bad : ¬ (av (isB (M0 33)) n (ARG (M0 33) n R (KD (M0 33) p (av (isL (M0 33)) n p)) (av (isB (M0 33)) n (av (isL (M0 33)) n p))).2.2 < n ∧ M0 33 (av (isB (M0 33)) n (ARG (M0 33) n R (KD (M0 33) p (av (isL (M0 33)) n p)) (av (isB (M0 33)) n (av (isL (M0 33)) n p))).2.2) = 59) → Q none WF (updM (updM M4 32 5 1) 32 6 (M4 32 4)) := fun d => by
        rw [if_neg d] at hX
        have := h4.fw 1 (M4 32 4)
        rw [y3] at this ⊢
        rw [← hX] at k0
        exact k0 (by show ¬ (1 : Int) = 0; decide) _ _ _ _ (by omega) this
      refine t_RuleReader_readClause_55 hP (fun _ d => bad (by omega)) (fun _ _ d => bad (by rw [y3, b1] at d; exact fun q => d q.2)) (fun _ d1 d2 => ?_) (fun d => by omega)
      rw [y3, b1] at d2
      rw [if_pos ⟨by omega, d2⟩] at hX
      rw [← hX] at k1
      rw [y3]
      exact k1 rfl _ (h4.pl _)
    · rw [if_neg z] at hX
      refine t_RuleReader_readClause_53 hP (s_skipC hP hn _ _ _ rfl hp'.1 h3 fun M4 h4 => ?_)
      obtain ⟨y1, y2, y3, y4, -⟩ := id h4
      have a5 := av_bd (isB (M0 33)) hp'.2
      rw [← hX] at k0
      exact t_RuleReader_readClause_55 hP (fun d => absurd (y4.symm.trans d) z) (fun d => absurd (y4.symm.trans d) z) (fun d => absurd (y4.symm.trans d) z) (fun _ => k0 z M4 _ _ _ (by omega) h4)
  · have hX : (4, p, -1, 0, p) = X := by
      rw [← hX]
      unfold CLS
      rw [if_neg c1, if_pos (decide_eq_true (by omega))]
    rw [← hX] at k0
    exact k0 (by show ¬ (4 : Int) = 0; decide) _ p _ _ (by omega) (h.fw 4 p)
  · have hX : (1, p, -1, 0, p) = X := by
      rw [← hX]
      unfold CLS
      rw [if_pos c1]
    rw [← hX] at k0
    exact k0 (by show ¬ (1 : Int) = 0; decide) _ p _ _ (by omega) (h.fw 1 p)
theorem CS.ln {M : Mm_} {p f : Int} (h : CS M0 n p f w st tl M) (m : Int) : CS M0 m p f w st tl (updM M 32 3 m) := by
  obtain ⟨h1, h2, h3, h4, h5, h6, h7⟩ := h
  refine ⟨fun c c1 c2 => by rw [upd_r c1]; exact h1 c c1 c2, upd_s _ _ _ _, ?_, ?_, ?_, ?_, fun j => ?_⟩
  · rw [upd_i (by decide)]; exact h3
  · rw [upd_i (by decide)]; exact h4
  · rw [upd_i (by decide)]; exact h5
  · rw [upd_i (by decide)]; exact h6
  · rw [upd_c (by decide)]; exact h7 j
theorem s_readC (hP : Clo P) {Q : Qp_} {R : Int} (hn : 0 ≤ n ∧ n ≤ 120) (hR : 0 ≤ R ∧ R ≤ 8) (hro : ∀ a, a < 0 → M0 a = RMx L xs a) (h3 : M0 32 3 = n) (k1 : ∀ (c : Nat) M' t, GO (M0 33) n R c → n ≤ pos (M0 33) n R c → (∀ j, 0 ≤ j ∧ j < 7 → t j = -1) → CS M0 0 (pos (M0 33) n R c) 0 (-1) (STr (M0 33) n R c) (TLr (M0 33) n R t c) M' → Q (some (0, 0)) WF M') (k0 : ∀ (c : Nat) M' p' st' tl', GO (M0 33) n R c → pos (M0 33) n R c < n → ¬ (clz (M0 33) n R c).1 = 0 → CS M0 0 p' (clz (M0 33) n R c).1 (clz (M0 33) n R c).2.1 st' tl' M' → Q (some (0, (clz (M0 33) n R c).1)) WF M') : P 91 0 [some (2, 32), some (0, R), none] [] WF M0 (0, 0) Q := by
  refine t_RuleReader_read_0 hP ?_
  obtain ⟨t, ht⟩ : ∃ t : Int → Int, t = fun j => if 0 ≤ j ∧ j < 7 then -1 else M0 34 j := ⟨_, rfl⟩
  have t1 : ∀ j, 0 ≤ j ∧ j < 7 → t j = -1 := fun j hj => by rw [ht]; exact if_pos hj
  refine lpN (n := 7) (f := fun i : Nat => ∀ M', CS M0 n 0 0 (-1) 0 (fun j => if 0 ≤ j ∧ j < i then -1 else M0 34 j) M' → P 91 14 [some (2, 32), some (0, R), some (0, (i : Int))] [] WF M' (0, 0) Q) ?_ ?_ 0 (Nat.zero_le _) _ ?_
  · intro M' h
    have h : CS M0 n 0 0 (-1) 0 t M' := by rw [ht]; exact h
    refine t_RuleReader_read_14 hP (fun _ => s_skipC hP hn.2 _ _ _ rfl (Int.le_refl _) h fun M2 h2 => t_RuleReader_read_26 hP ?_) (fun q => by omega)
    refine lpN (n := 9) (f := fun c : Nat => ∀ M', GO (M0 33) n R c → CS M0 n (pos (M0 33) n R c) 0 (-1) (STr (M0 33) n R c) (TLr (M0 33) n R t c) M' → P 91 28 [some (2, 32), some (0, R), some (0, (c : Int))] [] WF M' (0, 0) Q) ?_ ?_ 0 (Nat.zero_le _) M2 (fun i hi => by omega) h2
    · intro M3 g
      have := GO_8 hn.1 hR g
      omega
    · intro c hc ih M3 g h3
      obtain ⟨y1, y2, y3, y4, -⟩ := id h3
      have pb := pos_bd hn.1 hR g
      have cx : CLS (M0 33) n R (decide (8 ≤ (c : Int))) (pos (M0 33) n R c) = clz (M0 33) n R c := by
        unfold clz
        rw [Int.toNat_natCast]
      refine t_RuleReader_read_28 hP (fun q => by omega) (fun _ q => ?_) (fun _ _ q => by omega) (fun _ q _ => ?_)
      · rw [y4]
        exact k1 c _ t g (by omega) t1 (h3.ln 0)
      · refine s_clauseC hP hn.2 hro (by omega) h3 cx (fun z M4 h4 => ?_) (fun z M4 p' st' tl' hp' h4 => ?_)
        · have v := CLS_v pb.2.1 hR cx z
          refine t_RuleReader_read_43 hP (s_skipC hP hn.2 _ _ _ rfl (by omega) h4 fun M5 h5 => t_RuleReader_read_45 hP (ih M5 (GO_s g (by omega) z) ?_))
          show CS M0 n (av (isB (M0 33)) n (CLS (M0 33) n R (decide (8 ≤ (c : Int))) (pos (M0 33) n R c)).2.2.2.2) 0 (-1) (st2 (clz (M0 33) n R c).2.2.1 (clz (M0 33) n R c).2.2.2.1 (STr (M0 33) n R c)) (tl2 (clz (M0 33) n R c).2.2.1 (clz (M0 33) n R c).2.2.2.1 (TLr (M0 33) n R t c)) M5
          rw [cx]
          exact h5
        · refine t_RuleReader_read_43 hP (s_skipC hP hn.2 _ _ _ rfl hp'.1 h4 fun M5 h5 => t_RuleReader_read_45 hP ?_)
          obtain ⟨w1, w2, w3, w4, -⟩ := id h5
          have fin : Q (some (0, M5 32 5)) WF (updM M5 32 3 0) := by
            rw [w4]
            exact k0 c _ _ _ _ g (by omega) z (h5.ln 0)
          exact t_RuleReader_read_28 hP (fun _ => fin) (fun _ _ => fin) (fun _ _ _ => fin) (fun _ _ q => absurd (w4.symm.trans q) z)
  · intro i hi ih M' h
    refine t_RuleReader_read_14 hP (fun q => by omega) (fun _ => ih _ ?_)
    have := h.td i (-1)
    have e : (fun j : Int => if j = (i : Int) then (-1 : Int) else if 0 ≤ j ∧ j < (i : Int) then -1 else M0 34 j) = fun j : Int => if 0 ≤ j ∧ j < ((i + 1 : Nat) : Int) then -1 else M0 34 j := funext fun j => by
      by_cases c1 : j = i
      · rw [if_pos c1, if_pos (by omega)]
      · rw [if_neg c1]
        by_cases c2 : 0 ≤ j ∧ j < (i : Int)
        · rw [if_pos c2, if_pos (by omega)]
        · rw [if_neg c2, if_neg (by omega)]
    rw [← e]
    exact this
  · refine ⟨fun c c1 c2 => by rw [upd_r c1, upd_r c1, upd_r c1, upd_r c1], ?_, ?_, ?_, ?_, upd_s _ _ _ _, fun j => ?_⟩
    · rw [upd_i (by decide), upd_i (by decide), upd_i (by decide), upd_i (by decide)]; exact h3
    · rw [upd_i (by decide), upd_s]
    · rw [upd_i (by decide), upd_i (by decide), upd_i (by decide), upd_s]
    · rw [upd_i (by decide), upd_i (by decide), upd_s]
    · show _ = if 0 ≤ j ∧ j < ((0 : Nat) : Int) then -1 else M0 34 j
      rw [if_neg (by omega), upd_c (by decide), upd_c (by decide), upd_c (by decide), upd_c (by decide)]
end RD3
