/-! PIECES one behind the other -/
def stB (Z : Int → Int) (i : Int) : Bool := decide (cst Z i.toNat = i ∧ 0 < Z i)
def tkB (Z : Int → Int) (i : Int) : Bool := decide (0 < Z (cst Z i.toNat))
theorem cst_s (Z : Int → Int) (q : Nat) : cst Z (q + 1) = if (q : Int) + 1 < cst Z q + Z (cst Z q) then cst Z q else (q : Int) + 1 := rfl
theorem cst_in {Z : Int → Int} {i : Nat} (h : cst Z i = i) : ∀ d : Nat, (d : Int) < Z i → cst Z (i + d) = i
  | 0, _ => h
  | d + 1, hd => by
    show cst Z (i + d + 1) = i
    rw [cst_s, cst_in h d (by omega), if_pos (by omega)]
theorem cst_nx {Z : Int → Int} {i d : Nat} (h : cst Z i = i) (hd : Z i = (d : Int) + 1) : cst Z (i + (d + 1)) = ((i + (d + 1) : Nat) : Int) := by
  show cst Z (i + d + 1) = _
  rw [cst_s, cst_in h d (by omega), if_neg (by omega)]
  omega
theorem cst_1 {Z : Int → Int} {i : Nat} (h : cst Z i = i) (hd : Z i ≤ 0) : cst Z (i + 1) = ((i + 1 : Nat) : Int) := by
  rw [cst_s, h, if_neg (by omega)]
  rfl
theorem st_cnt {Z : Int → Int} {i : Nat} (h : cst Z i = i) (hz : 0 < Z i) : ∀ d : Nat, 1 ≤ d → (d : Int) ≤ Z i → cntB (stB Z) (i + d) = cntB (stB Z) i + 1 ∧ cntB (tkB Z) (i + d) = cntB (tkB Z) i + d
  | 0, h0, _ => by omega
  | d + 1, _, hd => by
    have c := cst_in h d (by omega)
    have tk : tkB Z ((i + d : Nat) : Int) = true := by
      unfold tkB
      rw [Int.toNat_natCast, c, decide_eq_true_iff]
      exact hz
    by_cases e : d = 0
    · subst e
      have st : stB Z (i : Int) = true := by
        unfold stB
        rw [Int.toNat_natCast, decide_eq_true_iff]
        exact ⟨h, hz⟩
      exact ⟨cntB_t st, cntB_t tk⟩
    · obtain ⟨a1, a2⟩ := st_cnt h hz d (by omega) (by omega)
      have st : ¬ stB Z ((i + d : Nat) : Int) = true := by
        unfold stB
        rw [Int.toNat_natCast, c, decide_eq_true_iff]
        omega
      refine ⟨?_, ?_⟩
      · show cntB (stB Z) (i + d + 1) = _
        rw [cntB_f st, a1]
      · show cntB (tkB Z) (i + d + 1) = _
        rw [cntB_t tk, a2]
        omega
theorem st_cnt0 {Z : Int → Int} {i : Nat} (h : cst Z i = i) (hz : Z i ≤ 0) : cntB (stB Z) (i + 1) = cntB (stB Z) i ∧ cntB (tkB Z) (i + 1) = cntB (tkB Z) i := by
  refine ⟨cntB_f ?_, cntB_f ?_⟩
  · unfold stB
    rw [decide_eq_true_iff]
    omega
  · unfold tkB
    rw [Int.toNat_natCast, h, decide_eq_true_iff]
    omega
theorem EX_Z {op : Int → Int → Bool} {least n : Int} {F : Int → Int × Int × Int} (h : EX op least n F) {i : Int} (hi : 0 ≤ i ∧ i < n) : (F i).2.2 = 0 ∨ least ≤ (F i).2.2 ∧ (F i).2.2 ≤ n - i ∧ op i (F i).2.2 = true := by
  rcases (h.2.2 i hi).1 with b | b
  · exact Or.inl b.1
  · exact Or.inr ⟨b.1, b.2.1, b.2.2.1⟩
theorem chain_sum {op : Int → Int → Bool} {least : Int} {n : Nat} {F : Int → Int × Int × Int} (hl : 1 ≤ least) (h : EX op least n F) : ∀ i : Nat, i ≤ n → (i = n ∨ cst (fun j => (F j).2.2) i = i) → (cntB (stB fun j => (F j).2.2) n : Int) = (cntB (stB fun j => (F j).2.2) i : Int) + (F i).2.1 ∧ (cntB (tkB fun j => (F j).2.2) n : Int) = (cntB (tkB fun j => (F j).2.2) i : Int) + (F i).1 := by
  have key : ∀ d : Nat, ∀ i : Nat, i ≤ n → n - i ≤ d → (i = n ∨ cst (fun j => (F j).2.2) i = i) → (cntB (stB fun j => (F j).2.2) n : Int) = (cntB (stB fun j => (F j).2.2) i : Int) + (F i).2.1 ∧ (cntB (tkB fun j => (F j).2.2) n : Int) = (cntB (tkB fun j => (F j).2.2) i : Int) + (F i).1 := by
    intro d
    induction d with
    | zero =>
      intro i h1 h2 _
      rw [show i = n by omega, h.1, h.2.1]
      omega
    | succ d ih =>
      intro i h1 h2 hv
      by_cases e : i = n
      · rw [e, h.1, h.2.1]
        omega
      · have hv := hv.resolve_left e
        rcases (h.2.2 i (by omega)).1 with ⟨b1, b2, b3⟩ | ⟨b1, b2, b3, b4, b5⟩
        · have c := st_cnt0 (Z := fun j => (F j).2.2) hv (by show (F i).2.2 ≤ 0; omega)
          have nv := cst_1 (Z := fun j => (F j).2.2) hv (by show (F i).2.2 ≤ 0; omega)
          obtain ⟨g1, g2⟩ := ih (i + 1) (by omega) (by omega) (Or.inr nv)
          rw [c.1] at g1
          rw [c.2] at g2
          rw [b2, b3]
          exact ⟨g1, g2⟩
        · obtain ⟨z, hz⟩ : ∃ z : Nat, (F i).2.2 = (z : Int) + 1 := ⟨((F i).2.2 - 1).toNat, by omega⟩
          have c := st_cnt (Z := fun j => (F j).2.2) hv (by show 0 < (F i).2.2; omega) (z + 1) (by omega) (by show _ ≤ (F i).2.2; omega)
          have nv := cst_nx (Z := fun j => (F j).2.2) hv hz
          obtain ⟨g1, g2⟩ := ih (i + (z + 1)) (by omega) (by omega) (Or.inr nv)
          rw [c.1] at g1
          rw [c.2] at g2
          rw [show ((i + (z + 1) : Nat) : Int) = (i : Int) + (F i).2.2 by omega] at g1 g2
          omega
  exact fun i h1 hv => key _ i h1 (Nat.le_refl _) hv
theorem cnt_hit {q : Int → Bool} : ∀ {n p : Nat}, p < cntB q n → ∃ i : Nat, i < n ∧ q i = true ∧ cntB q i = p
  | 0, p, h => by
    have : cntB q 0 = 0 := rfl
    omega
  | n + 1, p, h => by
    by_cases e : p < cntB q n
    · obtain ⟨i, h1, h2⟩ := cnt_hit e
      exact ⟨i, by omega, h2⟩
    · by_cases hq : q n = true
      · rw [cntB_t hq] at h
        exact ⟨n, by omega, hq, by omega⟩
      · rw [cntB_f hq] at h
        exact absurd h e
/-- the place of the p-th piece -/
def pS (Z : Int → Int) (n : Nat) (p : Int) : Int := fstB (fun i => stB Z i && decide ((cntB (stB Z) i.toNat : Int) = p)) n
theorem pS_eq {Z : Int → Int} {n i : Nat} {p : Int} (hi : i < n) (h : stB Z i = true) (hp : (cntB (stB Z) i : Int) = p) : pS Z n p = i := by
  refine fstB_eq (by omega) (by rw [h, Int.toNat_natCast, decide_eq_true hp]; rfl) fun j j0 j1 => ?_
  obtain ⟨j, rfl⟩ := Int.eq_ofNat_of_zero_le j0
  rw [Bool.and_eq_false_iff, Int.toNat_natCast, decide_eq_false_iff_not]
  by_cases e : stB Z j = true
  · right
    have := cntB_t e
    have := cntB_mono (p := stB Z) (m := j + 1) (n := i) (by omega)
    omega
  · left
    exact Bool.eq_false_iff.mpr e
theorem pS_none {Z : Int → Int} {n : Nat} {p : Int} (h : p < 0 ∨ (cntB (stB Z) n : Int) ≤ p) : pS Z n p = -1 := fstB_none fun i hi => by
  rw [Bool.and_eq_false_iff, Int.toNat_natCast, decide_eq_false_iff_not]
  by_cases e : stB Z i = true
  · right
    have := cntB_t e
    have := cntB_mono (p := stB Z) (m := i + 1) (n := n) (by omega)
    omega
  · left
    exact Bool.eq_false_iff.mpr e
section EC
variable {P : Jg_} {L : Nat} {xs : Nat → Int32} {B : Mm_}
theorem cst_cong {Z Z' : Int → Int} {n : Nat} (h : ∀ j : Nat, j < n → Z j = Z' j) : ∀ i : Nat, i ≤ n → cst Z i = cst Z' i
  | 0, _ => rfl
  | i + 1, hi => by
    rw [cst_s, cst_s, cst_cong h i (by omega)]
    have b := cst_bd Z' i
    have := h (cst Z' i).toNat (by omega)
    rw [Int.toNat_of_nonneg b.1] at this
    rw [this]
theorem s_explC (hP : Clo P) {Q : Qp_} {M : Mm_} {x : Int} {Sp : Int → Bool} (hS : Sc B M) (hW : WfC L xs B) (hx : 0 ≤ x ∧ x < B 112 0) (hL : Lk B x M) (hSp : ∀ y, Sp y = true → alS B x y = true) (k : ∀ M', Fr 64 69 M M' → EX (opn B x Sp) (lws B x 0) (B 115 x) (exF B x Sp) → M' 64 6 = (cntB (stB (exZ B x Sp)) (B 115 x).toNat : Int) → M' 64 7 = (mset (tkB (exZ B x Sp)) (B 115 x).toNat : Int) → (∀ i : Nat, (i : Int) < B 115 x → stB (exZ B x Sp) i = true → M' 68 (cntB (stB (exZ B x Sp)) i : Int) = i ∧ M' 69 (cntB (stB (exZ B x Sp)) i : Int) = exZ B x Sp i) → Q none WF M') : P 138 0 [some (2, 64), some (0, (mset Sp 10 : Int)), none, none] [] WF M (0, 0) Q := by
  have lb := lws_bd hW.2.2.2 x
  have hT := hW.2.1.1.2.1
  have X := rdX hS hW.2.1 (x := x) (by omega)
  refine t_Explanation_explain_0 hP (s_weigh hP hS hW hx hL hSp fun M1 F1 hE => t_Explanation_explain_3 hP ?_)
  obtain ⟨e1, e2, e3, e4⟩ := exF_eq (by omega) hE
  obtain ⟨Z, hZ⟩ : ∃ Z, Z = exZ B x Sp := ⟨_, rfl⟩
  have z67 : ∀ i, 0 ≤ i ∧ i < B 115 x → M1 67 i = Z i := fun i hi => by
    rw [hZ]
    exact congrArg (fun t => t.2.2) (e2 i hi)
  have zb : ∀ i, 0 ≤ i ∧ i < B 115 x → 0 ≤ Z i ∧ i + Z i ≤ B 115 x := fun i hi => by
    rw [hZ]
    rcases EX_Z e1 hi with g | g
    · show 0 ≤ (exF B x Sp i).2.2 ∧ i + (exF B x Sp i).2.2 ≤ _
      omega
    · show 0 ≤ (exF B x Sp i).2.2 ∧ i + (exF B x Sp i).2.2 ≤ _
      omega
  rw [← hZ] at k
  refine lpN (n := (B 115 x).toNat) (f := fun i : Nat => ∀ (M' : Mm_) (nx : Int), Fr 64 69 M M' → (∀ j, 0 ≤ j ∧ j < B 115 x → M' 67 j = Z j) → M' 64 6 = (cntB (stB Z) i : Int) → M' 64 7 = (mset (tkB Z) i : Int) → (∀ j : Nat, j < i → stB Z j = true → M' 68 (cntB (stB Z) j : Int) = j ∧ M' 69 (cntB (stB Z) j : Int) = Z j) → (nx ≤ i ∧ cst Z i = i ∨ (i : Int) < nx ∧ nx = cst Z i + Z (cst Z i) ∧ cst Z i < i) → P 138 14 [some (2, 64), none, some (0, nx), some (0, (i : Int))] [] WF M' (0, 0) Q) ?_ ?_ 0 (Nat.zero_le _) _ 0 (((F1.mono (by omega)).u (by omega)).u (by omega)) (fun j hj => by rw [upd_c (by decide), upd_c (by decide)]; exact z67 j hj) (by rw [upd_i (by decide), upd_s]; rfl) (by rw [upd_s]; rfl) (fun j hj => by omega) (Or.inl ⟨Int.le_refl _, rfl⟩)
  · intro M' nx F' g1 g2 g3 g4 g5
    have h10 : M' 47 10 = B 115 x := by rw [F' 47 (by omega)]; exact hL.1.1
    exact t_Explanation_explain_14 hP (fun _ => k M' F' e1 g2 g3 fun j hj => g4 j (by omega)) (fun q => by omega) (fun q => by omega) (fun q => by omega) (fun q => by omega) (fun q => by omega) (fun q => by omega)
  · intro i hi ih M' nx F' g1 g2 g3 g4 g5
    have h10 : M' 47 10 = B 115 x := by rw [F' 47 (by omega)]; exact hL.1.1
    have zi := zb i (by omega)
    have z1 := g1 i (by omega)
    have cb := cntB_le (stB Z) i
    have mb : mset (tkB Z) i < 9223372036854775808 := mset_le _ (n := 63) (by omega)
    have nxb : nx ≤ 60 ∨ nx ≤ i := by
      rcases g5 with g | g
      · right; omega
      · left
        have cd := cst_bd Z i
        have := zb (cst Z i) (by omega)
        omega
    refine t_Explanation_explain_14 hP (fun q => by omega) (fun _ q1 q2 => by omega) (fun _ q1 q2 => ?_) (fun _ q1 q2 q3 => ?_) (fun _ q1 q2 q3 => by omega) (fun _ q1 q2 q3 => by omega) (fun _ q1 q2 q3 => ?_)
    · have g6 := g5.resolve_left (by omega)
      have cd := cst_bd Z i
      have tk : tkB Z (i : Int) = true := by
        unfold tkB
        rw [Int.toNat_natCast, decide_eq_true_iff]
        omega
      have ns : ¬ stB Z (i : Int) = true := by
        unfold stB
        rw [Int.toNat_natCast, decide_eq_true_iff]
        omega
      rw [g3, sbL mb (by omega), mset_put tk]
      refine ih _ nx (F'.u (by omega)) (fun j hj => by rw [upd_c (by decide)]; exact g1 j hj) (by rw [upd_i (by decide), cntB_f ns]; exact g2) (upd_s _ _ _ _) (fun j hj hs => ?_) ?_
      · rw [upd_c (by decide), upd_c (by decide)]
        by_cases e : j = i
        · rw [e] at hs
          exact absurd hs ns
        · exact g4 j (by omega) hs
      · rw [cst_s]
        by_cases e : (i : Int) + 1 < cst Z i + Z (cst Z i)
        · rw [if_pos e]
          right
          exact ⟨by omega, g6.2.1, by omega⟩
        · rw [if_neg e]
          left
          exact ⟨by omega, rfl⟩
    · have g6 := g5.resolve_right (by omega)
      have zz : Z i = 0 := by omega
      have tk : ¬ tkB Z (i : Int) = true := by
        unfold tkB
        rw [Int.toNat_natCast, g6.2, decide_eq_true_iff]
        omega
      have ns : ¬ stB Z (i : Int) = true := by
        unfold stB
        rw [Int.toNat_natCast, decide_eq_true_iff]
        omega
      refine ih M' nx F' g1 (by rw [cntB_f ns]; exact g2) (by rw [mset_skip tk]; exact g3) (fun j hj hs => ?_) (Or.inl ⟨by omega, cst_1 g6.2 (by omega)⟩)
      by_cases e : j = i
      · rw [e] at hs
        exact absurd hs ns
      · exact g4 j (by omega) hs
    · have g6 := g5.resolve_right (by omega)
      rw [z1] at q2
      have tk : tkB Z (i : Int) = true := by
        unfold tkB
        rw [Int.toNat_natCast, g6.2, decide_eq_true_iff]
        omega
      have ns : stB Z (i : Int) = true := by
        unfold stB
        rw [Int.toNat_natCast, decide_eq_true_iff]
        exact ⟨g6.2, by omega⟩
      rw [g3, sbL mb (by omega), mset_put tk, z1, g2]
      refine ih _ _ ((((F'.u (by omega)).u (by omega)).u (by omega)).u (by omega)) (fun j hj => by rw [upd_c (by decide), upd_c (by decide), upd_c (by decide), upd_c (by decide)]; exact g1 j hj) (by rw [upd_i (by decide), upd_s, cntB_t ns]; rfl) (upd_s _ _ _ _) (fun j hj hs => ?_) ?_
      · by_cases e : j = i
        · rw [e]
          refine ⟨?_, ?_⟩
          · rw [upd_c (by decide), upd_c (by decide), upd_c (by decide), upd_s]
          · rw [upd_c (by decide), upd_c (by decide), upd_s]
        · have := cntB_t hs
          have := cntB_mono (p := stB Z) (m := j + 1) (n := i) (by omega)
          obtain ⟨h68, h69⟩ := g4 j (by omega) hs
          refine ⟨?_, ?_⟩
          · rw [upd_c (by decide), upd_c (by decide), upd_c (by decide), upd_i (by omega)]
            exact h68
          · rw [upd_c (by decide), upd_c (by decide), upd_i (by omega), upd_c (by decide)]
            exact h69
      · rw [cst_s, g6.2]
        by_cases e : (i : Int) + 1 < i + Z i
        · rw [if_pos e]
          right
          exact ⟨by omega, rfl, by omega⟩
        · rw [if_neg e]
          left
          exact ⟨by omega, rfl⟩
end EC
