/-! rows of words -/
def cod (B : Mm_) (x i : Int) : Nat → Int
  | 0 => 0
  | m + 1 => cod B x i m * 201 + B 116 (60 * x + (i + m))
theorem cod_bd {B : Mm_} {x i : Int} : ∀ {m : Nat}, (∀ q : Nat, q < m → 1 ≤ B 116 (60 * x + (i + q)) ∧ B 116 (60 * x + (i + q)) ≤ 200) → 0 ≤ cod B x i m ∧ cod B x i m < (201 ^ m : Nat)
  | 0, _ => ⟨Int.le_refl _, by show (0 : Int) < 1; decide⟩
  | m + 1, h => by
    have a := cod_bd (m := m) fun q hq => h q (by omega)
    have b := h m (by omega)
    have e : cod B x i (m + 1) = cod B x i m * 201 + B 116 (60 * x + (i + m)) := rfl
    have e2 : (201 ^ (m + 1) : Nat) = 201 ^ m * 201 := Nat.pow_succ ..
    omega
theorem cod_b4 {B : Mm_} {x i : Int} {m : Nat} (hm : m ≤ 5) (h : ∀ q : Nat, q < m → 1 ≤ B 116 (60 * x + (i + q)) ∧ B 116 (60 * x + (i + q)) ≤ 200) : 0 ≤ cod B x i m ∧ cod B x i m < 328080401001 := by
  have a := cod_bd h
  have : (201 ^ m : Nat) ≤ 201 ^ 5 := Nat.pow_le_pow_right (by decide) hm
  have e : (201 ^ 5 : Nat) = 328080401001 := by decide
  omega
theorem cod_inj {B : Mm_} {x i y j : Int} : ∀ {m : Nat}, (∀ q : Nat, q < m → 1 ≤ B 116 (60 * x + (i + q)) ∧ B 116 (60 * x + (i + q)) ≤ 200) → (∀ q : Nat, q < m → 1 ≤ B 116 (60 * y + (j + q)) ∧ B 116 (60 * y + (j + q)) ≤ 200) → (cod B x i m = cod B y j m ↔ ∀ q : Int, 0 ≤ q ∧ q < m → B 116 (60 * x + (i + q)) = B 116 (60 * y + (j + q)))
  | 0, _, _ => ⟨fun _ q hq => by omega, fun _ => rfl⟩
  | m + 1, h, g => by
    have ih := cod_inj (m := m) (fun q hq => h q (by omega)) (fun q hq => g q (by omega))
    have a := h m (by omega)
    have b := g m (by omega)
    have e1 : cod B x i (m + 1) = cod B x i m * 201 + B 116 (60 * x + (i + m)) := rfl
    have e2 : cod B y j (m + 1) = cod B y j m * 201 + B 116 (60 * y + (j + m)) := rfl
    constructor
    · intro e q hq
      have c1 : cod B x i m = cod B y j m := by omega
      have c2 : B 116 (60 * x + (i + m)) = B 116 (60 * y + (j + m)) := by omega
      by_cases c : q = m
      · rw [c]
        exact c2
      · exact ih.mp c1 q (by omega)
    · intro e
      have c1 := ih.mpr fun q hq => e q (by omega)
      have c2 := e m (by omega)
      omega
def nrR (B : Mm_) (x r : Int) : Nat := (B 115 x + 1 - r).toNat
def cd (B : Mm_) (x r i : Int) : Int := cod B x i r.toNat
/-- the first of its kind -/
def foB (g : Int → Int) (i : Int) : Bool := !anyB (fun j => decide (g j = g i)) i.toNat
def ibB (g : Int → Int) (n : Nat) (v : Int) : Bool := anyB (fun j => decide (g j = v)) n
theorem anyB_cnt (p : Int → Bool) : ∀ n, anyB p n = decide (0 < cntB p n)
  | 0 => rfl
  | n + 1 => by
    show (anyB p n || p n) = _
    rw [anyB_cnt p n]
    by_cases h : p n = true
    · rw [cntB_t h, h, Bool.or_true]
      exact (decide_eq_true (by omega)).symm
    · rw [cntB_f h, Bool.eq_false_iff.mpr h, Bool.or_false]
theorem fo_one (g : Int → Int) (v : Int) : ∀ n : Nat, cntB (fun j => foB g j && decide (g j = v)) n = if ibB g n v then 1 else 0
  | 0 => rfl
  | n + 1 => by
    have ih := fo_one g v n
    have e : ibB g (n + 1) v = (ibB g n v || decide (g n = v)) := rfl
    rw [e]
    by_cases h : g n = v
    · have f : foB g n = !ibB g n v := by
        unfold foB ibB
        rw [h, Int.toNat_natCast]
      rw [decide_eq_true h, Bool.or_true, if_pos rfl]
      cases c : ibB g n v with
      | true =>
        rw [c] at ih
        rw [cntB_f (by rw [f, c]; simp), ih, if_pos rfl]
      | false =>
        rw [c] at ih
        rw [cntB_t (by rw [f, c, decide_eq_true h]; rfl), ih]
        rfl
    · rw [decide_eq_false h, Bool.or_false, cntB_f (by rw [decide_eq_false h]; simp), ih]
theorem cntB_ins {q q' : Int → Bool} {pl : Nat} : ∀ {s : Nat}, pl ≤ s → (∀ j : Nat, j < pl → q' j = q j) → (∀ j : Nat, pl ≤ j → j < s → q' ((j + 1 : Nat) : Int) = q j) → cntB q' (s + 1) = cntB q s + (if q' pl then 1 else 0)
  | 0, h, _, _ => by
    have : pl = 0 := by omega
    subst this
    rfl
  | s + 1, h, h1, h2 => by
    by_cases e : pl = s + 1
    · subst e
      show cntB q' (s + 1) + _ = _
      rw [cntB_cong h1]
    · have ih := cntB_ins (q := q) (q' := q') (pl := pl) (s := s) (by omega) h1 fun j j1 j2 => h2 j j1 (by omega)
      show cntB q' (s + 1) + _ = cntB q s + _ + _
      rw [ih, h2 s (by omega) (by omega)]
      omega
def Srt (c : Int → Int) (s : Int) : Prop := ∀ i j, 0 ≤ i → i < j → j < s → c i < c j
/-- the class's row of the first i rows of x -/
def FL (B M : Mm_) (x r : Int) (i : Nat) : Prop := ∃ s : Nat, M 105 x = s ∧ s ≤ i ∧ Srt (M (95 + x)) s ∧ ∀ p : Int → Bool, cntB (fun j => p (M (95 + x) j)) s = cntB (fun j => foB (cd B x r) j && p (cd B x r j)) i
def Fq (x : Int) (M M' : Mm_) : Prop := (∀ c, c ≠ 95 + x → c ≠ 105 → M' c = M c) ∧ ∀ z, z ≠ x → M' 105 z = M 105 z
theorem Fq.refl (x : Int) (M : Mm_) : Fq x M M := ⟨fun _ _ _ => rfl, fun _ _ => rfl⟩
theorem Fq.trans {x : Int} {M M1 M2 : Mm_} (h : Fq x M M1) (g : Fq x M1 M2) : Fq x M M2 := ⟨fun c c1 c2 => (g.1 c c1 c2).trans (h.1 c c1 c2), fun z hz => (g.2 z hz).trans (h.2 z hz)⟩
theorem Fq.fr {x : Int} {M M1 : Mm_} (h : Fq x M M1) (hx : 0 ≤ x ∧ x < 10) : Fr 93 111 M M1 := fun c hc => h.1 c (by omega) (by omega)
theorem Fq.fl {x z r : Int} {i : Nat} {B M M1 : Mm_} (h : Fq x M M1) (hz : z ≠ x) (hb : 0 ≤ z ∧ z < 10) (g : FL B M z r i) : FL B M1 z r i := by
  unfold FL
  rw [h.1 (95 + z) (by omega) (by omega), h.2 z hz]
  exact g
section RW
variable {P : Jg_} {L : Nat} {xs : Nat → Int32} {B : Mm_}
theorem s_insert (hP : Clo P) {Q : Qp_} {M : Mm_} {x v : Int} {s : Nat} (hx : 0 ≤ x ∧ x < 10) (hs : M 105 x = s) (h60 : s < 60) (hc : Srt (M (95 + x)) s) (k0 : (∃ j : Int, 0 ≤ j ∧ j < s ∧ M (95 + x) j = v) → Q none WF M) (k1 : ∀ (pl : Nat) M', pl ≤ s → (∀ j : Int, 0 ≤ j ∧ j < pl → M (95 + x) j < v) → (∀ j : Int, pl ≤ j ∧ j < s → v < M (95 + x) j) → Fq x M M' → M' 105 x = s + 1 → (∀ j : Int, 0 ≤ j ∧ j ≤ s → M' (95 + x) j = if j < pl then M (95 + x) j else if j = pl then v else M (95 + x) (j - 1)) → Q none WF M') : P 179 0 [some (2, 93), some (0, x), some (1, v), none, none, none, none, none] [] WF M (0, 0) Q := by
  have tr : TR 94 10 (95 + x) := tr_of94 hx
  refine t_RowTable_insert_0 hP ?_
  rw [hs]
  refine lpD (n := 0) (hi := s) (f := fun z => (∀ j, z ≤ j ∧ j < s → v < M (95 + x) j) → P 179 10 [some (2, 93), some (0, x), some (1, v), none, some (2, 95 + x), some (0, z), none, none] [] WF M (0, 0) Q) ?_ ?_ s (by omega) (Int.le_refl _) (fun j hj => by omega)
  all_goals
    have put : ∀ pl : Nat, pl ≤ s → (∀ j : Int, 0 ≤ j ∧ j < pl → M (95 + x) j < v) → (∀ j : Int, pl ≤ j ∧ j < s → v < M (95 + x) j) → P 179 50 [some (2, 93), some (0, x), some (1, v), none, some (2, 95 + x), some (0, (pl : Int)), none, some (0, M 105 x)] [] WF M (0, 0) Q := by
      intro pl hpl g1 g2
      rw [hs]
      refine lpD (n := pl) (hi := s) (f := fun z => ∀ M', Fq x M M' → M' 105 x = s → (∀ j : Int, M' (95 + x) j = if z < j ∧ j ≤ s then M (95 + x) (j - 1) else M (95 + x) j) → P 179 50 [some (2, 93), some (0, x), some (1, v), none, some (2, 95 + x), some (0, (pl : Int)), none, some (0, z)] [] WF M' (0, 0) Q) ?_ ?_ s (by omega) (Int.le_refl _) M (Fq.refl _ _) hs (fun j => by rw [if_neg (by omega)])
      · intro M' F' h5 hj
        refine t_RowTable_insert_50 hP tr (fun _ => k1 pl _ hpl g1 g2 ⟨fun c c1 c2 => ?_, fun z hz => ?_⟩ ?_ fun j j0 => ?_) (fun q => by omega)
        · rw [upd_r c2, upd_r c1]
          exact F'.1 c c1 c2
        · rw [upd_i hz, upd_c (by omega)]
          exact F'.2 z hz
        · rw [upd_s, h5]
        · rw [upd_c (by omega)]
          by_cases e : j = pl
          · rw [e, upd_s, if_neg (by omega), if_pos rfl]
          · rw [upd_i e, hj]
            by_cases e2 : j < pl
            · rw [if_pos e2, if_neg (by omega)]
            · rw [if_neg e2, if_neg e, if_pos (by omega)]
      · intro z z0 z1 ih M' F' h5 hj
        refine t_RowTable_insert_50 hP tr (fun q => by omega) (fun _ => ih _ ⟨fun c c1 c2 => ?_, fun z hz => ?_⟩ ?_ fun j => ?_)
        · rw [upd_r c1]
          exact F'.1 c c1 c2
        · rw [upd_c (by omega)]
          exact F'.2 z hz
        · rw [upd_c (by omega), h5]
        · by_cases e : j = z
          · rw [e, upd_s, hj, if_neg (by omega), if_pos (by omega)]
          · rw [upd_i e, hj]
            by_cases e2 : z < j ∧ j ≤ s
            · rw [if_pos e2, if_pos (by omega)]
            · rw [if_neg e2, if_neg (by omega)]
  · intro g
    exact t_RowTable_insert_10 hP tr (fun _ => t_RowTable_insert_22 hP tr (fun _ _ => put 0 (by omega) (fun j hj => by omega) g) (fun _ q => by omega) (fun q => absurd (Int.le_refl _) q) (fun q => absurd (Int.le_refl _) q) (fun q => absurd (Int.le_refl _) q)) (fun q => absurd (Int.le_refl _) q) (fun q => absurd (Int.le_refl _) q)
  · intro z z0 z1 ih g
    refine t_RowTable_insert_10 hP tr (fun q => by omega) (fun _ q => ?_) (fun _ q => ih fun j hj => ?_)
    · obtain ⟨z, rfl⟩ := Int.eq_ofNat_of_zero_le (show 0 ≤ z by omega)
      have low : ¬ M (95 + x) ((z : Int) - 1) = v → ∀ j : Int, 0 ≤ j ∧ j < z → M (95 + x) j < v := fun ne j hj => by
        by_cases e : j = (z : Int) - 1
        · rw [e]
          omega
        · have := hc j ((z : Int) - 1) (by omega) (by omega) (by omega)
          omega
      exact t_RowTable_insert_22 hP tr (fun q => by omega) (fun q => by omega) (fun _ ne _ => put z (by omega) (low ne) g) (fun _ _ q => by omega) (fun _ e => k0 ⟨(z : Int) - 1, by omega, by omega, e⟩)
    · by_cases e : j = z - 1
      · rw [e]
        omega
      · exact g j (by omega)
theorem FL_z {M : Mm_} {x r : Int} (h : M 105 x = 0) : FL B M x r 0 := ⟨0, h, Nat.le_refl _, fun i j _ _ h => by omega, fun p => rfl⟩
theorem FL_mem {M : Mm_} {x r : Int} {i s : Nat} (h4 : ∀ p : Int → Bool, cntB (fun j => p (M (95 + x) j)) s = cntB (fun j => foB (cd B x r) j && p (cd B x r j)) i) (v : Int) : anyB (fun j => decide (M (95 + x) j = v)) s = ibB (cd B x r) i v := by
  have := h4 fun w => decide (w = v)
  rw [fo_one] at this
  rw [anyB_cnt, this]
  cases ibB (cd B x r) i v <;> rfl
theorem s_fill (hP : Clo P) {Q : Qp_} {M : Mm_} {x r : Int} (hS : Sc B M) (hT : WfT B) (hx : 0 ≤ x ∧ x < B 112 0) (hr : 1 ≤ r ∧ r ≤ 5) (k : ∀ M', Fq x M M' → FL B M' x r (nrR B x r) → Q none WF M') : P 180 0 [some (2, 93), some (0, x), some (0, r), none, none, none, none, none] [] WF M (0, 0) Q := by
  have hx' : 0 ≤ x ∧ x < 10 := by have := hT.1; omega
  have X := rdX hS hT hx'
  have tx : TX (3 + 2 * x) := tx_of hx'
  refine t_RowTable_fill_0 hP ?_
  refine lpN (n := nrR B x r) (f := fun i : Nat => ∀ M', Fq x M M' → FL B M' x r i → P 180 13 [some (2, 93), some (0, x), some (0, r), some (2, 3 + 2 * x), some (0, (i : Int)), none, none, none] [] WF M' (0, 0) Q) ?_ ?_ 0 (Nat.zero_le _) (updM M 105 x 0) ⟨fun c _ c2 => upd_r c2 _ _, fun z hz => upd_i hz _ _ _⟩ (FL_z (upd_s _ _ _ _))
  · intro M' F' h
    have n4 : M' (3 + 2 * x) 4 = B 115 x := by rw [F'.1 _ (by omega) (by omega)]; exact X.2.2.2.1
    unfold nrR at h k ⊢
    exact t_RowTable_fill_13 hP tx (fun _ => k M' F' h) (fun q => by omega)
  · intro i hi ih M' F' h
    have n4 : M' (3 + 2 * x) 4 = B 115 x := by rw [F'.1 _ (by omega) (by omega)]; exact X.2.2.2.1
    have hi' : (i : Int) + r ≤ B 115 x := by unfold nrR at hi; omega
    refine t_RowTable_fill_13 hP tx (fun q => by omega) (fun _ => ?_)
    have wd : ∀ m : Nat, m ≤ 5 → (m : Int) ≤ r → 0 ≤ cod B x i m ∧ cod B x i m < 328080401001 := fun m m1 m2 => cod_b4 m1 fun q hq => (rdW hS hT hx' (i := i + q) (by omega)).2.2
    refine lpN (n := r.toNat) (f := fun m : Nat => P 180 23 [some (2, 93), some (0, x), some (0, r), some (2, 3 + 2 * x), some (0, (i : Int)), some (1, cod B x i m), none, some (0, (m : Int))] [] WF M' (0, 0) Q) ?_ ?_ 0 (Nat.zero_le _)
    · refine t_RowTable_fill_23 hP tx (fun _ => ?_) (fun q => by omega)
      obtain ⟨s, h1, h2, h3, h4⟩ := h
      refine s_insert hP hx' h1 (by omega) h3 (fun g => t_RowTable_fill_44 hP tx (ih M' F' ⟨s, h1, by omega, h3, fun p => ?_⟩)) (fun pl M2 hpl g1 g2 F2 n5 nj => t_RowTable_fill_44 hP tx (ih M2 (F'.trans F2) ⟨s + 1, n5, by omega, fun a b a0 ab bs => ?_, fun p => ?_⟩))
      · rw [h4 p, cntB_f]
        have : ibB (cd B x r) i (cd B x r i) = true := by
          rw [← FL_mem h4, anyB_iff]
          obtain ⟨j, j0, j1, j2⟩ := g
          obtain ⟨j, rfl⟩ := Int.eq_ofNat_of_zero_le j0
          exact ⟨j, by omega, decide_eq_true j2⟩
        have f : foB (cd B x r) i = false := by
          unfold foB
          rw [Int.toNat_natCast, Bool.not_eq_false']
          exact this
        rw [f]
        simp
      · rw [nj a (by omega), nj b (by omega)]
        have s0 := fun i j c0 c1 c2 => h3 i j c0 c1 c2
        by_cases a1 : a < pl
        · rw [if_pos a1]
          have := g1 a (by omega)
          by_cases b1 : b < pl
          · rw [if_pos b1]
            exact h3 a b a0 ab (by omega)
          · rw [if_neg b1]
            by_cases b2 : b = pl
            · rw [if_pos b2]
              exact this
            · rw [if_neg b2]
              have := g2 (b - 1) (by omega)
              omega
        · rw [if_neg a1, if_neg (show ¬ b < pl by omega), if_neg (show ¬ b = pl by omega)]
          by_cases a2 : a = pl
          · rw [if_pos a2]
            exact g2 (b - 1) (by omega)
          · rw [if_neg a2]
            exact h3 (a - 1) (b - 1) (by omega) (by omega) (by omega)
      · have f : foB (cd B x r) i = true := by
          unfold foB
          rw [Int.toNat_natCast, Bool.not_eq_true']
          show ibB (cd B x r) i (cd B x r i) = false
          rw [← FL_mem h4, Bool.eq_false_iff]
          intro c
          obtain ⟨j, j1, j2⟩ := (anyB_iff _ _).mp c
          have j2 := of_decide_eq_true j2
          have j3 : M' (95 + x) j = cod B x i r.toNat := j2
          by_cases e : (j : Int) < pl
          · have := g1 j (by omega)
            omega
          · have := g2 j (by omega)
            omega
        rw [cntB_ins (q := fun j => p (M' (95 + x) j)) (q' := fun j => p (M2 (95 + x) j)) hpl (fun j hj => by
          show p (M2 (95 + x) j) = p (M' (95 + x) j)
          rw [nj j (by omega), if_pos (by omega)]) (fun j j1 j2 => by
          show p (M2 (95 + x) ((j + 1 : Nat) : Int)) = p (M' (95 + x) j)
          rw [nj _ (by omega), if_neg (by omega), if_neg (by omega), show (((j + 1 : Nat) : Int) - 1) = j by omega]), h4 p]
        show _ + (if p (M2 (95 + x) pl) = true then 1 else 0) = cntB _ i + _
        have e9 : M2 (95 + x) pl = cd B x r i := by
          rw [nj pl (by omega), if_neg (by omega), if_pos rfl]
          rfl
        have e8 : (fun j => foB (cd B x r) j && p (cd B x r j)) (i : Int) = p (cd B x r i) := by
          show (foB (cd B x r) i && p (cd B x r i)) = _
          rw [f, Bool.true_and]
        rw [e9, e8]
    · intro m hm ihm
      have w := rdW hS hT hx' (i := i + m) (by omega)
      have wm : M' (3 + 2 * x + 1) ((i : Int) + m) = B 116 (60 * x + (i + m)) := by
        rw [F'.1 _ (by omega) (by omega)]
        exact w.1
      have c1 := wd m (by omega) (by omega)
      refine t_RowTable_fill_23 hP tx (fun q => by omega) (fun _ => ?_)
      rw [wm]
      exact ihm
end RW
