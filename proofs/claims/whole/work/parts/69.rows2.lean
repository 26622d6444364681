/-! rows, likeness -/
def nR (B : Mm_) (x r : Int) : Nat := cntB (foB (cd B x r)) (nrR B x r)
def cmN (B : Mm_) (x y r : Int) : Nat := cntB (fun i => foB (cd B x r) i && ibB (cd B y r) (nrR B y r) (cd B x r i)) (nrR B x r)
theorem cntB_sub {p q : Int → Bool} : ∀ {n : Nat}, (∀ k : Nat, k < n → p k = true → q k = true) → cntB p n ≤ cntB q n
  | 0, _ => Nat.le_refl _
  | n + 1, h => by
    have ih := cntB_sub (p := p) (q := q) (n := n) fun k hk => h k (by omega)
    by_cases e : p n = true
    · rw [cntB_t e, cntB_t (h n (by omega) e)]
      omega
    · rw [cntB_f e]
      exact Nat.le_trans ih (cntB_mono (by omega))
theorem cm_le (B : Mm_) (x y r : Int) : cmN B x y r ≤ nR B x r := cntB_sub fun k _ h => by
  have h : (foB (cd B x r) k && ibB (cd B y r) (nrR B y r) (cd B x r k)) = true := h
  rw [Bool.and_eq_true] at h
  exact h.1
theorem nr_bd {B : Mm_} (hT : WfT B) {x r : Int} (hx : 0 ≤ x ∧ x < 10) (hr : 1 ≤ r ∧ r ≤ 5) : nrR B x r ≤ 60 := by
  have := (hT.2.1 x hx).1
  unfold nrR
  omega
theorem nR_le (B : Mm_) (x r : Int) : nR B x r ≤ nrR B x r := cntB_le _ _
theorem nR_0 {B : Mm_} {x r : Int} (h : nR B x r = 0) : nrR B x r = 0 := by
  apply Classical.byContradiction
  intro g
  have a : cntB (foB (cd B x r)) 1 ≤ nR B x r := cntB_mono (by omega)
  have b : cntB (foB (cd B x r)) 1 = 1 := rfl
  omega
/-- the double count -/
def dbl (R : Int → Int → Bool) (n : Nat) : Nat → Nat
  | 0 => 0
  | m + 1 => dbl R n m + cntB (fun i => R i m) n
theorem dbl_s (R : Int → Int → Bool) (n : Nat) : ∀ m, dbl R (n + 1) m = dbl R n m + cntB (fun j => R n j) m
  | 0 => rfl
  | m + 1 => by
    show dbl R (n + 1) m + cntB (fun i => R i m) (n + 1) = dbl R n m + cntB (fun i => R i m) n + (cntB (fun j => R n j) m + _)
    rw [dbl_s R n m]
    show _ + (cntB (fun i => R i m) n + (if R n m = true then 1 else 0)) = _ + (_ + (if R n m = true then 1 else 0))
    omega
theorem dbl_sw (R : Int → Int → Bool) : ∀ n m, dbl R n m = dbl (fun j i => R i j) m n
  | 0, m => by
    induction m with
    | zero => rfl
    | succ m ih =>
      show dbl R 0 m + 0 = _
      rw [ih]
      rfl
  | n + 1, m => by
    rw [dbl_s, dbl_sw R n m]
    rfl
theorem dbl_c {R : Int → Int → Bool} {p : Int → Bool} {n : Nat} : ∀ {m : Nat}, (∀ j : Nat, j < m → cntB (fun i => R i j) n = if p j then 1 else 0) → dbl R n m = cntB p m
  | 0, _ => rfl
  | m + 1, h => by
    show dbl R n m + cntB (fun i => R i m) n = cntB p m + _
    rw [dbl_c (m := m) fun j hj => h j (by omega), h m (by omega)]
theorem cntB_zero {p : Int → Bool} : ∀ {n : Nat}, (∀ k : Nat, k < n → p k = false) → cntB p n = 0
  | 0, _ => rfl
  | n + 1, h => by
    rw [cntB_f (by rw [h n (by omega)]; decide)]
    exact cntB_zero fun k hk => h k (by omega)
theorem cm_dbl (g h : Int → Int) (n m : Nat) : cntB (fun i => foB g i && ibB h m (g i)) n = dbl (fun j i => foB g i && foB h j && decide (h j = g i)) m n := by
  symm
  refine dbl_c fun i hi => ?_
  by_cases e : foB g i = true
  · rw [e, Bool.true_and, ← fo_one]
    refine cntB_cong fun j _ => ?_
    show (true && foB h j && _) = _
    rw [Bool.true_and]
  · rw [Bool.eq_false_iff.mpr e, Bool.false_and]
    exact cntB_zero fun j _ => rfl
theorem cm_sym (B : Mm_) (x y r : Int) : cmN B x y r = cmN B y x r := by
  unfold cmN
  rw [cm_dbl, cm_dbl, dbl_sw]
  congr 1
  funext i j
  rw [Bool.and_comm (foB (cd B x r) i)]
  congr 1
  exact decide_eq_decide.mpr ⟨fun h => h.symm, fun h => h.symm⟩
def eiN (B : Mm_) (x y r : Int) : Nat := nR B x r + nR B y r - cmN B x y r
theorem ei_sym (B : Mm_) (x y r : Int) : eiN B x y r = eiN B y x r := by
  unfold eiN
  rw [cm_sym B x y r, Nat.add_comm]
theorem ei_0 {B : Mm_} {x y r : Int} (h : eiN B x y r = 0) : cmN B x y r = 0 := by
  have a := cm_le B x y r
  have b := cm_le B y x r
  rw [cm_sym B y x r] at b
  unfold eiN at h
  omega
def WW (B : Mm_) (x y r : Int) : Nat := if eiN B x y r = 0 then 1 else eiN B x y r
def gg (B : Mm_) (x y r : Int) : Nat := Nat.gcd (eiN B x y r) (cmN B x y r)
def upp (B : Mm_) (x y r : Int) : Nat := if gg B x y r = 0 then 0 else cmN B x y r / gg B x y r
def lowr (B : Mm_) (x y r : Int) : Nat := if gg B x y r = 0 then 1 else eiN B x y r / gg B x y r
theorem WW_sym (B : Mm_) (x y r : Int) : WW B x y r = WW B y x r := by
  unfold WW
  rw [ei_sym]
theorem frac (B : Mm_) (x y r : Int) : ∃ g : Nat, 0 < g ∧ upp B x y r * g = cmN B x y r ∧ lowr B x y r * g = WW B x y r ∧ Nat.gcd (cmN B x y r) (WW B x y r) = g := by
  by_cases h : eiN B x y r = 0
  · have c := ei_0 h
    have g0 : gg B x y r = 0 := by unfold gg; rw [h, c]; rfl
    refine ⟨1, by decide, ?_, ?_, ?_⟩
    · unfold upp
      rw [if_pos g0, c]
    · unfold lowr WW
      rw [if_pos g0, if_pos h]
    · unfold WW
      rw [c, if_pos h]
      rfl
  · have gp : 0 < gg B x y r := Nat.gcd_pos_of_pos_left _ (by omega)
    refine ⟨gg B x y r, gp, ?_, ?_, ?_⟩
    · unfold upp
      rw [if_neg (by omega)]
      exact Nat.div_mul_cancel (Nat.gcd_dvd_right _ _)
    · unfold lowr WW
      rw [if_neg (by omega), if_neg h]
      exact Nat.div_mul_cancel (Nat.gcd_dvd_left _ _)
    · unfold WW
      rw [if_neg h, Nat.gcd_comm]
      rfl
section RX
variable {P : Jg_} {L : Nat} {xs : Nat → Int32} {B : Mm_}
theorem s_both (hP : Clo P) {Q : Qp_} {M : Mm_} {x y r : Int} (hT : WfT B) (hx : 0 ≤ x ∧ x < 10) (hy : 0 ≤ y ∧ y < 10) (hr : 1 ≤ r ∧ r ≤ 5) (fx : FL B M x r (nrR B x r)) (fy : FL B M y r (nrR B y r)) (k : Q (some (0, (cmN B x y r : Int))) WF M) : P 186 0 [some (2, 93), some (0, x), some (0, y), none, none, none] [] WF M (0, 0) Q := by
  have bx := nr_bd hT hx hr
  have by' := nr_bd hT hy hr
  obtain ⟨s, h1, h2, h3, h4⟩ := fx
  obtain ⟨t, g1, g2, g3, g4⟩ := fy
  have e := h4 fun v => anyB (fun j => decide (M (95 + y) j = v)) t
  have e2 : cntB (fun j => foB (cd B x r) j && anyB (fun i => decide (M (95 + y) i = cd B x r j)) t) (nrR B x r) = cmN B x y r := by
    unfold cmN
    congr 1
    funext j
    rw [FL_mem g4]
  rw [e2] at e
  refine t_RowTable_countInBoth_0 hP ?_
  refine lpN (n := s) (f := fun i : Nat => ∀ j : Int, 0 ≤ j ∧ j ≤ t → (∀ z, 0 ≤ z ∧ z < j → ∀ i', (i : Int) ≤ i' ∧ i' < s → M (95 + y) z < M (95 + x) i') → P 186 6 [some (2, 93), some (0, x), some (0, y), some (0, (cntB (fun j => anyB (fun i => decide (M (95 + y) i = M (95 + x) j)) t) i : Int)), some (0, j), some (0, (i : Int))] [] WF M (0, 0) Q) ?_ ?_ 0 (Nat.zero_le _) 0 (by omega) (fun z hz => by omega)
  · intro j hj h
    refine t_RowTable_countInBoth_6 hP (fun _ => ?_) (fun q => by omega)
    rw [e]
    exact k
  · intro i hi ih j hj h
    refine t_RowTable_countInBoth_6 hP (fun q => by omega) (fun _ => ?_)
    have cb := cntB_le (fun j => anyB (fun i => decide (M (95 + y) i = M (95 + x) j)) t) i
    refine lpI (lo := 0) (n := t) (f := fun j => (∀ z, 0 ≤ z ∧ z < j → ∀ i', (i : Int) ≤ i' ∧ i' < s → M (95 + y) z < M (95 + x) i') → P 186 12 [some (2, 93), some (0, x), some (0, y), some (0, (cntB (fun j => anyB (fun i => decide (M (95 + y) i = M (95 + x) j)) t) i : Int)), some (0, j), some (0, (i : Int))] [] WF M (0, 0) Q) ?_ ?_ j hj.1 hj.2 h
    · intro h
      refine t_RowTable_countInBoth_12 hP (fun _ => ?_) (fun q => by omega) (fun q => by omega) (fun q => by omega)
      have ih := ih t (by omega) fun z hz i' hi' => h z hz i' (by omega)
      rw [cntB_f (by
        rw [anyB_iff]
        rintro ⟨z, z1, z2⟩
        have := of_decide_eq_true z2
        have := h z (by omega) i (by omega)
        omega)] at ih
      exact ih
    · intro j j0 j1 ihj h
      refine t_RowTable_countInBoth_12 hP (fun q => by omega) (fun _ q1 q2 => ?_) (fun _ q1 q2 => ?_) (fun _ q1 => ihj fun z hz i' hi' => ?_)
      · have ih := ih j (by omega) fun z hz i' hi' => h z hz i' (by omega)
        rw [cntB_f (by
          rw [anyB_iff]
          rintro ⟨z, z1, z2⟩
          have z3 := of_decide_eq_true z2
          by_cases c1 : (z : Int) < j
          · have := h z (by omega) i (by omega)
            omega
          · by_cases c2 : (z : Int) = j
            · rw [c2] at z3
              exact q2 z3
            · have := g3 j z j0 (by omega) (by omega)
              omega)] at ih
        exact ih
      · have ih := ih j (by omega) fun z hz i' hi' => h z hz i' (by omega)
        rw [cntB_t (by
          rw [anyB_iff]
          obtain ⟨j, rfl⟩ := Int.eq_ofNat_of_zero_le j0
          exact ⟨j, by omega, decide_eq_true q2⟩)] at ih
        exact ih
      · by_cases c1 : z = j
        · rw [c1]
          by_cases c2 : i' = i
          · rw [c2]
            omega
          · have := h3 i i' (by omega) (by omega) (by omega)
            omega
        · exact h z (by omega) i' hi'
theorem s_gcdC (hP : Clo P) {Q : Qp_} {M : Mm_} : ∀ (b a : Nat) (t : Int), 0 ≤ t ∧ t + b < 1000 → Q (some (0, (Nat.gcd a b : Int))) WF M → P 187 6 [none, none, some (0, (a : Int)), some (0, (b : Int)), some (0, t), none] [] WF M (0, 0) Q := by
  intro b
  induction b using Nat.strongRecOn with
  | ind b ih =>
    intro a t ht k
    refine t_RowTable_commonDivisor_6 hP (fun q => by omega) (fun _ q => ?_) (fun _ q => ?_)
    · have : b = 0 := by omega
      subst this
      rw [Nat.gcd_zero_right] at k
      exact k
    · have hb : 0 < b := by omega
      have lt := Nat.mod_lt a hb
      have e : Nat.gcd a b = Nat.gcd b (a % b) := by rw [Nat.gcd_comm a b, Nat.gcd_rec b a, Nat.gcd_comm]
      rw [e] at k
      have := ih (a % b) lt b (t + 1) (by omega) k
      rw [Int.natCast_emod] at this
      exact this
theorem s_gcdM (hP : Clo P) {Q : Qp_} {M : Mm_} : ∀ (b a : Nat), Q (some (0, (Nat.gcd a b : Int))) WF M → P 192 4 [none, none, some (0, (a : Int)), some (0, (b : Int)), none] [] WF M (0, 0) Q := by
  intro b
  induction b using Nat.strongRecOn with
  | ind b ih =>
    intro a k
    refine t_Mo_gcd_4 hP (fun q => ?_) (fun q => ?_)
    · have : b = 0 := by omega
      subst this
      rw [Nat.gcd_zero_right] at k
      exact k
    · have hb : 0 < b := by omega
      have lt := Nat.mod_lt a hb
      have e : Nat.gcd a b = Nat.gcd b (a % b) := by rw [Nat.gcd_comm a b, Nat.gcd_rec b a, Nat.gcd_comm]
      rw [e] at k
      have := ih (a % b) lt b k
      rw [Int.natCast_emod] at this
      exact this
theorem FL_n {M : Mm_} {x r : Int} (h : FL B M x r (nrR B x r)) : M 105 x = (nR B x r : Int) := by
  obtain ⟨s, h1, h2, h3, h4⟩ := h
  have := h4 fun _ => true
  have e : cntB (fun _ => true) s = s := by
    clear h4 h3 h2 h1 this
    induction s with
    | zero => rfl
    | succ s ih =>
      rw [cntB_t rfl, ih]
  rw [e] at this
  rw [h1, this]
  unfold nR
  congr 2
  funext j
  rw [Bool.and_true]
theorem s_comp (hP : Clo P) {Q : Qp_} {M : Mm_} {x y r : Int} (hT : WfT B) (hx : 0 ≤ x ∧ x < 10) (hy : 0 ≤ y ∧ y < 10) (hr : 1 ≤ r ∧ r ≤ 5) (fx : FL B M x r (nrR B x r)) (fy : FL B M y r (nrR B y r)) (k : ∀ M', (∀ c, c ≠ 93 → M' c = M c) → M' 93 4 = (upp B x y r : Int) → M' 93 5 = (lowr B x y r : Int) → Q none WF M') : P 188 0 [some (2, 93), some (0, x), some (0, y), none, none, none] [] WF M (0, 0) Q := by
  have bx := nr_bd hT hx hr
  have by' := nr_bd hT hy hr
  have nx := nR_le B x r
  have ny := nR_le B y r
  have cl := cm_le B x y r
  have n1 := FL_n fx
  have n2 := FL_n fy
  refine t_RowTable_compare_0 hP (s_both hP hT hx hy hr fx fy (t_RowTable_compare_4 hP ?_))
  have ee : M 105 x + M 105 y - (cmN B x y r : Int) = (eiN B x y r : Int) := by unfold eiN; omega
  rw [ee]
  refine t_RowTable_commonDivisor_0 hP (s_gcdC hP (cmN B x y r) (eiN B x y r) 0 (by omega) (t_RowTable_compare_20 hP (fun q => ?_) (fun q => ?_) (s1 := fun _ => by omega) (s2 := fun _ => by omega)))
  · refine k _ (fun c hc => by rw [upd_r hc, upd_r hc]) ?_ ?_
    · rw [upd_i (by decide), upd_s]
      unfold upp
      rw [if_neg (by unfold gg; omega), Int.natCast_ediv]
      rfl
    · rw [upd_s]
      unfold lowr
      rw [if_neg (by unfold gg; omega), Int.natCast_ediv]
      rfl
  · refine k _ (fun c hc => by rw [upd_r hc, upd_r hc]) ?_ ?_
    · rw [upd_i (by decide), upd_s]
      unfold upp
      rw [if_pos (by unfold gg; omega)]
      rfl
    · rw [upd_s]
      unfold lowr
      rw [if_pos (by unfold gg; omega)]
      rfl
theorem s_hasRow (hP : Clo P) {Q : Qp_} {M : Mm_} {x i y n r : Int} {m : Nat} (hS : Sc B M) (hT : WfT B) (hx : 0 ≤ x ∧ x < 10) (hy : 0 ≤ y ∧ y < 10) (hr : 1 ≤ r ∧ r ≤ 5) (hi : 0 ≤ i ∧ i + r ≤ B 115 x) (hm : (m : Int) ≤ n ∧ m ≤ nrR B y r ∧ (m = n ∨ m = nrR B y r)) (hn : n ≤ 60) (k1 : ibB (cd B y r) m (cd B x r i) = true → Q (some (0, 1)) WF M) (k0 : ibB (cd B y r) m (cd B x r i) = false → Q (some (0, 0)) WF M) : P 183 0 [some (2, 112), some (0, x), some (0, i), some (0, y), some (0, n), some (0, r), none, none] [] WF M (0, 0) Q := by
  have X := rdX hS hT hx
  have Y := rdX hS hT hy
  have ny : nrR B y r = (B 115 y + 1 - r).toNat := rfl
  refine t_Mo_hasRow_0 hP ?_
  refine lpN (n := m) (f := fun j : Nat => ibB (cd B y r) j (cd B x r i) = false → P 183 4 [some (2, 112), some (0, x), some (0, i), some (0, y), some (0, n), some (0, r), some (0, 0), some (0, (j : Int))] [] WF M (0, 0) Q) ?_ ?_ 0 (Nat.zero_le _) rfl
  · intro h
    exact t_Mo_hasRow_4 hP (fun _ => k0 h) (fun _ _ => k0 h) (fun _ _ q => absurd rfl q) (fun _ _ _ => by omega)
  · intro j hj ih h
    have inj := cod_inj (B := B) (x := x) (i := i) (y := y) (j := j) (m := r.toNat) (fun q hq => (rdW hS hT hx (i := i + q) (by omega)).2.2) (fun q hq => (rdW hS hT hy (i := j + q) (by omega)).2.2)
    refine t_Mo_hasRow_4 hP (fun q => by omega) (fun _ q => by omega) (fun _ _ q => absurd rfl q) (fun _ _ _ => ?_)
    refine s_isSameRow hP hS hT hx hy (by omega) (by omega) (by omega) (fun g => t_Mo_hasRow_24 hP ?_) (fun g => t_Mo_hasRow_24 hP (ih ?_))
    · have : ibB (cd B y r) m (cd B x r i) = true := by
        unfold ibB
        rw [anyB_iff]
        exact ⟨j, hj, decide_eq_true (inj.mpr fun q hq => g q (by omega)).symm⟩
      exact t_Mo_hasRow_4 hP (fun _ => k1 this) (fun _ _ => k1 this) (fun _ _ _ => k1 this) (fun _ _ q => absurd q (by decide))
    · show (ibB (cd B y r) j (cd B x r i) || decide (cd B y r j = cd B x r i)) = false
      rw [h, Bool.false_or, decide_eq_false_iff_not]
      intro e
      exact g fun q hq => inj.mp e.symm q (by omega)
theorem s_rowsOf (hP : Clo P) {Q : Qp_} {M : Mm_} {x r : Int} (hS : Sc B M) (hT : WfT B) (hx : 0 ≤ x ∧ x < 10) (hr : 1 ≤ r ∧ r ≤ 5) (k : Q (some (0, (nR B x r : Int))) WF M) : P 184 0 [some (2, 112), some (0, x), some (0, r), none, none] [] WF M (0, 0) Q := by
  have X := rdX hS hT hx
  have bx := nr_bd hT hx hr
  have nx : nrR B x r = (B 115 x + 1 - r).toNat := rfl
  refine t_Mo_rowsOf_0 hP ?_
  refine lpN (n := nrR B x r) (f := fun i : Nat => P 184 4 [some (2, 112), some (0, x), some (0, r), some (0, (cntB (foB (cd B x r)) i : Int)), some (0, (i : Int))] [] WF M (0, 0) Q) ?_ ?_ 0 (Nat.zero_le _)
  · exact t_Mo_rowsOf_4 hP (fun _ => k) (fun q => by omega)
  · intro i hi ih
    have cb := cntB_le (foB (cd B x r)) i
    have fe : foB (cd B x r) i = !ibB (cd B x r) i (cd B x r i) := by
      unfold foB ibB
      rw [Int.toNat_natCast]
    refine t_Mo_rowsOf_4 hP (fun q => by omega) (fun _ => ?_)
    refine s_hasRow hP hS hT hx hx hr (m := i) (by omega) (by omega) (by omega) (fun g => t_Mo_rowsOf_20 hP (fun q => absurd q (by decide)) (fun _ => ?_)) (fun g => t_Mo_rowsOf_20 hP (fun _ => ?_) (fun q => absurd rfl q))
    · rw [cntB_f (by rw [fe, g]; decide)] at ih
      rw [Int.add_zero]
      exact ih
    · rw [cntB_t (by rw [fe, g]; rfl)] at ih
      exact ih
theorem s_cm2 (hP : Clo P) {Q : Qp_} {M : Mm_} {x y r : Int} (hS : Sc B M) (hT : WfT B) (hx : 0 ≤ x ∧ x < 10) (hy : 0 ≤ y ∧ y < 10) (hr : 1 ≤ r ∧ r ≤ 5) (k : Q (some (0, (cmN B x y r : Int))) WF M) : P 190 0 [some (2, 112), some (0, x), some (0, y), some (0, r), none, none] [] WF M (0, 0) Q := by
  have X := rdX hS hT hx
  have bx := nr_bd hT hx hr
  have by' := nr_bd hT hy hr
  have nx : nrR B x r = (B 115 x + 1 - r).toNat := rfl
  refine t_Mo_common2_0 hP ?_
  refine lpN (n := nrR B x r) (f := fun i : Nat => P 190 4 [some (2, 112), some (0, x), some (0, y), some (0, r), some (0, (cntB (fun i => foB (cd B x r) i && ibB (cd B y r) (nrR B y r) (cd B x r i)) i : Int)), some (0, (i : Int))] [] WF M (0, 0) Q) ?_ ?_ 0 (Nat.zero_le _)
  · exact t_Mo_common2_4 hP (fun _ => k) (fun q => by omega)
  · intro i hi ih
    have cb := cntB_le (fun i => foB (cd B x r) i && ibB (cd B y r) (nrR B y r) (cd B x r i)) i
    have fe : foB (cd B x r) i = !ibB (cd B x r) i (cd B x r i) := by
      unfold foB ibB
      rw [Int.toNat_natCast]
    refine t_Mo_common2_4 hP (fun q => by omega) (fun _ => ?_)
    refine s_hasRow hP hS hT hx hx hr (m := i) (by omega) (by omega) (by omega) (fun g => t_Mo_common2_20 hP (fun _ => ?_) (fun q => absurd q (by decide))) (fun g => t_Mo_common2_20 hP (fun q => absurd rfl q) (fun _ => ?_))
    · rw [cntB_f (by rw [fe, g]; simp)] at ih
      rw [Int.add_zero]
      exact ih
    · refine s_hasRow hP hS hT hx hy hr (m := nrR B y r) (by omega) (by omega) (by omega) (fun d => t_Mo_common2_28 hP (fun q => absurd q (by decide)) (fun _ => ?_)) (fun d => t_Mo_common2_28 hP (fun _ => ?_) (fun q => absurd rfl q))
      · rw [cntB_t (by rw [fe, g, d]; rfl)] at ih
        exact ih
      · rw [cntB_f (by rw [d]; simp)] at ih
        rw [Int.add_zero]
        exact ih
theorem s_liken (hP : Clo P) {Q : Qp_} {M : Mm_} {A : Mm_} {x y r : Int} (hI : IV L xs A B M) (hx : 0 ≤ x ∧ x < 10) (hy : 0 ≤ y ∧ y < 10) (hr : 1 ≤ r ∧ r ≤ 5) (k : ∀ M', IV L xs A B M' → (∀ c, c ≠ 112 → M' c = M c) → M' 112 35 = (cmN B x y r : Int) → M' 112 36 = (WW B x y r : Int) → Q none WF M') : P 191 0 [some (2, 112), some (0, x), some (0, y), some (0, r)] [] WF M (0, 0) Q := by
  have hT := hI.2.1.2.1
  have bx := nr_bd hT hx hr
  have by' := nr_bd hT hy hr
  have nx := nR_le B x r
  have ny := nR_le B y r
  have cl := cm_le B x y r
  refine t_Mo_liken_0 hP (s_cm2 hP hI.1 hT hx hy hr (t_Mo_liken_6 hP ?_))
  have I1 : IV L xs A B (updM M 112 35 (cmN B x y r : Int)) := hI.v
  refine s_rowsOf hP I1.1 hT hx hr (t_Mo_liken_12 hP (s_rowsOf hP I1.1 hT hy hr ?_))
  have e35 : updM M 112 35 (cmN B x y r : Int) 112 35 = (cmN B x y r : Int) := upd_s _ _ _ _
  have ee : (nR B x r : Int) + (nR B y r : Int) - updM M 112 35 (cmN B x y r : Int) 112 35 = (eiN B x y r : Int) := by rw [e35]; unfold eiN; omega
  refine t_Mo_liken_16 hP (fun q => ?_) (fun q => ?_) (s1 := by omega) (s2 := by omega)
  · rw [ee] at q ⊢
    refine k _ I1.v.v (fun c hc => by rw [upd_r hc, upd_r hc, upd_r hc]) ?_ ?_
    · rw [upd_i (by decide), upd_i (by decide), e35]
    · rw [upd_s]
      unfold WW
      rw [if_neg (by omega)]
  · rw [ee] at q ⊢
    refine k _ I1.v.v (fun c hc => by rw [upd_r hc, upd_r hc, upd_r hc]) ?_ ?_
    · rw [upd_i (by decide), upd_i (by decide), e35]
    · rw [upd_s]
      unfold WW
      rw [if_pos (by omega)]
      rfl
theorem tw_rows (hP : Clo P) {x r : Int} : Two P L xs 181 [some (2, 0), some (0, x), some (0, r)] 185 [some (2, 112), some (0, x), some (0, r)] := by
  rintro M ⟨A, B, hI⟩
  have hI0 : INV L xs M := ⟨A, B, hI⟩
  obtain ⟨u0, u1, u2⟩ := rdT hI.1 hI.2.1.2.1
  have hT := hI.2.1.2.1
  by_cases h1 : 0 ≤ x ∧ x < B 112 0
  · by_cases h2 : 1 ≤ r ∧ r ≤ 5
    · refine ⟨fun v M1 => v = (nR B x r : Int) ∧ Fr 93 111 M M1, fun Q k => ?_, fun v M1 hR => ?_⟩
      · refine t_BW_rows_0 hP ?_ ?_ ?_ ?_ ?_ <;> intros <;> first | (exfalso; omega) | skip
        refine s_fill hP hI.1 hT h1 h2 fun M1 F1 f1 => t_BW_rows_17 hP (k _ _ ⟨FL_n f1, F1.fr (by omega)⟩)
      · obtain ⟨rfl, F1⟩ := hR
        have I1 : IV L xs A B M1 := hI.fr F1
        refine ⟨I1.ro, fun Q k => ?_⟩
        obtain ⟨v0, v1, v2⟩ := rdT I1.1 hT
        refine t_Mo_rows_0 hP ?_ ?_ ?_ ?_ ?_ <;> intros <;> first | (exfalso; omega) | skip
        exact s_rowsOf hP I1.1 hT (by omega) h2 (t_Mo_rows_16 hP (t_Mo_rows_18 hP (k _ ⟨A, B, I1⟩)))
    · refine ⟨fun r M1 => r = -1002 ∧ M1 = M, fun Q k => ?_, fun r M1 hR => ?_⟩
      · refine t_BW_rows_0 hP ?_ ?_ ?_ ?_ ?_ <;> intros <;> first | (exfalso; omega) | exact k _ _ ⟨rfl, rfl⟩
      · obtain ⟨rfl, rfl⟩ := hR
        refine ⟨hI0.ro, fun Q k => ?_⟩
        refine t_Mo_rows_0 hP ?_ ?_ ?_ ?_ ?_ <;> intros <;> first | (exfalso; omega) | exact k _ hI0 | (refine t_Mo_rows_18 hP ?_; exact k _ hI0)
  · refine ⟨fun r M1 => r = -1001 ∧ M1 = M, fun Q k => ?_, fun r M1 hR => ?_⟩
    · refine t_BW_rows_0 hP ?_ ?_ ?_ ?_ ?_ <;> intros <;> first | (exfalso; omega) | exact k _ _ ⟨rfl, rfl⟩
    · obtain ⟨rfl, rfl⟩ := hR
      refine ⟨hI0.ro, fun Q k => ?_⟩
      refine t_Mo_rows_0 hP ?_ ?_ ?_ ?_ ?_ <;> intros <;> first | (exfalso; omega) | exact k _ hI0 | (refine t_Mo_rows_18 hP ?_; exact k _ hI0)
theorem tw_likeness (hP : Clo P) {x y r w : Int} : Two P L xs 189 [some (2, 0), some (0, x), some (0, y), some (0, r), some (0, w)] 193 [some (2, 112), some (0, x), some (0, y), some (0, r), some (0, w), none] := by
  rintro M ⟨A, B, hI⟩
  have hI0 : INV L xs M := ⟨A, B, hI⟩
  obtain ⟨u0, u1, u2⟩ := rdT hI.1 hI.2.1.2.1
  have hT := hI.2.1.2.1
  by_cases h1 : (0 ≤ x ∧ x < B 112 0) ∧ (0 ≤ y ∧ y < B 112 0)
  · by_cases h2 : (1 ≤ r ∧ r ≤ 5) ∧ (0 ≤ w ∧ w ≤ 1)
    · refine ⟨fun v M1 => v = (if w = 0 then (upp B x y r : Int) else (lowr B x y r : Int)) ∧ Fr 93 111 M M1, fun Q k => ?_, fun v M1 hR => ?_⟩
      · refine t_BW_likeness_0 hP ?_ ?_ ?_ ?_ ?_ ?_ ?_ ?_ ?_ <;> intros <;> first | (exfalso; omega) | skip
        refine s_fill hP hI.1 hT h1.1 h2.1 fun M1 F1 f1 => t_BW_likeness_27 hP ?_
        have G1 := F1.fr (by omega)
        refine s_fill hP (hI.fr G1).1 hT h1.2 h2.1 fun M2 F2 f2 => t_BW_likeness_32 hP ?_
        have fx : FL B M2 x r (nrR B x r) := by
          by_cases e : x = y
          · rw [e]
            exact f2
          · exact F2.fl e (by omega) f1
        refine s_comp hP hT (by omega) (by omega) h2.1 fx f2 fun M3 F3 e4 e5 => ?_
        have G3 : Fr 93 111 M M3 := (G1.trans (F2.fr (by omega))).trans fun c hc => F3 c (by omega)
        refine t_BW_likeness_37 hP (fun q => k _ _ ⟨?_, G3⟩) (fun q => k _ _ ⟨?_, G3⟩)
        · rw [if_neg q, e5]
        · rw [if_pos q, e4]
      · obtain ⟨rfl, F1⟩ := hR
        have I1 : IV L xs A B M1 := hI.fr F1
        refine ⟨I1.ro, fun Q k => ?_⟩
        obtain ⟨v0, v1, v2⟩ := rdT I1.1 hT
        refine t_Mo_likeness_0 hP ?_ ?_ ?_ ?_ ?_ ?_ ?_ ?_ ?_ <;> intros <;> first | (exfalso; omega) | skip
        refine s_liken hP I1 (by omega) (by omega) h2.1 fun M2 I2 _ e5 e6 => t_Mo_likeness_29 hP ?_
        obtain ⟨g, g0, g1, g2, g3⟩ := frac B x y r
        rw [e5, e6]
        refine t_Mo_gcd_0 hP (s_gcdM hP (WW B x y r) (cmN B x y r) ?_)
        rw [g3]
        refine t_Mo_likeness_34 hP (fun q => ?_) (fun q => ?_)
        · have := k _ ⟨A, B, I2⟩
          rw [if_neg q] at this
          rw [e6, ← g2, ← Int.natCast_ediv, Nat.mul_div_cancel _ g0]
          exact this
        · have := k _ ⟨A, B, I2⟩
          rw [if_pos q] at this
          rw [e5, ← g1, ← Int.natCast_ediv, Nat.mul_div_cancel _ g0]
          exact this
    · refine ⟨fun r M1 => r = -1002 ∧ M1 = M, fun Q k => ?_, fun r M1 hR => ?_⟩
      · refine t_BW_likeness_0 hP ?_ ?_ ?_ ?_ ?_ ?_ ?_ ?_ ?_ <;> intros <;> first | (exfalso; omega) | exact k _ _ ⟨rfl, rfl⟩ | (refine t_BW_likeness_20 hP ?_; exact k _ _ ⟨rfl, rfl⟩)
      · obtain ⟨rfl, rfl⟩ := hR
        refine ⟨hI0.ro, fun Q k => ?_⟩
        refine t_Mo_likeness_0 hP ?_ ?_ ?_ ?_ ?_ ?_ ?_ ?_ ?_ <;> intros <;> first | (exfalso; omega) | exact k _ hI0 | (refine t_Mo_likeness_22 hP ?_; exact k _ hI0)
  · refine ⟨fun r M1 => r = -1001 ∧ M1 = M, fun Q k => ?_, fun r M1 hR => ?_⟩
    · refine t_BW_likeness_0 hP ?_ ?_ ?_ ?_ ?_ ?_ ?_ ?_ ?_ <;> intros <;> first | (exfalso; omega) | exact k _ _ ⟨rfl, rfl⟩ | (refine t_BW_likeness_10 hP ?_; exact k _ _ ⟨rfl, rfl⟩)
    · obtain ⟨rfl, rfl⟩ := hR
      refine ⟨hI0.ro, fun Q k => ?_⟩
      refine t_Mo_likeness_0 hP ?_ ?_ ?_ ?_ ?_ ?_ ?_ ?_ ?_ <;> intros <;> first | (exfalso; omega) | exact k _ hI0 | (refine t_Mo_likeness_8 hP ?_; exact k _ hI0)
end RX
