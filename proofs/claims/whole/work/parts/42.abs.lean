/-! WHAT THE CALLS MEAN: rules that count, what holds, runs, the explanation, whence -/
/-- which rules count on a day -/
def CT (B : Mm_) (day : Int) (C : Int → Bool) : Prop := ∀ k, 0 ≤ k ∧ k < B 112 14 → (C k = true ↔ B 124 k ≤ day ∧ ∀ j, k < j → j < B 112 14 → C j = true → stk B j k = false)
def AT (what : Int) : Int := ([4, 0, 0, 1, 900, 10, 50] : List Int).getD what.toNat 0
def HV (B : Mm_) (C : Int → Bool) (what v : Int) : Prop :=
  (∃ r, (0 ≤ r ∧ r < B 112 14) ∧ C r = true ∧ tol B r what ≠ -1 ∧ v = tol B r what ∧ ∀ q, 0 ≤ q ∧ q < B 112 14 → C q = true → tol B q what ≠ -1 → B 124 q < B 124 r ∨ B 124 q = B 124 r ∧ q ≤ r)
  ∨ ((∀ q, 0 ≤ q ∧ q < B 112 14 → C q = true → tol B q what = -1) ∧ v = AT what)
def IsH (B : Mm_) (day what v : Int) : Prop := ∃ C, CT B day C ∧ HV B C what v
noncomputable def hold (B : Mm_) (what day : Int) : Int := Classical.epsilon fun v => IsH B day what v
theorem CT_u {B : Mm_} {day : Int} {C D : Int → Bool} (h : CT B day C) (g : CT B day D) : ∀ k, 0 ≤ k ∧ k < B 112 14 → C k = D k := by
  have key : ∀ d : Nat, ∀ k, 0 ≤ k ∧ k < B 112 14 → (B 112 14 - k).toNat ≤ d → C k = D k := by
    intro d
    induction d with
    | zero => intro k hk hd; omega
    | succ d ih =>
      intro k hk hd
      rw [Bool.eq_iff_iff, h k hk, g k hk]
      constructor
      · rintro ⟨a, b⟩
        exact ⟨a, fun j h1 h2 h3 => b j h1 h2 (by rw [ih j (by omega) (by omega)]; exact h3)⟩
      · rintro ⟨a, b⟩
        exact ⟨a, fun j h1 h2 h3 => b j h1 h2 (by rw [← ih j (by omega) (by omega)]; exact h3)⟩
  exact fun k hk => key _ k hk (Nat.le_refl _)
theorem IsH_u {B : Mm_} {day what v v' : Int} (h : IsH B day what v) (g : IsH B day what v') : v = v' := by
  obtain ⟨C, hC, h⟩ := h
  obtain ⟨D, hD, g⟩ := g
  have e := CT_u hC hD
  rcases h with ⟨r, h1, h2, h3, h4, h5⟩ | ⟨h1, h2⟩
  · rcases g with ⟨q, g1, g2, g3, g4, g5⟩ | ⟨g1, g2⟩
    · have a := h5 q g1 (by rw [e q g1]; exact g2) g3
      have b := g5 r h1 (by rw [← e r h1]; exact h2) h3
      have : r = q := by omega
      subst this
      rw [h4, g4]
    · exact absurd (g1 r h1 (by rw [← e r h1]; exact h2)) h3
  · rcases g with ⟨q, g1, g2, g3, g4, g5⟩ | ⟨g1, g2⟩
    · exact absurd (h1 q g1 (by rw [e q g1]; exact g2)) g3
    · rw [h2, g2]
theorem hold_eq {B : Mm_} {day what v : Int} (h : IsH B day what v) : v = hold B what day := IsH_u h (Classical.epsilon_spec (p := fun v => IsH B day what v) ⟨v, h⟩)
def older (B : Mm_) (y x : Int) : Prop := B 114 y < B 114 x ∨ B 114 y = B 114 x ∧ y < x
noncomputable def srcB (B : Mm_) (x k y : Int) : Bool := decide (0 ≤ y ∧ y < k ∧ (B 114 y < B 114 x ∨ B 114 y = B 114 x ∧ y < x) ∧ B 114 x - B 114 y < hold B 4 (B 114 x))
def lkB (B : Mm_) (mean v w : Int) : Bool := decide (v = w ∨ mean = 1 ∧ B 118 v = B 118 w)
/-- slips and rare words among the first n pairs -/
def slp (B : Mm_) (mean x i y j : Int) (n : Nat) : Nat := cntB (fun m => !lkB B mean (B 116 (60 * x + (i + m))) (B 116 (60 * y + (j + m)))) n
def rar (B : Mm_) (x i : Int) (n : Nat) : Nat := cntB (fun m => decide (B 119 (B 116 (60 * x + (i + m))) = 0)) n
def isR (B : Mm_) (Lw : Int → Int) (x i y j n : Int) : Bool := decide (Lw 0 ≤ n ∧ i + n ≤ B 115 x ∧ j + n ≤ B 115 y ∧ lkB B (Lw 2) (B 116 (60 * x + i)) (B 116 (60 * y + j)) = true ∧ lkB B (Lw 2) (B 116 (60 * x + (i + n - 1))) (B 116 (60 * y + (j + n - 1))) = true ∧ (slp B (Lw 2) x i y j n.toNat : Int) ≤ Lw 1 ∧ (Lw 3 = 1 ∨ n / 2 ≤ (rar B x i n.toNat : Int)))
noncomputable def lws (B : Mm_) (x : Int) : Int → Int := fun what => hold B what (B 114 x)
noncomputable def rnB (B : Mm_) (x i y n : Int) : Bool := anyB (fun j => isR B (lws B x) x i y j n) 60
noncomputable def opn (B : Mm_) (x : Int) (S : Int → Bool) (i n : Int) : Bool := anyB (fun y => S y && rnB B x i y n) 10
/-- the explanation: words taken from a place on, pieces, the piece that begins there -/
def EX (op : Int → Int → Bool) (least n : Int) (F : Int → Int × Int × Int) : Prop := (F n).1 = 0 ∧ (F n).2.1 = 0 ∧ ∀ i, 0 ≤ i ∧ i < n →
  ((F i).2.2 = 0 ∧ (F i).1 = (F (i + 1)).1 ∧ (F i).2.1 = (F (i + 1)).2.1 ∨ (least ≤ (F i).2.2 ∧ (F i).2.2 ≤ n - i ∧ op i (F i).2.2 = true ∧ (F i).1 = (F i).2.2 + (F (i + (F i).2.2)).1 ∧ (F i).2.1 = 1 + (F (i + (F i).2.2)).2.1))
  ∧ ((F (i + 1)).1 < (F i).1 ∨ (F (i + 1)).1 = (F i).1 ∧ (F i).2.1 ≤ (F (i + 1)).2.1)
  ∧ ∀ s, least ≤ s ∧ s ≤ n - i → op i s = true → s + (F (i + s)).1 < (F i).1 ∨ s + (F (i + s)).1 = (F i).1 ∧ ((F i).2.1 < 1 + (F (i + s)).2.1 ∨ (F i).2.1 = 1 + (F (i + s)).2.1 ∧ s ≤ (F i).2.2)
theorem EX_u {op : Int → Int → Bool} {least n : Int} {F G : Int → Int × Int × Int} (hl : 1 ≤ least) (h : EX op least n F) (g : EX op least n G) : (F n).1 = (G n).1 ∧ (F n).2.1 = (G n).2.1 ∧ ∀ i, 0 ≤ i ∧ i < n → F i = G i := by
  refine ⟨h.1.trans g.1.symm, h.2.1.trans g.2.1.symm, ?_⟩
  have key : ∀ d : Nat, ∀ i, 0 ≤ i ∧ i ≤ n → (n - i).toNat ≤ d → (F i).1 = (G i).1 ∧ (F i).2.1 = (G i).2.1 ∧ (i < n → F i = G i) := by
    intro d
    induction d with
    | zero =>
      intro i hi hd
      have : i = n := by omega
      subst this
      exact ⟨h.1.trans g.1.symm, h.2.1.trans g.2.1.symm, fun q => by omega⟩
    | succ d ih =>
      intro i hi hd
      by_cases e : i = n
      · subst e
        exact ⟨h.1.trans g.1.symm, h.2.1.trans g.2.1.symm, fun q => by omega⟩
      · obtain ⟨h1, h2, h3⟩ := h.2.2 i (by omega)
        obtain ⟨g1, g2, g3⟩ := g.2.2 i (by omega)
        have e1 := ih (i + 1) (by omega) (by omega)
        have c : (F i).1 = (G i).1 ∧ (F i).2.1 = (G i).2.1 ∧ (F i).2.2 = (G i).2.2 := by
          rcases h1 with ⟨a1, a2, a3⟩ | ⟨a1, a2, a3, a4, a5⟩
          · rcases g1 with ⟨b1, b2, b3⟩ | ⟨b1, b2, b3, b4, b5⟩
            · omega
            · have e2 := ih (i + (G i).2.2) (by omega) (by omega)
              have e3 := h3 (G i).2.2 ⟨b1, b2⟩ b3
              omega
          · have e2 := ih (i + (F i).2.2) (by omega) (by omega)
            have e3 := g3 (F i).2.2 ⟨a1, a2⟩ a3
            rcases g1 with ⟨b1, b2, b3⟩ | ⟨b1, b2, b3, b4, b5⟩
            · omega
            · have e4 := ih (i + (G i).2.2) (by omega) (by omega)
              have e5 := h3 (G i).2.2 ⟨b1, b2⟩ b3
              omega
        exact ⟨c.1, c.2.1, fun _ => Prod.ext c.1 (Prod.ext c.2.1 c.2.2)⟩
  exact fun i hi => (key _ i (by omega) (Nat.le_refl _)).2.2 hi.2
noncomputable def exF (B : Mm_) (x : Int) (S : Int → Bool) : Int → Int × Int × Int := Classical.epsilon fun F => EX (opn B x S) (lws B x 0) (B 115 x) F
theorem exF_eq {B : Mm_} {x : Int} {S : Int → Bool} {F : Int → Int × Int × Int} (hl : 1 ≤ lws B x 0) (h : EX (opn B x S) (lws B x 0) (B 115 x) F) : EX (opn B x S) (lws B x 0) (B 115 x) (exF B x S) ∧ (∀ i, 0 ≤ i ∧ i < B 115 x → F i = exF B x S i) ∧ (F (B 115 x)).1 = (exF B x S (B 115 x)).1 ∧ (F (B 115 x)).2.1 = (exF B x S (B 115 x)).2.1 := by
  have e : EX (opn B x S) (lws B x 0) (B 115 x) (exF B x S) := Classical.epsilon_spec (p := fun F => EX (opn B x S) (lws B x 0) (B 115 x) F) ⟨F, h⟩
  have u := EX_u hl h e
  exact ⟨e, u.2.2, u.1, u.2.1⟩
/-- the first place of the piece, or the place alone, in which a place lies -/
def cst (Z : Int → Int) : Nat → Int
  | 0 => 0
  | q + 1 => if (q : Int) + 1 < cst Z q + Z (cst Z q) then cst Z q else (q : Int) + 1
theorem cst_bd (Z : Int → Int) : ∀ q : Nat, 0 ≤ cst Z q ∧ cst Z q ≤ q
  | 0 => ⟨Int.le_refl _, Int.le_refl _⟩
  | q + 1 => by
    have := cst_bd Z q
    unfold cst
    split <;> omega
/-- the first place -/
def fstB (p : Int → Bool) : Nat → Int
  | 0 => -1
  | n + 1 => if 0 ≤ fstB p n then fstB p n else if p n = true then n else -1
theorem fstB_spec (p : Int → Bool) : ∀ n : Nat, (fstB p n = -1 ∧ ∀ k : Nat, k < n → p k = false) ∨ (0 ≤ fstB p n ∧ fstB p n < n ∧ p (fstB p n) = true ∧ ∀ k : Int, 0 ≤ k → k < fstB p n → p k = false)
  | 0 => Or.inl ⟨rfl, fun k h => by omega⟩
  | n + 1 => by
    unfold fstB
    rcases fstB_spec p n with ⟨h1, h2⟩ | ⟨h1, h2, h3, h4⟩
    · rw [h1, if_neg (by omega)]
      by_cases hp : p n = true
      · rw [if_pos hp]
        refine Or.inr ⟨by omega, by omega, hp, fun k h5 h6 => ?_⟩
        have := h2 k.toNat (by omega)
        rwa [Int.toNat_of_nonneg h5] at this
      · rw [if_neg hp]
        refine Or.inl ⟨rfl, fun k hk => ?_⟩
        by_cases e : k = n
        · subst e
          exact Bool.eq_false_iff.mpr hp
        · exact h2 k (by omega)
    · rw [if_pos h1]
      exact Or.inr ⟨h1, by omega, h3, h4⟩
theorem fstB_eq {p : Int → Bool} {n : Nat} {k : Int} (h0 : 0 ≤ k ∧ k < n) (h1 : p k = true) (h2 : ∀ j : Int, 0 ≤ j → j < k → p j = false) : fstB p n = k := by
  rcases fstB_spec p n with ⟨_, g2⟩ | ⟨g1, g2, g3, g4⟩
  · have := g2 k.toNat (by omega)
    rw [Int.toNat_of_nonneg h0.1, h1] at this
    cases this
  · by_cases a : fstB p n < k
    · rw [h2 _ g1 a] at g3
      cases g3
    · by_cases b : k < fstB p n
      · rw [g4 k h0.1 b] at h1
        cases h1
      · omega
theorem fstB_none {p : Int → Bool} {n : Nat} (h : ∀ k : Nat, k < n → p k = false) : fstB p n = -1 := by
  rcases fstB_spec p n with ⟨g1, _⟩ | ⟨g1, g2, g3, g4⟩
  · exact g1
  · have := h (fstB p n).toNat (by omega)
    rw [Int.toNat_of_nonneg g1, g3] at this
    cases this
noncomputable def exZ (B : Mm_) (x : Int) (S : Int → Bool) : Int → Int := fun i => (exF B x S i).2.2
/-- the source and the place from which the n words of x from s on are -/
noncomputable def frY (B : Mm_) (x : Int) (S : Int → Bool) (s n : Int) : Int := fstB (fun y => S y && rnB B x s y n) 10
noncomputable def frJ (B : Mm_) (x s y n : Int) : Int := fstB (fun j => isR B (lws B x) x s y j n) 60
noncomputable def alS (B : Mm_) (x : Int) : Int → Bool := srcB B x (B 112 0)
noncomputable def wS (B : Mm_) (x q : Int) : Int := cst (exZ B x (alS B x)) q.toNat
noncomputable def wY (B : Mm_) (x q : Int) : Int := if 0 < exZ B x (alS B x) (wS B x q) then frY B x (alS B x) (wS B x q) (exZ B x (alS B x) (wS B x q)) else -1
noncomputable def wJ (B : Mm_) (x q : Int) : Int := frJ B x (wS B x q) (wY B x q) (exZ B x (alS B x) (wS B x q)) + (q - wS B x q)
/-- the runs of x, held by the class -/
noncomputable def Lk (B : Mm_) (x : Int) (M : Mm_) : Prop := (M 47 10 = B 115 x ∧ M 47 11 = lws B x 0 ∧ M 47 12 = lws B x 1 ∧ (M 47 13 = if lws B x 2 = 1 then 1 else 0) ∧ (M 47 14 = if lws B x 3 = 1 then 1 else 0))
  ∧ (∀ i, 0 ≤ i ∧ i < B 115 x → M 59 i = if lws B x 2 = 1 then B 24 (B 116 (60 * x + i)) else B 116 (60 * x + i))
  ∧ (∀ i : Nat, (i : Int) ≤ B 115 x → M 60 i = (rar B x 0 i : Int))
  ∧ (∀ y i, 0 ≤ y ∧ y < B 112 0 → 0 ≤ i ∧ i < B 115 x → M (49 + y) i = (mset (fun n => alS B x y && rnB B x i y n) 61 : Int))
noncomputable def Ca (B M : Mm_) : Prop := (M 47 9 = -1 ∨ ((0 ≤ M 47 9 ∧ M 47 9 < B 112 0) ∧ Lk B (M 47 9) M))
  ∧ (M 70 5 = 0 ∨ (M 70 5 = 1 ∧ ∀ x i, 0 ≤ x ∧ x < B 112 0 → 0 ≤ i ∧ i < B 115 x → M (72 + x) i = wY B x i ∧ (0 ≤ wY B x i → M (83 + x) i = wJ B x i)))
  ∧ (M 112 8 = 0 ∨ (M 112 8 = 1 ∧ ∀ x i, 0 ≤ x ∧ x < B 112 0 → 0 ≤ i ∧ i < B 115 x → M 135 (60 * x + i) = if 0 ≤ wY B x i then 60 * wY B x i + wJ B x i else -1))
def WfN (A B : Mm_) : Prop := (∀ x, 0 ≤ x ∧ x < 10 → A (3 + 2 * x) 1 = (mset (fun i => decide (A 117 (60 * x + i) = 1)) (B 115 x).toNat : Int)) ∧ (∀ j, A 117 j = 0 ∨ A 117 j = 1)
  ∧ (0 ≤ A 112 9 ∧ A 112 9 ≤ 30 ∧ A 27 5 = A 112 9) ∧ (∀ m, 0 ≤ m ∧ m < A 112 9 → (A 28 m = A 120 m ∧ A 29 m = A 121 m ∧ A 30 m = A 122 m ∧ A 31 m = A 123 m) ∧ (0 ≤ A 120 m ∧ A 120 m < B 112 0) ∧ (0 ≤ A 121 m ∧ A 121 m ≤ A 122 m ∧ A 122 m < B 115 (A 120 m)) ∧ (A 123 m = -1 ∨ 0 ≤ A 123 m ∧ A 123 m < B 112 0) ∧ A 123 m ≠ A 120 m)
  ∧ (A 32 3 = A 112 23 ∧ 0 ≤ A 112 23 ∧ A 112 23 ≤ 120 ∧ A 32 6 = A 112 24) ∧ (∀ i, 0 ≤ i ∧ i < A 112 23 → A 33 i = A 130 i ∧ 0 ≤ A 130 i ∧ A 130 i ≤ 255)
noncomputable def IV (L : Nat) (xs : Nat → Int32) (A B M : Mm_) : Prop := Sc B M ∧ WfC L xs B ∧ Ca B M ∧ Sn A M ∧ WfN A B
noncomputable def INV (L : Nat) (xs : Nat → Int32) (M : Mm_) : Prop := ∃ A B, IV L xs A B M
/-- two methods that answer alike -/
noncomputable def Two (P : Jg_) (L : Nat) (xs : Nat → Int32) (i1 : Nat) (l1 : Lc_) (i2 : Nat) (l2 : Lc_) : Prop := ∀ M, INV L xs M → ∃ R : Int → Mm_ → Prop, (∀ Q : Qp_, (∀ r M1, R r M1 → Q (some (0, r)) WF M1) → P i1 0 l1 [] WF M (0, 0) Q) ∧ (∀ r M1, R r M1 → M1 (-2) = RMx L xs (-2) ∧ ∀ Q : Qp_, (∀ M2, INV L xs M2 → Q (some (0, r)) WF M2) → P i2 0 l2 [] WF M1 (0, 0) Q)
theorem IV.ro {L : Nat} {xs : Nat → Int32} {A B M : Mm_} (h : IV L xs A B M) : M (-2) = RMx L xs (-2) := (h.1.r (-2)).trans (h.2.1.1 (-2) (by decide))
theorem INV.ro {L : Nat} {xs : Nat → Int32} {M : Mm_} (h : INV L xs M) : M (-2) = RMx L xs (-2) := by
  obtain ⟨A, B, h⟩ := h
  exact h.ro
theorem Ca_0 {B M : Mm_} (h1 : M 47 9 = -1) (h2 : M 70 5 = 0) (h3 : M 112 8 = 0) : Ca B M := ⟨Or.inl h1, Or.inl h2, Or.inl h3⟩
theorem Lk_c {B M M' : Mm_} {x : Int} (hT : B 112 0 ≤ 10) (h : Lk B x M) (g : ∀ c, 47 ≤ c ∧ c ≤ 60 → M' c = M c) : Lk B x M' := by
  obtain ⟨h1, h2, h3, h4⟩ := h
  refine ⟨?_, ?_, ?_, ?_⟩
  · rw [g 47 (by omega)]
    exact h1
  · rw [g 59 (by omega)]
    exact h2
  · rw [g 60 (by omega)]
    exact h3
  · intro y i hy hi
    rw [g (49 + y) (by omega)]
    exact h4 y i hy hi
theorem Ca_c {B M M' : Mm_} (hT : B 112 0 ≤ 10) (h : Ca B M) (g : ∀ c, 47 ≤ c ∧ c ≤ 111 → M' c = M c) (g1 : M' 112 8 = M 112 8) (g2 : M' 135 = M 135) : Ca B M' := by
  obtain ⟨h1, h2, h3⟩ := h
  refine ⟨?_, ?_, ?_⟩
  · rw [g 47 (by omega)]
    rcases h1 with h1 | ⟨a, b⟩
    · exact Or.inl h1
    · exact Or.inr ⟨a, Lk_c hT b fun c hc => g c (by omega)⟩
  · rw [g 70 (by omega)]
    rcases h2 with h2 | ⟨a, b⟩
    · exact Or.inl h2
    · refine Or.inr ⟨a, fun x i hx hi => ?_⟩
      rw [g (72 + x) (by omega), g (83 + x) (by omega)]
      exact b x i hx hi
  · rw [g1, g2]
    exact h3
