/-! LOOPS, FRAMES, the abstract state: core B (texts, words, meanings, rules), rest A (stops, marks, the text that is read) -/
theorem lpN {f : Nat → Prop} {n : Nat} (h : f n) (s : ∀ i, i < n → f (i + 1) → f i) : ∀ i, i ≤ n → f i := by
  intro i hi
  generalize e : n - i = d
  induction d generalizing i with
  | zero =>
    have : i = n := by omega
    subst this
    exact h
  | succ d ih => exact s i (by omega) (ih (i + 1) (by omega) (by omega))
theorem lpI {f : Int → Prop} {n lo : Int} (h : f n) (s : ∀ i, lo ≤ i → i < n → f (i + 1) → f i) : ∀ i, lo ≤ i → i ≤ n → f i := by
  intro i h0 hi
  generalize e : (n - i).toNat = d
  induction d generalizing i with
  | zero =>
    have : i = n := by omega
    subst this
    exact h
  | succ d ih => exact s i h0 (by omega) (ih (i + 1) (by omega) (by omega) (by omega))
theorem lpD {f : Int → Prop} {n hi : Int} (h : f n) (s : ∀ i, n < i → i ≤ hi → f (i + (-1)) → f i) : ∀ i, n ≤ i → i ≤ hi → f i := by
  intro i h0 h1
  generalize e : (i - n).toNat = d
  induction d generalizing i with
  | zero =>
    have : i = n := by omega
    subst this
    exact h
  | succ d ih => exact s i (by omega) h1 (ih (i + (-1)) (by omega) (by omega) (by omega))
theorem upd_r {M : Mm_} {a b : Int} (h : b ≠ a) (i v : Int) : updM M a i v b = M b := funext fun j => upd_c h i v j
/-- nothing changed but cells from lo to hi -/
def Fr (lo hi : Int) (M M' : Mm_) : Prop := ∀ c, ¬ (lo ≤ c ∧ c ≤ hi) → M' c = M c
theorem Fr.refl (lo hi : Int) (M : Mm_) : Fr lo hi M M := fun _ _ => rfl
theorem Fr.trans {lo hi : Int} {M M' M'' : Mm_} (h : Fr lo hi M M') (g : Fr lo hi M' M'') : Fr lo hi M M'' := fun c hc => (g c hc).trans (h c hc)
theorem Fr.mono {lo hi lo' hi' : Int} {M M' : Mm_} (h : Fr lo hi M M') (g : lo' ≤ lo ∧ hi ≤ hi' := by omega) : Fr lo' hi' M M' := fun c hc => h c (by omega)
theorem Fr.u {lo hi : Int} {M M' : Mm_} (h : Fr lo hi M M') {c j v : Int} (g : lo ≤ c ∧ c ≤ hi := by omega) : Fr lo hi M (updM M' c j v) := fun b hb => (upd_r (by omega) j v).trans (h b hb)
theorem Fr.u0 {lo hi : Int} {M : Mm_} {c j v : Int} (g : lo ≤ c ∧ c ≤ hi := by omega) : Fr lo hi M (updM M c j v) := (Fr.refl lo hi M).u g
/-- the core's places -/
def Pc (c j : Int) : Prop := c < 3 ∨ (3 ≤ c ∧ c ≤ 22 ∧ ¬ (j = 1 ∧ c % 2 = 1)) ∨ (23 ≤ c ∧ c ≤ 26) ∨ (35 ≤ c ∧ c ≤ 46) ∨ (c = 112 ∧ (j = 0 ∨ j = 14 ∨ j = 17)) ∨ (113 ≤ c ∧ c ≤ 116) ∨ c = 118 ∨ c = 119 ∨ (124 ≤ c ∧ c ≤ 127)
/-- the rest's places -/
def Pn (c j : Int) : Prop := (3 ≤ c ∧ c ≤ 22 ∧ j = 1 ∧ c % 2 = 1) ∨ (27 ≤ c ∧ c ≤ 34) ∨ (c = 112 ∧ (j = 9 ∨ j = 23 ∨ j = 24)) ∨ c = 117 ∨ (120 ≤ c ∧ c ≤ 123) ∨ c = 130
def Sc (B M : Mm_) : Prop := ∀ c j, Pc c j → M c j = B c j
def Sn (A M : Mm_) : Prop := ∀ c j, Pn c j → M c j = A c j
theorem Sc.refl (M : Mm_) : Sc M M := fun _ _ _ => rfl
theorem Sn.refl (M : Mm_) : Sn M M := fun _ _ _ => rfl
theorem Sc.fr {B M M' : Mm_} {lo hi : Int} (h : Sc B M) (g : Fr lo hi M M') (b : 47 ≤ lo ∧ hi ≤ 111 ∨ 128 ≤ lo ∧ hi ≤ 129 ∨ 131 ≤ lo ∧ hi ≤ 140 := by omega) : Sc B M' := fun c j hc => by
  rw [g c (by unfold Pc at hc; omega)]
  exact h c j hc
theorem Sn.fr {A M M' : Mm_} {lo hi : Int} (h : Sn A M) (g : Fr lo hi M M') (b : 47 ≤ lo ∧ hi ≤ 111 ∨ 128 ≤ lo ∧ hi ≤ 129 ∨ 131 ≤ lo ∧ hi ≤ 140 := by omega) : Sn A M' := fun c j hc => by
  rw [g c (by unfold Pn at hc; omega)]
  exact h c j hc
theorem Sc.u {B M : Mm_} (h : Sc B M) {c i v : Int} (b : 47 ≤ c ∧ c ≤ 111 ∨ 128 ≤ c ∧ c ≤ 129 ∨ 131 ≤ c ∧ c ≤ 140 := by omega) : Sc B (updM M c i v) := fun a j hc => by
  rw [upd_c (by unfold Pc at hc; omega)]
  exact h a j hc
theorem Sn.u {A M : Mm_} (h : Sn A M) {c i v : Int} (b : 47 ≤ c ∧ c ≤ 111 ∨ 128 ≤ c ∧ c ≤ 129 ∨ 131 ≤ c ∧ c ≤ 140 := by omega) : Sn A (updM M c i v) := fun a j hc => by
  rw [upd_c (by unfold Pn at hc; omega)]
  exact h a j hc
theorem Sc.v {B M : Mm_} (h : Sc B M) {i v : Int} (b : ¬ (i = 0 ∨ i = 14 ∨ i = 17) := by decide) : Sc B (updM M 112 i v) := fun a j hc => by
  by_cases e : a = 112
  · subst e
    rw [upd_i (by unfold Pc at hc; omega)]
    exact h 112 j hc
  · rw [upd_c e]
    exact h a j hc
theorem Sn.v {A M : Mm_} (h : Sn A M) {i v : Int} (b : ¬ (i = 9 ∨ i = 23 ∨ i = 24) := by decide) : Sn A (updM M 112 i v) := fun a j hc => by
  by_cases e : a = 112
  · subst e
    rw [upd_i (by unfold Pn at hc; omega)]
    exact h 112 j hc
  · rw [upd_c e]
    exact h a j hc
theorem Sc.r {B M : Mm_} (h : Sc B M) (c : Int) (b : c < 3 ∨ (23 ≤ c ∧ c ≤ 26) ∨ (35 ≤ c ∧ c ≤ 46) ∨ (113 ≤ c ∧ c ≤ 116) ∨ c = 118 ∨ c = 119 ∨ (124 ≤ c ∧ c ≤ 127) := by omega) : M c = B c := funext fun j => h c j (by unfold Pc; omega)
theorem Sn.r {A M : Mm_} (h : Sn A M) (c : Int) (b : (27 ≤ c ∧ c ≤ 34) ∨ c = 117 ∨ (120 ≤ c ∧ c ≤ 123) ∨ c = 130 := by omega) : M c = A c := funext fun j => h c j (by unfold Pn; omega)
/-- any of -/
def anyB (p : Int → Bool) : Nat → Bool
  | 0 => false
  | n + 1 => anyB p n || p n
theorem anyB_iff (p : Int → Bool) : ∀ n : Nat, anyB p n = true ↔ ∃ k : Nat, k < n ∧ p k = true
  | 0 => by simp [anyB]
  | n + 1 => by
    unfold anyB
    rw [Bool.or_eq_true, anyB_iff p n]
    constructor
    · rintro (⟨k, h1, h2⟩ | h)
      · exact ⟨k, by omega, h2⟩
      · exact ⟨n, by omega, h⟩
    · rintro ⟨k, h1, h2⟩
      by_cases e : k = n
      · subst e
        exact Or.inr h2
      · exact Or.inl ⟨k, by omega, h2⟩
theorem cntB_t {p : Int → Bool} {n : Nat} (h : p n = true) : cntB p (n + 1) = cntB p n + 1 := by
  show cntB p n + _ = _
  rw [if_pos h]
theorem cntB_f {p : Int → Bool} {n : Nat} (h : ¬ p n = true) : cntB p (n + 1) = cntB p n := by
  show cntB p n + _ = _
  rw [if_neg h]
  rfl
/-- the last clause of a kind -/
def lastK (kd nb : Int → Int) (what lo : Int) : Nat → Int
  | 0 => -1
  | n + 1 => if kd (lo + n) = what then nb (lo + n) else lastK kd nb what lo n
def nCl (B : Mm_) (r : Int) : Nat := (B 125 (r + 1) - B 125 r).toNat
def tol (B : Mm_) (r what : Int) : Int := lastK (B 126) (B 127) what (B 125 r) (nCl B r)
def stk (B : Mm_) (r k : Int) : Bool := anyB (fun i => decide (B 126 (B 125 r + i) = 7 ∧ B 127 (B 125 r + i) = k)) (nCl B r)
/-- how many words mean the same as those of group g, by a row of numbers -/
def gcnt (row : Int → Int) (g : Int) : Nat := cntB (fun w => decide (row (w + 1) = g)) 200
def WfT (B : Mm_) : Prop := (0 ≤ B 112 0 ∧ B 112 0 ≤ 10 ∧ B 1 1 = B 112 0 ∧ ∀ x, B 112 0 ≤ x ∧ x < 10 → B 115 x = 0) ∧ (∀ x, 0 ≤ x ∧ x < 10 → (0 ≤ B 115 x ∧ B 115 x ≤ 60) ∧ (0 ≤ B 114 x ∧ B 114 x ≤ 999) ∧ B (3 + 2 * x) 4 = B 115 x ∧ B (3 + 2 * x) 3 = B 114 x ∧ B (3 + 2 * x) 2 = B 113 x) ∧ (∀ x i, 0 ≤ x ∧ x < 10 → 0 ≤ i ∧ i < B 115 x → B (3 + 2 * x + 1) i = B 116 (60 * x + i) ∧ 1 ≤ B 116 (60 * x + i) ∧ B 116 (60 * x + i) ≤ 200)
def WfL (B : Mm_) : Prop := (∀ w, 1 ≤ w ∧ w ≤ 200 → (1 ≤ B 24 w ∧ B 24 w ≤ 200) ∧ B 25 (B 24 w) = (gcnt (B 24) (B 24 w) : Int) ∧ B 26 w = B 119 w ∧ (B 119 w = 0 ∨ B 119 w = 1)) ∧ (∀ v w, 1 ≤ v ∧ v ≤ 200 → 1 ≤ w ∧ w ≤ 200 → (B 24 v = B 24 w ↔ B 118 v = B 118 w))
def lowK (k : Int) : Int := ([2, 0, 0, 0, 0, 0, 0, 0] : List Int).getD k.toNat 0
def higK (k : Int) : Int := ([20, 3, 1, 1, 999, 100, 100, 7] : List Int).getD k.toNat 0
def WfR (B : Mm_) : Prop := (0 ≤ B 112 14 ∧ B 112 14 ≤ 8 ∧ B 35 3 = B 112 14 ∧ B 125 (B 112 14) = B 112 17) ∧ (∀ r, 0 ≤ r ∧ r < B 112 14 → (0 ≤ B 124 r ∧ B 124 r ≤ 999 ∧ B 36 r = B 124 r) ∧ (B 125 r ≤ B 125 (r + 1) ∧ B 125 (r + 1) ≤ B 125 r + 8) ∧ B 37 r = (mset (fun k => stk B r k) 8 : Int) ∧ (∀ what, 0 ≤ what ∧ what < 7 → B (39 + r) what = tol B r what) ∧ (∀ k, r ≤ k → stk B r k = false)) ∧ (∀ r, 0 ≤ r ∧ r ≤ B 112 14 → 0 ≤ B 125 r ∧ B 125 r ≤ 8 * r) ∧ (∀ c, 0 ≤ c ∧ c < B 112 17 → (0 ≤ B 126 c ∧ B 126 c ≤ 7) ∧ lowK (B 126 c) ≤ B 127 c ∧ B 127 c ≤ higK (B 126 c))
def WfC (L : Nat) (xs : Nat → Int32) (B : Mm_) : Prop := (∀ a, a < 0 → B a = RMx L xs a) ∧ WfT B ∧ WfL B ∧ WfR B
theorem WfL_c {B M' : Mm_} (h : WfL B) (g : ∀ c, 23 ≤ c ∧ c ≤ 26 ∨ c = 118 ∨ c = 119 → M' c = B c) : WfL M' := by
  unfold WfL
  rw [g 24 (by omega), g 25 (by omega), g 26 (by omega), g 118 (by omega), g 119 (by omega)]
  exact h
theorem WfR_c {B M' : Mm_} (h : WfR B) (g : ∀ c, 35 ≤ c ∧ c ≤ 46 ∨ 124 ≤ c ∧ c ≤ 127 → M' c = B c) (g1 : M' 112 14 = B 112 14) (g2 : M' 112 17 = B 112 17) : WfR M' := by
  have e1 : ∀ r what, tol M' r what = tol B r what := fun r what => by
    unfold tol nCl
    rw [g 125 (by omega), g 126 (by omega), g 127 (by omega)]
  have e2 : ∀ r k, stk M' r k = stk B r k := fun r k => by
    unfold stk nCl
    rw [g 125 (by omega), g 126 (by omega), g 127 (by omega)]
  obtain ⟨h1, h2, h3, h4⟩ := h
  refine ⟨?_, ?_, ?_, ?_⟩
  · rw [g 35 (by omega), g 125 (by omega), g1, g2]
    exact h1
  · intro r hr
    rw [g1] at hr
    obtain ⟨a, b, c, d, e⟩ := h2 r hr
    refine ⟨by rw [g 124 (by omega), g 36 (by omega)]; exact a, by rw [g 125 (by omega)]; exact b, ?_, ?_, ?_⟩
    · rw [g 37 (by omega)]
      simp only [e2]
      exact c
    · intro what hw
      rw [g (39 + r) (by omega), e1]
      exact d what hw
    · intro k hk
      rw [e2]
      exact e k hk
  · rw [g1, g 125 (by omega)]
    exact h3
  · rw [g2, g 126 (by omega), g 127 (by omega)]
    exact h4
theorem WfT_c {B M' : Mm_} (h : WfT B) (g : ∀ c, c = 1 ∨ 113 ≤ c ∧ c ≤ 116 → M' c = B c) (g1 : M' 112 0 = B 112 0) (g2 : ∀ c j, 3 ≤ c ∧ c ≤ 22 → ¬ (j = 1 ∧ c % 2 = 1) → M' c j = B c j) : WfT M' := by
  obtain ⟨h1, h2, h3⟩ := h
  refine ⟨?_, ?_, ?_⟩
  · rw [g 1 (by omega), g 115 (by omega), g1]
    exact h1
  · intro x hx
    rw [g 113 (by omega), g 114 (by omega), g 115 (by omega), g2 (3 + 2 * x) 4 (by omega) (by omega), g2 (3 + 2 * x) 3 (by omega) (by omega), g2 (3 + 2 * x) 2 (by omega) (by omega)]
    exact h2 x hx
  · intro x i hx hi
    rw [g 115 (by omega)] at hi
    rw [g 116 (by omega), g2 (3 + 2 * x + 1) i (by omega) (by omega)]
    exact h3 x i hx hi
section RD
variable {B M : Mm_}
theorem rdT (hS : Sc B M) (hW : WfT B) : (0 ≤ B 112 0 ∧ B 112 0 ≤ 10) ∧ M 112 0 = B 112 0 ∧ M 1 1 = B 112 0 := ⟨⟨hW.1.1, hW.1.2.1⟩, hS 112 0 (by unfold Pc; omega), (hS 1 1 (by unfold Pc; omega)).trans hW.1.2.2.1⟩
theorem rdX (hS : Sc B M) (hW : WfT B) {x : Int} (hx : 0 ≤ x ∧ x < 10) : (0 ≤ B 115 x ∧ B 115 x ≤ 60) ∧ (0 ≤ B 114 x ∧ B 114 x ≤ 999) ∧ M 115 x = B 115 x ∧ M (3 + 2 * x) 4 = B 115 x ∧ M 114 x = B 114 x ∧ M (3 + 2 * x) 3 = B 114 x ∧ M 113 x = B 113 x ∧ M (3 + 2 * x) 2 = B 113 x := by
  obtain ⟨h1, h2, h3, h4, h5⟩ := hW.2.1 x hx
  exact ⟨h1, h2, hS 115 x (by unfold Pc; omega), (hS (3 + 2 * x) 4 (by unfold Pc; omega)).trans h3, hS 114 x (by unfold Pc; omega), (hS (3 + 2 * x) 3 (by unfold Pc; omega)).trans h4, hS 113 x (by unfold Pc; omega), (hS (3 + 2 * x) 2 (by unfold Pc; omega)).trans h5⟩
theorem rdW (hS : Sc B M) (hW : WfT B) {x i : Int} (hx : 0 ≤ x ∧ x < 10) (hi : 0 ≤ i ∧ i < B 115 x) : M (3 + 2 * x + 1) i = B 116 (60 * x + i) ∧ M 116 (60 * x + i) = B 116 (60 * x + i) ∧ 1 ≤ B 116 (60 * x + i) ∧ B 116 (60 * x + i) ≤ 200 := by
  obtain ⟨h1, h2, h3⟩ := hW.2.2 x i hx hi
  exact ⟨(hS (3 + 2 * x + 1) i (by unfold Pc; omega)).trans h1, hS 116 _ (by unfold Pc; omega), h2, h3⟩
end RD
