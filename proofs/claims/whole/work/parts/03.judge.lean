/-- a judgement over the pure machine: method, place, locals, stack, cells, memory, made so far, what a return must give -/
abbrev Jg_ : Type := Nat → Nat → Lc_ → List Vl_ → Wd_ → Mm_ → Cn_ → Qp_ → Prop
def cPof (P : Jg_) : Nat → List Vl_ → Wd_ → Mm_ → Qp_ → Prop := fun id as w M Q => P id 0 (entL as (mxL id)) [] w M (0, 0) Q
def Mono (P : Jg_) : Prop := ∀ id pc ls st w M cn (Q Q' : Qp_), (∀ v w' M', Q v w' M' → Q' v w' M') → P id pc ls st w M cn Q → P id pc ls st w M cn Q'
/-- fewer locals known -/
def lsub (a b : Lc_) : Prop := ∀ (i : Nat) (v : Vl_), a[i]? = some (some v) → b[i]? = some (some v)
def Forg (P : Jg_) : Prop := ∀ id pc ls ls' st w M cn (Q : Qp_), ls.length = ls'.length → lsub ls' ls → P id pc ls' st w M cn Q → P id pc ls st w M cn Q
def Step (P : Jg_) : Prop := ∀ id pc ls st w M cn (Q : Qp_) e, (codeOf id)[pc]? = some e → st1 (cPof P) (fun pc ls st w M cn => P id pc ls st w M cn Q) Q e pc ls st w M cn → P id pc ls st w M cn Q
def Clo (P : Jg_) : Prop := Mono P ∧ Forg P ∧ Step P
/-- n instructions at once -/
def stN (cP : Nat → List Vl_ → Wd_ → Mm_ → Qp_ → Prop) (Q : Qp_) (cd : List In_) (k : Nat → Lc_ → List Vl_ → Wd_ → Mm_ → Cn_ → Prop) : Nat → Nat → Lc_ → List Vl_ → Wd_ → Mm_ → Cn_ → Prop
  | 0 => k
  | n + 1 => fun pc ls st w M cn => match cd[pc]? with
    | some e => st1 cP (stN cP Q cd k n) Q e pc ls st w M cn
    | none => False
theorem g1_mono {t : Nat} {st : List Vl_} {k k' : Int → List Vl_ → Prop} (h : ∀ x r, k x r → k' x r) : g1 t st k → g1 t st k' := by
  unfold g1
  split
  · split
    · exact h _ _
    · exact id
  · exact id
theorem gl_mono {t : Nat} {ls : Lc_} {i : Nat} {k k' : Int → Prop} (h : ∀ x, k x → k' x) : gl t ls i k → gl t ls i k' := by
  unfold gl
  split
  · split
    · exact h _
    · exact id
  · exact id
theorem bud_iff {cn : Cn_} {a b MC MS : Nat} {p : Prop} : bud cn a b MC MS p ↔ (cn.1 + a ≤ MC ∧ cn.2 + b ≤ MS) ∧ p := by
  unfold bud
  by_cases h1 : cn.1 + a ≤ MC
  · rw [Nat.ble_eq_true_of_le h1]
    by_cases h2 : cn.2 + b ≤ MS
    · rw [Nat.ble_eq_true_of_le h2]
      exact ⟨fun h => ⟨⟨h1, h2⟩, h⟩, fun h => h.2⟩
    · have e : Nat.ble (cn.2 + b) MS = false := Bool.eq_false_iff.mpr fun h => h2 (Nat.le_of_ble_eq_true h)
      rw [e]
      exact ⟨fun h => h.elim, fun h => absurd h.1.2 h2⟩
  · have e : Nat.ble (cn.1 + a) MC = false := Bool.eq_false_iff.mpr fun h => h1 (Nat.le_of_ble_eq_true h)
    rw [e]
    exact ⟨fun h => h.elim, fun h => absurd h.1.1 h1⟩
theorem bud_mono {cn : Cn_} {a b MC MS : Nat} {p q : Prop} (h : p → q) (hb : bud cn a b MC MS p) : bud cn a b MC MS q := bud_iff.mpr ⟨(bud_iff.mp hb).1, h (bud_iff.mp hb).2⟩
theorem callG_iff {st : List Vl_} {n : Nat} {rcv : Bool} {mx : Nat} {k : Int → List Vl_ → List Vl_ → Prop} : callG st n rcv mx k ↔ (n ≤ st.length ∧ catS (st.drop n) ≤ 8 ∧ catS (st.take n) ≤ mx) ∧ (rcv = true → ∃ q as, (st.take n).reverse = (2, q) :: as ∧ k q ((2, q) :: as) (st.drop n)) ∧ (rcv = false → k 0 (st.take n).reverse (st.drop n)) := by
  unfold callG
  constructor
  · intro h
    split at h
    · rename_i e
      rw [Bool.and_eq_true, Bool.and_eq_true] at e
      refine ⟨⟨Nat.le_of_ble_eq_true e.1, Nat.le_of_ble_eq_true e.2.1, Nat.le_of_ble_eq_true e.2.2⟩, ?_⟩
      split at h
      · split at h
        · rename_i v as hv
          split at h
          · rename_i e2
            have e2 := Nat.eq_of_beq_eq_true e2
            obtain ⟨t, q⟩ := v
            dsimp only at e2
            subst e2
            exact ⟨fun _ => ⟨q, as, hv, h⟩, fun g => by cases g⟩
          · exact h.elim
        · exact h.elim
      · exact ⟨fun g => (by cases g), fun _ => h⟩
    · exact h.elim
  · rintro ⟨⟨h1, h2, h3⟩, h4, h5⟩
    rw [Nat.ble_eq_true_of_le h1, Nat.ble_eq_true_of_le h2, Nat.ble_eq_true_of_le h3]
    cases rcv with
    | true =>
      obtain ⟨q, as, e1, e2⟩ := h4 rfl
      show (match (st.take n).reverse with
        | v :: as => match Nat.beq v.1 2 with
          | true => k v.2 (v :: as) (st.drop n)
          | false => False
        | [] => False)
      rw [e1]
      exact e2
    | false => exact h5 rfl
theorem callG_mono {st : List Vl_} {n : Nat} {rcv : Bool} {mx : Nat} {k k' : Int → List Vl_ → List Vl_ → Prop} (h : ∀ q as r, k q as r → k' q as r) (hk : callG st n rcv mx k) : callG st n rcv mx k' := by
  obtain ⟨h1, h2, h3⟩ := callG_iff.mp hk
  exact callG_iff.mpr ⟨h1, fun g => (h2 g).elim fun q h9 => h9.elim fun as h8 => ⟨q, as, h8.1, h _ _ _ h8.2⟩, fun g => h _ _ _ (h3 g)⟩
theorem swc_mono {x : Int} {k k' : Nat → Prop} (h : ∀ t, k t → k' t) : ∀ (tg : List Nat) (lo : Int), swc x k lo tg → swc x k' lo tg
  | [], _ => fun _ => trivial
  | _ :: ts, lo => fun q => ⟨fun e => h _ (q.1 e), swc_mono h ts (lo + 1) q.2⟩
theorem ex1_mono {α : Type} {p q : α → Prop} (h : ∀ x, p x → q x) : (∃ x, p x) → ∃ x, q x := fun ⟨x, hx⟩ => ⟨x, h x hx⟩
set_option maxHeartbeats 4000000 in
theorem st1_mono {cP : Nat → List Vl_ → Wd_ → Mm_ → Qp_ → Prop} {k k' : Nat → Lc_ → List Vl_ → Wd_ → Mm_ → Cn_ → Prop} {Q : Qp_} (hc : ∀ id as w M (Q Q' : Qp_), (∀ v w' M', Q v w' M' → Q' v w' M') → cP id as w M Q → cP id as w M Q') (h : ∀ pc ls st w M cn, k pc ls st w M cn → k' pc ls st w M cn) (e : In_) (pc : Nat) (ls : Lc_) (st : List Vl_) (w : Wd_) (M : Mm_) (cn : Cn_) : st1 cP k Q e pc ls st w M cn → st1 cP k' Q e pc ls st w M cn := by
  obtain ⟨ins, bp, a, b, z, tg⟩ := e
  intro q
  cases ins
  all_goals try exact q
  all_goals try exact h _ _ _ _ _ _ q
  all_goals simp only [st1] at q ⊢
  all_goals (repeat' first
    | (refine g1_mono ?_ q; clear q; intro x r q)
    | (refine bud_mono ?_ q; clear q; intro q)
    | (refine callG_mono ?_ q; clear q; intro x y r q)
    | (refine gl_mono ?_ q; clear q; intro x q)
    | (refine ex1_mono ?_ q; clear q; intro x q)
    | exact h _ _ _ _ _ _ q
    | exact q
    | (refine And.imp ?_ ?_ q <;> clear q <;> intro q)
    | (refine swc_mono ?_ _ _ q; intro t q)
    | exact fun c => h _ _ _ _ _ _ (q c)
    | (refine hc _ _ _ _ _ _ ?_ q; intro v w' M' q)
    | (split at q))
theorem cPof_mono {P : Jg_} (hP : Mono P) : ∀ id as w M (Q Q' : Qp_), (∀ v w' M', Q v w' M' → Q' v w' M') → cPof P id as w M Q → cPof P id as w M Q' := fun _ _ _ _ _ _ hq h => hP _ _ _ _ _ _ _ _ _ hq h
theorem Clo.steps {P : Jg_} (hP : Clo P) (id : Nat) (Q : Qp_) : ∀ (n pc : Nat) (ls : Lc_) (st : List Vl_) (w : Wd_) (M : Mm_) (cn : Cn_), stN (cPof P) Q (codeOf id) (fun pc ls st w M cn => P id pc ls st w M cn Q) n pc ls st w M cn → P id pc ls st w M cn Q
  | 0, _, _, _, _, _, _ => fun h => h
  | n + 1, pc, ls, st, w, M, cn => fun h => by
    unfold stN at h
    split at h
    · rename_i e he
      exact hP.2.2 id pc ls st w M cn Q e he (st1_mono (cPof_mono hP.1) (Clo.steps hP id Q n) e pc ls st w M cn h)
    · exact h.elim
/-- the cells when both objects are made -/
def WF : Wd_ := [(0, 11, [1, 23, 27, 32, 35, 47, 64, 70, 93, 107]),
  (0, 1, [2, (-1)]),
  (4, 10, [3, 5, 7, 9, 11, 13, 15, 17, 19, 21]),
  (0, 0, [4, (-1), (-1), (-1), (-1)]),
  (1, 60, []),
  (0, 0, [6, (-1), (-1), (-1), (-1)]),
  (1, 60, []),
  (0, 0, [8, (-1), (-1), (-1), (-1)]),
  (1, 60, []),
  (0, 0, [10, (-1), (-1), (-1), (-1)]),
  (1, 60, []),
  (0, 0, [12, (-1), (-1), (-1), (-1)]),
  (1, 60, []),
  (0, 0, [14, (-1), (-1), (-1), (-1)]),
  (1, 60, []),
  (0, 0, [16, (-1), (-1), (-1), (-1)]),
  (1, 60, []),
  (0, 0, [18, (-1), (-1), (-1), (-1)]),
  (1, 60, []),
  (0, 0, [20, (-1), (-1), (-1), (-1)]),
  (1, 60, []),
  (0, 0, [22, (-1), (-1), (-1), (-1)]),
  (1, 60, []),
  (0, 2, [24, 25, 26]),
  (1, 201, []),
  (1, 201, []),
  (3, 201, []),
  (0, 3, [1, 28, 29, 30, 31, (-1)]),
  (1, 30, []),
  (1, 30, []),
  (1, 30, []),
  (1, 30, []),
  (0, 4, [33, 34, (-1), (-1), (-1), (-1), (-1)]),
  (1, 120, []),
  (1, 7, []),
  (0, 5, [36, 37, 38, (-1)]),
  (1, 8, []),
  (1, 8, []),
  (5, 8, [39, 40, 41, 42, 43, 44, 45, 46]),
  (1, 7, []),
  (1, 7, []),
  (1, 7, []),
  (1, 7, []),
  (1, 7, []),
  (1, 7, []),
  (1, 7, []),
  (1, 7, []),
  (0, 6, [1, 23, 35, 48, 59, 60, 61, 62, 63, (-1), (-1), (-1), (-1), (-1), (-1)]),
  (6, 10, [49, 50, 51, 52, 53, 54, 55, 56, 57, 58]),
  (2, 60, []),
  (2, 60, []),
  (2, 60, []),
  (2, 60, []),
  (2, 60, []),
  (2, 60, []),
  (2, 60, []),
  (2, 60, []),
  (2, 60, []),
  (2, 60, []),
  (1, 60, []),
  (1, 61, []),
  (2, 201, []),
  (2, 60, []),
  (2, 4, []),
  (0, 7, [47, 65, 66, 67, 68, 69, (-1), (-1)]),
  (1, 61, []),
  (1, 61, []),
  (1, 60, []),
  (1, 60, []),
  (1, 60, []),
  (0, 8, [1, 47, 64, 71, 82, (-1), (-1), (-1), (-1), (-1)]),
  (5, 10, [72, 73, 74, 75, 76, 77, 78, 79, 80, 81]),
  (1, 60, []),
  (1, 60, []),
  (1, 60, []),
  (1, 60, []),
  (1, 60, []),
  (1, 60, []),
  (1, 60, []),
  (1, 60, []),
  (1, 60, []),
  (1, 60, []),
  (5, 10, [83, 84, 85, 86, 87, 88, 89, 90, 91, 92]),
  (1, 60, []),
  (1, 60, []),
  (1, 60, []),
  (1, 60, []),
  (1, 60, []),
  (1, 60, []),
  (1, 60, []),
  (1, 60, []),
  (1, 60, []),
  (1, 60, []),
  (0, 9, [1, 94, 105, 106, (-1), (-1)]),
  (6, 10, [95, 96, 97, 98, 99, 100, 101, 102, 103, 104]),
  (2, 60, []),
  (2, 60, []),
  (2, 60, []),
  (2, 60, []),
  (2, 60, []),
  (2, 60, []),
  (2, 60, []),
  (2, 60, []),
  (2, 60, []),
  (2, 60, []),
  (1, 10, []),
  (1, 10, []),
  (0, 10, [108, 109, 110, 111, (-1), (-1)]),
  (1, 60, []),
  (1, 60, []),
  (1, 60, []),
  (1, 60, []),
  (0, 12, [(-1), 113, 114, 115, 116, 117, 118, 119, (-1), (-1), 120, 121, 122, 123, (-1), 124, 125, (-1), 126, 127, 128, 129, 130, (-1), (-1), (-1), (-1), (-1), (-1), 131, (-1), 132, 133, 134, 135, (-1), (-1), 136, 137, 138, 139, 140]),
  (1, 16, []),
  (1, 16, []),
  (1, 16, []),
  (1, 960, []),
  (3, 960, []),
  (1, 201, []),
  (3, 201, []),
  (1, 30, []),
  (1, 30, []),
  (1, 30, []),
  (1, 30, []),
  (1, 8, []),
  (1, 9, []),
  (1, 72, []),
  (1, 72, []),
  (3, 8, []),
  (1, 7, []),
  (1, 120, []),
  (1, 3660, []),
  (1, 61, []),
  (1, 61, []),
  (1, 61, []),
  (1, 960, []),
  (1, 16, []),
  (1, 120, []),
  (1, 120, []),
  (1, 60, []),
  (1, 60, [])]
