/-! THE CONSTRUCTORS, by a walk of numbers alone: they read no memory; what they write is kept in a list -/
abbrev Lg_ : Type := List (Int × Int × Int)
def lookE (E : Mm_) : Lg_ → Int → Int → Int
  | [], c, j => E c j
  | e :: l, c, j => if c = e.1 ∧ j = e.2.1 then e.2.2 else lookE E l c j
/-- of the first n cells M holds what the list says -/
def Mr (E : Mm_) (lg : Lg_) (n : Int) (M : Mm_) : Prop := (∀ c j, c < n → M c j = lookE E lg c j) ∧ (∀ c j, n ≤ c → lookE E lg c j = 0)
theorem Mr.w {E : Mm_} {lg : Lg_} {n : Int} {M : Mm_} (h : Mr E lg n M) {c i v : Int} (hc : c < n) : Mr E ((c, i, v) :: lg) n (updM M c i v) := by
  refine ⟨fun a j ha => ?_, fun a j ha => ?_⟩
  · show (if a = c ∧ j = i then v else M a j) = (if a = c ∧ j = i then v else lookE E lg a j)
    rw [h.1 a j ha]
  · show (if a = c ∧ j = i then v else lookE E lg a j) = 0
    rw [if_neg (by omega)]
    exact h.2 a j ha
theorem Mr.z {E : Mm_} {lg : Lg_} {w : Wd_} {M : Mm_} (h : Mr E lg (w.length : Int) M) (x : Cl_) : Mr E lg ((w ++ [x]).length : Int) (zeroM M w.length) := by
  have e : ((w ++ [x]).length : Int) = (w.length : Int) + 1 := by rw [List.length_append]; rfl
  rw [e]
  refine ⟨fun a j ha => ?_, fun a j ha => h.2 a j (by omega)⟩
  show (if a = (w.length : Int) then 0 else M a j) = lookE E lg a j
  by_cases e : a = (w.length : Int)
  · rw [if_pos e, h.2 a j (by omega)]
  · rw [if_neg e, h.1 a j (by omega)]
theorem Mr.m {E : Mm_} {lg : Lg_} {w : Wd_} {M : Mm_} (h : Mr E lg (w.length : Int) M) (x y : Cl_) (n : Nat) : Mr E lg ((w ++ x :: List.replicate n y).length : Int) (fun x j => if (w.length : Int) ≤ x then 0 else M x j) := by
  have e : ((w ++ x :: List.replicate n y).length : Int) = (w.length : Int) + 1 + n := by rw [List.length_append, List.length_cons, List.length_replicate]; omega
  rw [e]
  refine ⟨fun a j ha => ?_, fun a j ha => h.2 a j (by omega)⟩
  show (if (w.length : Int) ≤ a then 0 else M a j) = lookE E lg a j
  by_cases e : (w.length : Int) ≤ a
  · rw [if_pos e, h.2 a j e]
  · rw [if_neg e, h.1 a j (by omega)]
theorem Mr.s {E : Mm_} {lg : Lg_} {w : Wd_} {M : Mm_} (h : Mr E lg (w.length : Int) M) (r : Int) (k : Nat) (q : Int) : Mr E lg ((setR w r k q).length : Int) M := by
  rw [setR_len]
  exact h
def og (t : Nat) (st : List Vl_) : Option (Int × List Vl_) := match st with
  | v :: r => match Nat.beq v.1 t with
    | true => some (v.2, r)
    | false => none
  | [] => none
theorem og_ok {t : Nat} {st : List Vl_} {q : Int × List Vl_} {k : Int → List Vl_ → Prop} (h : og t st = some q) (hk : k q.1 q.2) : g1 t st k := by
  cases st with
  | nil => cases h
  | cons v r =>
    unfold og at h
    unfold g1
    dsimp only at h ⊢
    revert h
    cases Nat.beq v.1 t with
    | true =>
      intro h
      cases h
      exact hk
    | false =>
      intro h
      cases h
def ol (t : Nat) (ls : Lc_) (i : Nat) : Option Int := match ls[i]? with
  | some (some v) => match Nat.beq v.1 t with
    | true => some v.2
    | false => none
  | _ => none
theorem ol_ok {t : Nat} {ls : Lc_} {i : Nat} {x : Int} {k : Int → Prop} (h : ol t ls i = some x) (hk : k x) : gl t ls i k := by
  unfold ol at h
  unfold gl
  revert h
  cases ls[i]? with
  | none => intro h; cases h
  | some o =>
    cases o with
    | none => intro h; cases h
    | some v =>
      dsimp only
      cases Nat.beq v.1 t with
      | true =>
        intro h
        cases h
        exact hk
      | false =>
        intro h
        cases h
def gd {α : Type} (b : Bool) (o : Option α) : Option α := match b with
  | true => o
  | false => none
theorem gd_ok {α : Type} {b : Bool} {o : Option α} {r : α} (h : gd b o = some r) : b = true ∧ o = some r := by
  cases b with
  | true => exact ⟨rfl, h⟩
  | false => cases h
theorem bd_ok {α β : Type} {o : Option α} {f : α → Option β} {b : β} (h : o.bind f = some b) : ∃ a, o = some a ∧ f a = some b := by
  cases o with
  | none => cases h
  | some a => exact ⟨a, rfl, h⟩
def tg2 (tg : List Nat) : Option (Nat × Nat) := match tg with
  | [x, y] => some (x, y)
  | _ => none
theorem tg2_ok {tg : List Nat} {p : Nat × Nat} (h : tg2 tg = some p) : tg = [p.1, p.2] := by
  match tg, h with
  | [x, y], h => cases h; rfl
  | [], h => cases h
  | [_], h => cases h
  | _ :: _ :: _ :: _, h => cases h
def tg5 (tg : List Nat) : Option (Nat × Nat × Nat × Nat × Nat) := match tg with
  | [x, y, z, u, v] => some (x, y, z, u, v)
  | _ => none
theorem tg5_ok {tg : List Nat} {p : Nat × Nat × Nat × Nat × Nat} (h : tg5 tg = some p) : tg = [p.1, p.2.1, p.2.2.1, p.2.2.2.1, p.2.2.2.2] := by
  match tg, h with
  | [x, y, z, u, v], h => cases h; rfl
  | [], h => cases h
  | [_], h => cases h
  | [_, _], h => cases h
  | [_, _, _], h => cases h
  | [_, _, _, _], h => cases h
  | _ :: _ :: _ :: _ :: _ :: _ :: _, h => cases h
def arW (w : Wd_) (r : Int) : Option (Nat × Int) :=
  if r < 0 then none else match w[r.toNat]? with
    | some (0, _, _) => none
    | some (t, n, _) => some (t, (n : Int))
    | none => none
theorem arW_ok {w : Wd_} {r : Int} {p : Nat × Int} (M : Mm_) (h : arW w r = some p) : arK w M r = some p ∧ 0 ≤ r ∧ r < (w.length : Int) := by
  unfold arW at h
  by_cases e : r < 0
  · rw [if_pos e] at h
    cases h
  · refine ⟨?_, by omega, ?_⟩
    · unfold arK
      rw [if_neg e] at h ⊢
      exact h
    · rw [if_neg e] at h
      by_cases g : r.toNat < w.length
      · omega
      · rw [List.getElem?_eq_none (by omega)] at h
        cases h
theorem obK_lt {w : Wd_} {r : Int} {c : Nat} (h : obK w r = some c) : r < (w.length : Int) := by
  unfold obK at h
  by_cases e : r < 0
  · omega
  · rw [if_neg e] at h
    by_cases g : r.toNat < w.length
    · omega
    · rw [List.getElem?_eq_none (by omega)] at h
      cases h
def cndB (c : Jvm.ClassFile.Cond) (x y : Int) : Bool := match c with
  | .eq => decide (x = y)
  | .ne => decide (¬ x = y)
  | .lt => decide (x < y)
  | .ge => decide (y ≤ x)
  | .gt => decide (y < x)
  | .le => decide (x ≤ y)
theorem cndB_iff {c : Jvm.ClassFile.Cond} {x y : Int} : cndB c x y = true ↔ cnd c x y := by
  cases c <;> exact decide_eq_true_iff
abbrev Ev_ : Type := Nat → Nat → Lc_ → List Vl_ → Wd_ → Lg_ → Cn_ → Option (Wd_ × Lg_)
/-- one instruction of a constructor -/
def e1 (ih : Ev_) (id : Nat) (e : In_) (pc : Nat) (ls : Lc_) (st : List Vl_) (w : Wd_) (lg : Lg_) (cn : Cn_) : Option (Wd_ × Lg_) :=
  match e with
  | (ins, _, a, b, z, tg) =>
  match ins with
  | .iconst _ => ih id (pc + 1) ls ((0, z) :: st) w lg cn
  | .bipush _ => ih id (pc + 1) ls ((0, z) :: st) w lg cn
  | .sipush _ => ih id (pc + 1) ls ((0, z) :: st) w lg cn
  | .iload_n _ => (ol 0 ls a).bind fun x => ih id (pc + 1) ls ((0, x) :: st) w lg cn
  | .aload_n _ => (ol 2 ls a).bind fun x => ih id (pc + 1) ls ((2, x) :: st) w lg cn
  | .istore_n _ => (og 0 st).bind fun x => ih id (pc + 1) (setL ls a (0, x.1)) x.2 w lg cn
  | .iinc _ _ => (ol 0 ls a).bind fun x => gd (decide (-1000 ≤ x + z ∧ x + z ≤ 1000)) (ih id (pc + 1) (setL ls a (0, x + z)) st w lg cn)
  | .if_icmp c _ => (og 0 st).bind fun y => (og 0 y.2).bind fun x => match cndB c x.1 y.1 with
    | true => ih id a ls x.2 w lg cn
    | false => ih id (pc + 1) ls x.2 w lg cn
  | .goto _ => ih id a ls st w lg cn
  | .dup => match st with
    | v :: r => match Nat.beq v.1 1 with
      | true => none
      | false => ih id (pc + 1) ls (v :: v :: r) w lg cn
    | [] => none
  | .iastore => (og 0 st).bind fun x => (og 0 x.2).bind fun i => (og 2 i.2).bind fun q => (arW w q.1).bind fun p => gd (decide (p.1 = 1) && decide (0 ≤ i.1 ∧ i.1 < p.2)) (ih id (pc + 1) ls q.2 w ((q.1, i.1, x.1) :: lg) cn)
  | .aastore => (og 2 st).bind fun x => (og 0 x.2).bind fun i => (og 2 i.2).bind fun q => (arW w q.1).bind fun p => gd (decide (p.1 = 4) && (decide (0 ≤ i.1 ∧ i.1 < p.2) && (decide (0 ≤ x.1) && decide (obK w x.1 = some a)))) (ih id (pc + 1) ls q.2 (setR w q.1 i.1.toNat x.1) lg cn)
  | .getfield _ => gd (decide (tg = [2])) ((og 2 st).bind fun q => gd (decide (obK w q.1 = some a)) ((rfK w q.1 b).bind fun v => ih id (pc + 1) ls ((2, v) :: q.2) w lg cn))
  | .putfield _ => match decide (tg = [2]) with
    | true => (og 2 st).bind fun x => (og 2 x.2).bind fun q => gd (decide (obK w q.1 = some a) && decide (0 ≤ q.1)) (ih id (pc + 1) ls q.2 (setR w q.1 b x.1) lg cn)
    | false => gd (decide (tg = [0])) ((og 0 st).bind fun x => (og 2 x.2).bind fun q => gd (decide (obK w q.1 = some a) && decide (0 ≤ q.1)) (ih id (pc + 1) ls q.2 w ((q.1, (b : Int), x.1) :: lg) cn))
  | .new _ => (tg2 tg).bind fun t => gd (Nat.ble (cn.1 + 1) t.1 && Nat.ble (cn.2 + b) t.2) (ih id (pc + 1) ls ((2, (w.length : Int)) :: st) (w ++ [(0, a, List.replicate b (-1))]) lg (cn.1 + 1, cn.2 + b))
  | .newarray _ => (tg2 tg).bind fun t => (og 0 st).bind fun n => gd (decide (0 ≤ n.1 ∧ n.1 ≤ 4000) && (Nat.ble (cn.1 + 1) t.1 && Nat.ble (cn.2 + n.1.toNat) t.2)) (ih id (pc + 1) ls ((2, (w.length : Int)) :: n.2) (w ++ [(a, n.1.toNat, [])]) lg (cn.1 + 1, cn.2 + n.1.toNat))
  | .anewarray _ => (tg2 tg).bind fun t => (og 0 st).bind fun n => gd (decide (0 ≤ n.1 ∧ n.1 ≤ 4000) && (Nat.ble (cn.1 + 1) t.1 && Nat.ble (cn.2 + n.1.toNat) t.2)) (ih id (pc + 1) ls ((2, (w.length : Int)) :: n.2) (w ++ [(4, n.1.toNat, List.replicate n.1.toNat (-1))]) lg (cn.1 + 1, cn.2 + n.1.toNat))
  | .multianewarray _ _ => (tg2 tg).bind fun t => (og 0 st).bind fun m => (og 0 m.2).bind fun n => gd (decide (0 ≤ n.1 ∧ n.1 ≤ 4000 ∧ 0 ≤ m.1 ∧ m.1 ≤ 4000) && (Nat.ble (cn.1 + (1 + n.1.toNat)) t.1 && Nat.ble (cn.2 + (n.1.toNat + n.1.toNat * m.1.toNat)) t.2)) (ih id (pc + 1) ls ((2, (w.length : Int)) :: n.2) (w ++ (a, n.1.toNat, (List.range n.1.toNat).map (fun i : Nat => (w.length : Int) + 1 + (i : Int))) :: List.replicate n.1.toNat (b, m.1.toNat, [])) lg (cn.1 + 1 + n.1.toNat, cn.2 + n.1.toNat + n.1.toNat * m.1.toNat))
  | .return_ => match st with
    | [] => some (w, lg)
    | _ :: _ => none
  | .invokespecial _ => match tg with
    | [] => match st with
      | [v] => gd (Nat.beq v.1 2 && decide (0 ≤ v.2)) (ih id (pc + 1) ls [] w lg cn)
      | _ => none
    | t :: ts => (tg5 (t :: ts)).bind fun u => gd ((Nat.ble (cn.1 + u.2.1) u.2.2.2.1 && Nat.ble (cn.2 + u.2.2.1) u.2.2.2.2) && (Nat.ble u.1 st.length && (Nat.ble (catS (st.drop u.1)) 8 && Nat.ble (catS (st.take u.1)) (mxL a)))) ((og 2 (st.take u.1).reverse).bind fun q => gd (decide (0 ≤ q.1)) ((ih a 0 (entL ((2, q.1) :: q.2) (mxL a)) [] w lg (0, 0)).bind fun r => ih id (pc + 1) ls (st.drop u.1) r.1 r.2 (cn.1 + u.2.1, cn.2 + u.2.2.1)))
  | _ => none
noncomputable def ev (n : Nat) : Ev_ := Nat.rec (motive := fun _ => Ev_) (fun _ _ _ _ _ _ _ => none) (fun _ ih id pc ls st w lg cn => match (codeOf id)[pc]? with
  | some e => e1 ih id e pc ls st w lg cn
  | none => none) n
def EvOK (P : Jg_) (E : Mm_) (f : Ev_) : Prop := ∀ id pc ls st w lg cn r M (Q : Qp_), f id pc ls st w lg cn = some r → Mr E lg (w.length : Int) M → (∀ M', Mr E r.2 (r.1.length : Int) M' → Q none r.1 M') → P id pc ls st w M cn Q
theorem og_eq {t : Nat} {st : List Vl_} {q : Int × List Vl_} (h : og t st = some q) : st = (t, q.1) :: q.2 := by
  cases st with
  | nil => cases h
  | cons v r =>
    unfold og at h
    dsimp only at h
    cases e : Nat.beq v.1 t with
    | true =>
      rw [e] at h
      cases h
      obtain ⟨v1, v2⟩ := v
      have := Nat.eq_of_beq_eq_true e
      dsimp only at this
      subst this
      rfl
    | false =>
      rw [e] at h
      cases h
theorem ble2 {a b c d : Nat} (h : (Nat.ble a b && Nat.ble c d) = true) : a ≤ b ∧ c ≤ d := by
  rw [Bool.and_eq_true] at h
  exact ⟨Nat.le_of_ble_eq_true h.1, Nat.le_of_ble_eq_true h.2⟩
theorem e1_ok {P : Jg_} (hP : Clo P) {E : Mm_} {ih : Ev_} (hih : EvOK P E ih) (id : Nat) (e : In_) (pc : Nat) (ls : Lc_) (st : List Vl_) (w : Wd_) (lg : Lg_) (cn : Cn_) (r : Wd_ × Lg_) (M : Mm_) (Q : Qp_) (h : e1 ih id e pc ls st w lg cn = some r) (hm : Mr E lg (w.length : Int) M) (hq : ∀ M', Mr E r.2 (r.1.length : Int) M' → Q none r.1 M') : st1 (cPof P) (fun pc ls st w M cn => P id pc ls st w M cn Q) Q e pc ls st w M cn := by
  obtain ⟨ins, bp, a, b, z, tg⟩ := e
  cases ins
  case iconst => exact hih _ _ _ _ _ _ _ _ _ _ h hm hq
  case bipush => exact hih _ _ _ _ _ _ _ _ _ _ h hm hq
  case sipush => exact hih _ _ _ _ _ _ _ _ _ _ h hm hq
  case goto => exact hih _ _ _ _ _ _ _ _ _ _ h hm hq
  case iload_n =>
    obtain ⟨x, h1, h2⟩ := bd_ok (o := ol 0 ls a) h
    simp only [st1]
    exact ol_ok h1 (hih _ _ _ _ _ _ _ _ _ _ h2 hm hq)
  case aload_n =>
    obtain ⟨x, h1, h2⟩ := bd_ok (o := ol 2 ls a) h
    simp only [st1]
    exact ol_ok h1 (hih _ _ _ _ _ _ _ _ _ _ h2 hm hq)
  case istore_n =>
    obtain ⟨x, h1, h2⟩ := bd_ok (o := og 0 st) h
    simp only [st1]
    exact og_ok h1 (hih _ _ _ _ _ _ _ _ _ _ h2 hm hq)
  case iinc =>
    obtain ⟨x, h1, h2⟩ := bd_ok (o := ol 0 ls a) h
    obtain ⟨h3, h4⟩ := gd_ok h2
    have h3 := of_decide_eq_true h3
    simp only [st1]
    exact ol_ok h1 ⟨by unfold inI; omega, hih _ _ _ _ _ _ _ _ _ _ h4 hm hq⟩
  case if_icmp c o =>
    obtain ⟨y, h1, h2⟩ := bd_ok (o := og 0 st) h
    obtain ⟨x, h3, h4⟩ := bd_ok (o := og 0 y.2) h2
    simp only [st1]
    refine og_ok h1 (og_ok h3 ?_)
    cases e : cndB c x.1 y.1 with
    | true =>
      rw [e] at h4
      exact ⟨fun _ => hih _ _ _ _ _ _ _ _ _ _ h4 hm hq, fun g => absurd (cndB_iff.mp e) g⟩
    | false =>
      rw [e] at h4
      exact ⟨fun g => absurd (cndB_iff.mpr g) (by rw [e]; exact Bool.false_ne_true), fun _ => hih _ _ _ _ _ _ _ _ _ _ h4 hm hq⟩
  case dup =>
    cases st with
    | nil => cases h
    | cons v r0 =>
      change (match Nat.beq v.1 1 with
        | true => none
        | false => ih id (pc + 1) ls (v :: v :: r0) w lg cn) = some r at h
      show (match Nat.beq v.1 1 with
        | true => False
        | false => P id (pc + 1) ls (v :: v :: r0) w M cn Q)
      cases e : Nat.beq v.1 1 with
      | true =>
        rw [e] at h
        cases h
      | false =>
        rw [e] at h
        exact hih _ _ _ _ _ _ _ _ _ _ h hm hq
  case iastore =>
    obtain ⟨x, h1, h2⟩ := bd_ok (o := og 0 st) h
    obtain ⟨i, h3, h4⟩ := bd_ok (o := og 0 x.2) h2
    obtain ⟨q, h5, h6⟩ := bd_ok (o := og 2 i.2) h4
    obtain ⟨p, h7, h8⟩ := bd_ok (o := arW w q.1) h6
    obtain ⟨h9, h10⟩ := gd_ok h8
    rw [Bool.and_eq_true] at h9
    have g1 := of_decide_eq_true h9.1
    have g2 := of_decide_eq_true h9.2
    obtain ⟨a1, a2, a3⟩ := arW_ok M h7
    simp only [st1]
    refine og_ok h1 (og_ok h3 (og_ok h5 ⟨p.2, ?_, a2, g2, ?_⟩))
    · rw [a1, ← g1]
    · exact hih _ _ _ _ _ _ _ _ _ _ h10 (hm.w a3) hq
  case aastore =>
    obtain ⟨x, h1, h2⟩ := bd_ok (o := og 2 st) h
    obtain ⟨i, h3, h4⟩ := bd_ok (o := og 0 x.2) h2
    obtain ⟨q, h5, h6⟩ := bd_ok (o := og 2 i.2) h4
    obtain ⟨p, h7, h8⟩ := bd_ok (o := arW w q.1) h6
    obtain ⟨h9, h10⟩ := gd_ok h8
    rw [Bool.and_eq_true, Bool.and_eq_true, Bool.and_eq_true] at h9
    have g1 := of_decide_eq_true h9.1
    have g2 := of_decide_eq_true h9.2.1
    have g3 := of_decide_eq_true h9.2.2.1
    have g4 := of_decide_eq_true h9.2.2.2
    obtain ⟨a1, a2, a3⟩ := arW_ok M h7
    simp only [st1]
    refine og_ok h1 (og_ok h3 (og_ok h5 ⟨p.2, ?_, a2, g3, g4, g2, ?_⟩))
    · rw [a1, ← g1]
    · exact hih _ _ _ _ _ _ _ _ _ _ h10 (hm.s _ _ _) hq
  case getfield =>
    obtain ⟨h1, h2⟩ := gd_ok (b := decide (tg = [2])) h
    have h1 := of_decide_eq_true h1
    subst h1
    obtain ⟨q, h3, h4⟩ := bd_ok (o := og 2 st) h2
    obtain ⟨h5, h6⟩ := gd_ok h4
    have h5 := of_decide_eq_true h5
    obtain ⟨v, h7, h8⟩ := bd_ok (o := rfK w q.1 b) h6
    simp only [st1]
    exact og_ok h3 ⟨h5, v, h7, hih _ _ _ _ _ _ _ _ _ _ h8 hm hq⟩
  case putfield =>
    by_cases e : tg = [2]
    · subst e
      obtain ⟨x, h1, h2⟩ := bd_ok (o := og 2 st) h
      obtain ⟨q, h3, h4⟩ := bd_ok (o := og 2 x.2) h2
      obtain ⟨h5, h6⟩ := gd_ok h4
      rw [Bool.and_eq_true] at h5
      simp only [st1]
      exact og_ok h1 (og_ok h3 ⟨of_decide_eq_true h5.1, of_decide_eq_true h5.2, hih _ _ _ _ _ _ _ _ _ _ h6 (hm.s _ _ _) hq⟩)
    · change (match decide (tg = [2]) with
        | true => (og 2 st).bind fun x => (og 2 x.2).bind fun q => gd (decide (obK w q.1 = some a) && decide (0 ≤ q.1)) (ih id (pc + 1) ls q.2 (setR w q.1 b x.1) lg cn)
        | false => gd (decide (tg = [0])) ((og 0 st).bind fun x => (og 2 x.2).bind fun q => gd (decide (obK w q.1 = some a) && decide (0 ≤ q.1)) (ih id (pc + 1) ls q.2 w ((q.1, (b : Int), x.1) :: lg) cn))) = some r at h
      rw [decide_eq_false e] at h
      obtain ⟨h1, h2⟩ := gd_ok (b := decide (tg = [0])) h
      have h1 := of_decide_eq_true h1
      subst h1
      obtain ⟨x, h1, h2⟩ := bd_ok (o := og 0 st) h2
      obtain ⟨q, h3, h4⟩ := bd_ok (o := og 2 x.2) h2
      obtain ⟨h5, h6⟩ := gd_ok h4
      rw [Bool.and_eq_true] at h5
      have h7 := of_decide_eq_true h5.1
      simp only [st1]
      exact og_ok h1 (og_ok h3 ⟨h7, of_decide_eq_true h5.2, hih _ _ _ _ _ _ _ _ _ _ h6 (hm.w (obK_lt h7)) hq⟩)
  case new =>
    obtain ⟨t, h1, h2⟩ := bd_ok (o := tg2 tg) h
    have h1 := tg2_ok h1
    subst h1
    obtain ⟨h3, h4⟩ := gd_ok h2
    exact bud_iff.mpr ⟨ble2 h3, hih _ _ _ _ _ _ _ _ _ _ h4 (hm.z _) hq⟩
  case newarray =>
    obtain ⟨t, h1, h2⟩ := bd_ok (o := tg2 tg) h
    have h1 := tg2_ok h1
    subst h1
    obtain ⟨n, h3, h4⟩ := bd_ok (o := og 0 st) h2
    obtain ⟨h5, h6⟩ := gd_ok h4
    rw [Bool.and_eq_true] at h5
    simp only [st1]
    exact og_ok h3 ⟨of_decide_eq_true h5.1, bud_iff.mpr ⟨ble2 h5.2, hih _ _ _ _ _ _ _ _ _ _ h6 (hm.z _) hq⟩⟩
  case anewarray =>
    obtain ⟨t, h1, h2⟩ := bd_ok (o := tg2 tg) h
    have h1 := tg2_ok h1
    subst h1
    obtain ⟨n, h3, h4⟩ := bd_ok (o := og 0 st) h2
    obtain ⟨h5, h6⟩ := gd_ok h4
    rw [Bool.and_eq_true] at h5
    simp only [st1]
    exact og_ok h3 ⟨of_decide_eq_true h5.1, bud_iff.mpr ⟨ble2 h5.2, hih _ _ _ _ _ _ _ _ _ _ h6 (hm.z _) hq⟩⟩
  case multianewarray =>
    obtain ⟨t, h1, h2⟩ := bd_ok (o := tg2 tg) h
    have h1 := tg2_ok h1
    subst h1
    obtain ⟨m, h3, h4⟩ := bd_ok (o := og 0 st) h2
    obtain ⟨n, h5, h6⟩ := bd_ok (o := og 0 m.2) h4
    obtain ⟨h7, h8⟩ := gd_ok h6
    rw [Bool.and_eq_true] at h7
    simp only [st1]
    exact og_ok h3 (og_ok h5 ⟨of_decide_eq_true h7.1, bud_iff.mpr ⟨ble2 h7.2, hih _ _ _ _ _ _ _ _ _ _ h8 (hm.m _ _ _) hq⟩⟩)
  case return_ =>
    cases st with
    | nil =>
      have h0 : some (w, lg) = some r := h
      cases h0
      exact hq M hm
    | cons v r0 => cases h
  case invokespecial =>
    cases tg with
    | nil =>
      match st, h with
      | [v], h =>
        obtain ⟨h1, h2⟩ := gd_ok (b := Nat.beq v.1 2 && decide (0 ≤ v.2)) h
        rw [Bool.and_eq_true] at h1
        show (match Nat.beq v.1 2 with
          | true => 0 ≤ v.2 ∧ P id (pc + 1) ls [] w M cn Q
          | false => False)
        rw [h1.1]
        exact ⟨of_decide_eq_true h1.2, hih _ _ _ _ _ _ _ _ _ _ h2 hm hq⟩
      | [], h => cases h
      | _ :: _ :: _, h => cases h
    | cons t ts =>
      obtain ⟨u, h1, h2⟩ := bd_ok (o := tg5 (t :: ts)) h
      have h1 := tg5_ok h1
      rw [h1]
      obtain ⟨h3, h4⟩ := gd_ok h2
      rw [Bool.and_eq_true, Bool.and_eq_true (Nat.ble u.1 st.length), Bool.and_eq_true (Nat.ble (catS (st.drop u.1)) 8)] at h3
      obtain ⟨q, h5, h6⟩ := bd_ok (o := og 2 (st.take u.1).reverse) h4
      obtain ⟨h7, h8⟩ := gd_ok h6
      obtain ⟨r1, h9, h10⟩ := bd_ok h8
      refine bud_iff.mpr ⟨ble2 h3.1, callG_iff.mpr ⟨⟨Nat.le_of_ble_eq_true h3.2.1, Nat.le_of_ble_eq_true h3.2.2.1, Nat.le_of_ble_eq_true h3.2.2.2⟩, fun _ => ⟨q.1, q.2, og_eq h5, of_decide_eq_true h7, ?_⟩, fun g => by cases g⟩⟩
      exact hih _ _ _ _ _ _ _ _ _ _ h9 hm fun M1 hm1 => hih _ _ _ _ _ _ _ _ _ _ h10 hm1 hq
  all_goals
    have h0 : (none : Option (Wd_ × Lg_)) = some r := h
    cases h0
theorem ev_ok {P : Jg_} (hP : Clo P) (E : Mm_) : ∀ n, EvOK P E (ev n)
  | 0 => fun id pc ls st w lg cn r M Q h => by
    have h0 : (none : Option (Wd_ × Lg_)) = some r := h
    cases h0
  | n + 1 => fun id pc ls st w lg cn r M Q h hm hq => by
    have h0 : (match (codeOf id)[pc]? with
      | some e => e1 (ev n) id e pc ls st w lg cn
      | none => none) = some r := h
    cases he : (codeOf id)[pc]? with
    | none =>
      rw [he] at h0
      cases h0
    | some e =>
      rw [he] at h0
      exact hP.2.2 id pc ls st w M cn Q e he (e1_ok hP (ev_ok hP E n) id e pc ls st w lg cn r M Q h0 hm hq)
