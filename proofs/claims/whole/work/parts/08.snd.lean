/-! THE PURE MACHINE IS SOUND: what it asks of an instruction suffices for the machine itself -/
def AOA (ty : FieldType) (U : State) : Prop := (Jvm.Cond.arrayOver (.array ty)).before #[] U = true
/-- the surroundings: nest links, strings, statics: nothing of it is ever written -/
def EN (ro : Int → Option Nat) (RM : Mm_) (A : Nat → Prop) (U : State) : Prop :=
  (∀ w ∈ NW, va_Nw w U) ∧ va_AO "BorrowedWords$Text" U ∧ AOA .int U ∧ AOA .long U ∧
  (∀ z : Int, -19 ≤ z → z ≤ -10 → ∃ ak av : Nat, ro z = some ak ∧ ro (z - 20) = some av ∧ va_O "java/lang/String" ak A U U.heap ∧ va_OF "java/lang/String" "coder" "B" (.int (Int32.ofInt (RM z 1))) ak A U U.heap ∧ va_OF "java/lang/String" "value" "[B" (.ref av) ak A U U.heap ∧ va_T .byte av (RM (z - 20) (-1)).toNat (fun j => .int (Int32.ofInt (RM (z - 20) j))) A U U.heap) ∧
  (∀ q ∈ srL, ∃ ak : Nat, ro (-(q.1 : Int) - 10) = some ak ∧ vk_R "BorrowedWords$RuleReader" q.2.1 q.2.2 ak U) ∧
  va_Z "java/lang/String" "COMPACT_STRINGS" "Z" (.int 1) A U U.heap ∧
  va_Z "jdk/internal/util/Preconditions" "SIOOBE_FORMATTER" "Ljava/util/function/BiFunction;" (va_rf (ro (-6))) A U U.heap ∧
  (∀ z : Int, -5 ≤ z → z ≤ -3 → ∃ t : Nat, ro z = some t ∧ va_Z "BorrowedWords" (stN_ z) "[I" (.ref t) A U U.heap) ∧
  (∀ z : Int, -5 ≤ z → z ≤ -2 → ∃ t : Nat, ro z = some t ∧ va_T .int t (RM z (-1)).toNat (fun j => .int (Int32.ofInt (RM z j))) A U U.heap)
theorem AOA_spec {U : State} {ty : FieldType} (h : AOA ty U) : ∃ comp c k, U.vm.findClass (FieldType.array ty).toString = some comp ∧ (U.vm.classes.findIdx? fun (x : Class) => match x.kind with | .array component _ => component == comp | _ => false) = some c ∧ U.vm.classes[c]? = some k ∧ k.kind = .array comp (.array ty) ∧ U.vm.findClass ("[" ++ (FieldType.array ty).toString) = some c := by
  unfold AOA Jvm.Cond.before at h
  simp only [Cond.holds, Cond.value, beq_iff_eq] at h
  cases hc : U.vm.findClass (FieldType.array ty).toString with
  | none => simp [hc] at h
  | some comp =>
    simp only [hc, Option.bind_some, Option.bind_eq_some_iff, Option.map_eq_some_iff] at h
    obtain ⟨c, hi, k, hk, hb⟩ := h
    obtain ⟨hlt, hp, -⟩ := Array.findIdx?_eq_some_iff_getElem.mp hi
    have hkk : U.vm.classes[c] = k := (Array.getElem?_eq_some_iff.mp hk).2
    rw [hkk] at hp
    cases hkind : k.kind with
    | array component ty2 =>
      simp only [hkind, Bool.and_eq_true, decide_eq_true_eq, beq_iff_eq] at hb hp
      subst hp
      exact ⟨component, c, k, rfl, hi, hk, by rw [hkind, hb.1], hb.2⟩
    | _ => simp [hkind] at hb
theorem idx_bare (vm : Vm) (comp : ClassId) : (vm.bare.classes.findIdx? fun (x : Class) => match x.kind with | .array component _ => component == comp | _ => false) = (vm.classes.findIdx? fun (x : Class) => match x.kind with | .array component _ => component == comp | _ => false) := by
  simp only [Vm.bare, Array.findIdx?_map]
  rfl
theorem AOA.moved {ty : FieldType} {u U : State} (hvm : u.vm.Alike U.vm) (h : AOA ty u) : AOA ty U := by
  obtain ⟨comp, c, k, h1, h2, h3, h4, h5⟩ := AOA_spec h
  obtain ⟨k', hk', he⟩ := hvm.2.2 _ _ h3
  have hi : (U.vm.classes.findIdx? fun (x : Class) => match x.kind with | .array component _ => component == comp | _ => false) = some c := by
    rw [← idx_bare]
    first | rw [hvm.bare_eq] | rw [← hvm.bare_eq]
    rw [idx_bare]
    exact h2
  have hkind : k'.kind = .array comp (.array ty) := by rw [he]; exact h4
  have f1 : U.vm.findClass (FieldType.array ty).toString = some comp := by rw [hvm.findClass]; exact h1
  have f2 : U.vm.findClass ("[" ++ (FieldType.array ty).toString) = some c := by rw [hvm.findClass]; exact h5
  unfold AOA Jvm.Cond.before Cond.holds
  simp only [Cond.value]
  rw [f1, Option.bind_some]
  refine (congrArg (fun o : Option Nat => (o.bind (fun c => (U.vm.classes[c]?).map fun (k : Class) => match k.kind with | .array _ ty2 => decide (ty2 = FieldType.array ty) && decide (U.vm.findClass ("[" ++ (FieldType.array ty).toString) = some c) | _ => false) == some true)) hi).trans ?_
  simp [hk', hkind, f2]
def isNst : Jvm.Cond → Bool
  | .fieldLinkNest _ _ _ _ _ _ => true
  | .methodLinkNest _ _ _ _ => true
  | _ => false
theorem NW_nst : NW.all isNst = true := rfl
theorem Nw_warm {w : Jvm.Cond} (hn : isNst w = true) {s U : State} (hW : s.WarmedH U.vm) (h : va_Nw w s) : va_Nw w U := by
  cases w <;> first | exact va_Nw.warmF hW h | exact va_Nw.warmM hW h | cases hn
theorem EN.move {ro : Int → Option Nat} {RM : Mm_} {A B : Nat → Prop} {s U : State} (h : EN ro RM A s) (hW : s.WarmedH U.vm) (hq : ∀ a : Nat, a < s.heap.size → ¬ A a → U.heap[a]? = s.heap[a]?) (hAB : ∀ q, B q → A q) : EN ro RM B U := by
  obtain ⟨h1, h2, h3, h4, h5, h6, h7, h8, h9, h10⟩ := h
  have ha := hW.alike
  refine ⟨fun w hw => Nw_warm (List.all_eq_true.mp NW_nst w hw) hW (h1 w hw), va_AO.moved ha h2, AOA.moved ha h3, AOA.moved ha h4, ?_, ?_, ((h7.kept hq).moved ha).narrow hAB, ((h8.kept hq).moved ha).narrow hAB, ?_, ?_⟩
  · intro z z1 z2
    obtain ⟨ak, av, e1, e2, f1, f2, f3, f4⟩ := h5 z z1 z2
    exact ⟨ak, av, e1, e2, ((f1.kept hq).moved ha).narrow hAB, ((f2.kept hq).moved ha).narrow hAB, ((f3.kept hq).moved ha).narrow hAB, ((f4.kept hq).moved ha).narrow hAB⟩
  · intro q hq
    obtain ⟨ak, e1, e2⟩ := h6 q hq
    exact ⟨ak, e1, e2.warm hW⟩
  · intro z z1 z2
    obtain ⟨t, e1, e2⟩ := h9 z z1 z2
    exact ⟨t, e1, ((e2.kept hq).moved ha).narrow hAB⟩
  · intro z z1 z2
    obtain ⟨t, e1, e2⟩ := h10 z z1 z2
    exact ⟨t, e1, ((e2.kept hq).moved ha).narrow hAB⟩
theorem EN.same {ro : Int → Option Nat} {RM : Mm_} {A : Nat → Prop} {s U : State} (h : EN ro RM A s) (hv : s.vm = U.vm) (hh : s.heap = U.heap) : EN ro RM A U :=
  h.move (by rw [← hv]; exact State.WarmedH.refl s) (fun a _ _ => by rw [hh]) (fun _ h => h)
section SND
variable {l : Launch} {D : va_G} {kA : Nat → ClassId} {ro : Int → Option Nat} {RM : Mm_}
def Cx (D : va_G) (kA : Nat → ClassId) (ro : Int → Option Nat) (RM : Mm_) (id : Nat) (A : Nat → Prop) (p : Program) (s : State) (m : MethodId) (args : Array Value) (meth : Method) (c : Code) : Prop :=
  p.tables.exec = Jvm.exec ∧ c.code = byOf id ∧ meth.sig.returnType = retOf id ∧ meth.locks = false ∧ c.maxLocals = mxL id ∧ s.vm.findClass (owN (ownOf id)) = some m.cls ∧ ((yOf id).name = "<init>" → meth.name = "<init>") ∧ (∀ w ∈ GW, w.before args s = true) ∧ EN ro RM A s ∧ va_K D cls_ (TY kA) s ∧ (∀ q : Nat, s.heap.size ≤ q → A q)
def Rl (D : va_G) (kA : Nat → ClassId) (ro : Int → Option Nat) (RM : Mm_) (A : Nat → Prop) (ad : Nat → Nat) (H0 : Heap) (w : Wd_) (M : Mm_) (H : Heap) (locs : List Loc) : Prop :=
  va_P D cls_ (cW kA ro ad w M) H ∧ va_D A (cW kA ro ad w M) ∧ va_S A H0 H locs ∧ WI RM w M
def QcP (D : va_G) (kA : Nat → ClassId) (ro : Int → Option Nat) (RM : Mm_) (A : Nat → Prop) (n0 : Nat) (ad0 : Nat → Nat) (Q : Qp_) : Array Value → State → Outcome → State → Prop := fun _ st o t =>
  (∃ (v : Option Vl_) (w : Wd_) (M : Mm_) (ad : Nat → Nat), o = .returned (v.map (cV ro ad)) ∧ Q v w M ∧ (∀ x, v = some x → okV w x) ∧ n0 ≤ w.length ∧ (∀ i, i < n0 → ad i = ad0 i) ∧ va_P D cls_ (cW kA ro ad w M) t.heap ∧ va_D A (cW kA ro ad w M) ∧ va_K D cls_ (TY kA) t ∧ WI RM w M) ∧ va_F A st t
def Wat (l : Launch) (D : va_G) (kA : Nat → ClassId) (ro : Int → Option Nat) (RM : Mm_) (id : Nat) (A : Nat → Prop) (p : Program) (e : Env) (s : State) (m : MethodId) (args : Array Value) (below : List Frame) (meth : Method) (c : Code) (n0 : Nat) (ad0 : Nat → Nat) (Z : State → Prop) (pc : Nat) (ls : Lc_) (st : List Vl_) (w : Wd_) (M : Mm_) (cn : Cn_) : Prop :=
  ∀ (ad : Nat → Nat) (H : Heap) (locs : List Loc) (lsA : Array Slot) (e0 : In_), n0 ≤ w.length → (∀ i, i < n0 → ad i = ad0 i) → Rl D kA ro RM A ad s.heap w M H locs → LH ro ad lsA (mxL id) ls → okL w ls → okS w st → cn.1 ≤ mcOf id ∧ cn.2 ≤ msOf id → (codeOf id)[pc]? = some e0 →
    W p l e (rmOf id) s m args below meth c H locs cn.1 cn.2 Z (F0 m e0.2.1 lsA (st.map (cV ro ad)))
def Pm (l : Launch) (D : va_G) (kA : Nat → ClassId) (ro : Int → Option Nat) (RM : Mm_) : Jg_ := fun id pc ls st w M cn Q =>
  ∀ (A : Nat → Prop) (p : Program) (e : Env) (s : State) (m : MethodId) (args : Array Value) (below : List Frame) (meth : Method) (c : Code) (n0 : Nat) (ad0 : Nat → Nat), Cx D kA ro RM id A p s m args meth c →
    Wat l D kA ro RM id A p e s m args below meth c n0 ad0 (MQ below (QcP D kA ro RM A n0 ad0 Q) args s (mcOf id) (msOf id) A) pc ls st w M cn
theorem g1_el {t : Nat} {st : List Vl_} {k : Int → List Vl_ → Prop} (h : g1 t st k) : ∃ x r, st = (t, x) :: r ∧ k x r := by
  unfold g1 at h
  split at h
  · rename_i v r
    split at h
    · rename_i e
      have e := Nat.eq_of_beq_eq_true e
      obtain ⟨a, b⟩ := v
      dsimp only at e
      subst e
      exact ⟨b, r, rfl, h⟩
    · exact h.elim
  · exact h.elim
theorem gl_el {t : Nat} {ls : Lc_} {i : Nat} {k : Int → Prop} (h : gl t ls i k) : ∃ x, ls[i]? = some (some (t, x)) ∧ k x := by
  unfold gl at h
  split at h
  · rename_i v hv
    split at h
    · rename_i e
      have e := Nat.eq_of_beq_eq_true e
      obtain ⟨a, b⟩ := v
      dsimp only at e
      subst e
      exact ⟨b, hv, h⟩
    · exact h.elim
  · exact h.elim
theorem nxt_el {cd : List In_} {pc t : Nat} (h : nxt cd pc t = true) : ∃ e1, cd[pc + 1]? = some e1 ∧ e1.2.1 = t := by
  unfold nxt at h
  split at h
  · rename_i e he
    exact ⟨e, he, of_decide_eq_true h⟩
  · cases h
theorem jmp_el {cd : List In_} {a : Nat} {t : Int} (h : jmp cd a t = true) : ∃ e1, cd[a]? = some e1 ∧ t = (e1.2.1 : Int) := by
  unfold jmp at h
  split at h
  · rename_i e he
    exact ⟨e, he, of_decide_eq_true h⟩
  · cases h
theorem dk_el {bs : ByteArray} {bp : Nat} {ins : Instr} {n : Nat} (h : dk bs bp ins n = true) : decode bs bp = .ok (ins, n) := of_decide_eq_true h
theorem rgI_el {z : Int} (h : rgI z = true) : inI z := by
  unfold rgI at h
  simp only [Bool.and_eq_true, decide_eq_true_eq] at h
  exact h
theorem rgL_el {z : Int} (h : rgL z = true) : inL z := by
  unfold rgL at h
  simp only [Bool.and_eq_true, decide_eq_true_eq] at h
  exact h
theorem okS_cons {w : Wd_} {v : Vl_} {st : List Vl_} (h1 : okV w v) (h2 : okS w st) : okS w (v :: st) := fun x hx => by
  rcases List.mem_cons.mp hx with h | h
  · rw [h]; exact h1
  · exact h2 x h
theorem okS_tl {w : Wd_} {v : Vl_} {st : List Vl_} (h : okS w (v :: st)) : okS w st := fun x hx => h x (List.mem_cons_of_mem _ hx)
theorem okS_hd {w : Wd_} {v : Vl_} {st : List Vl_} (h : okS w (v :: st)) : okV w v := h v List.mem_cons_self
theorem lth_set (ls : Lc_) (i : Nat) (v : Vl_) : (setL ls i v).length = ls.length := by
  unfold setL kilL
  split
  · simp
  · split <;> simp
theorem lth_set2 (ls : Lc_) (i : Nat) (v : Vl_) : (setL2 ls i v).length = ls.length := by
  unfold setL2 kilL
  split
  · simp
  · split <;> simp
theorem kil_at {ls : Lc_} {i j : Nat} {v : Vl_} (h : (kilL ls i)[j]? = some (some v)) : ls[j]? = some (some v) ∧ ¬ (j + 1 = i ∧ v.1 = 1) := by
  unfold kilL at h
  split at h
  · exact ⟨h, fun q => by omega⟩
  · rename_i i0
    split at h
    · rename_i y hy
      rw [List.getElem?_set] at h
      split at h
      · split at h <;> simp at h
      · rename_i hne
        exact ⟨h, fun q => hne (by omega)⟩
    · rename_i hn
      refine ⟨h, fun q => ?_⟩
      have e : j = i0 := by omega
      subst e
      obtain ⟨a, b⟩ := v
      obtain ⟨-, q⟩ := q
      dsimp only at q
      subst q
      exact hn b h
theorem set_at {ls : Lc_} {i j : Nat} {v y : Vl_} (h : (setL ls i v)[j]? = some (some y)) : (j = i ∧ y = v) ∨ (j ≠ i ∧ ls[j]? = some (some y) ∧ ¬ (j + 1 = i ∧ y.1 = 1)) := by
  unfold setL at h
  rw [List.getElem?_set] at h
  split at h
  · rename_i e
    split at h
    · simp only [Option.some.injEq] at h
      exact Or.inl ⟨e.symm, h.symm⟩
    · cases h
  · rename_i e
    exact Or.inr ⟨fun q => e q.symm, kil_at h⟩
theorem set2_at {ls : Lc_} {i j : Nat} {v y : Vl_} (h : (setL2 ls i v)[j]? = some (some y)) : (j = i ∧ y = v) ∨ (j ≠ i ∧ j ≠ i + 1 ∧ ls[j]? = some (some y) ∧ ¬ (j + 1 = i ∧ y.1 = 1)) := by
  unfold setL2 at h
  rw [List.getElem?_set] at h
  split at h
  · split at h <;> simp at h
  · rename_i e1
    rw [List.getElem?_set] at h
    split at h
    · rename_i e
      split at h
      · simp only [Option.some.injEq] at h
        exact Or.inl ⟨e.symm, h.symm⟩
      · cases h
    · rename_i e
      exact Or.inr ⟨fun q => e q.symm, fun q => e1 q.symm, kil_at h⟩
theorem okL_set {w : Wd_} {ls : Lc_} {i : Nat} {v : Vl_} (h : okL w ls) (hv : okV w v) : okL w (setL ls i v) := fun j y hy => by
  rcases set_at hy with ⟨-, e⟩ | ⟨-, e, -⟩
  · rw [e]; exact hv
  · exact h j y e
theorem okL_set2 {w : Wd_} {ls : Lc_} {i : Nat} {v : Vl_} (h : okL w ls) (hv : okV w v) : okL w (setL2 ls i v) := fun j y hy => by
  rcases set2_at hy with ⟨-, e⟩ | ⟨-, -, e, -⟩
  · rw [e]; exact hv
  · exact h j y e
theorem cV_cat (ro : Int → Option Nat) (ad : Nat → Nat) (v : Vl_) : (cV ro ad v).category = catV v := by
  obtain ⟨t, x⟩ := v
  match t with
  | 0 => rfl
  | 1 => rfl
  | t + 2 =>
    show (va_rf (adr ro ad x)).category = catV (t + 2, x)
    unfold va_rf catV
    split <;> simp [Value.category]
end SND
