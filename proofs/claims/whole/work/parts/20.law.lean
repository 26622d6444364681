/-! THE CLAIM OUT OF ONE WALK OF THE LAW'S BODY. Your part is whole_start (and what it stands on); all else here is the same for every law, but numbers. -/
def R_law : String := "BorrowedWordsLaw"
def lw_P (b : Addr) (xs : List Int32) (args : Array Value) (s : State) : Prop := args = #[.ref b] ∧ s.IntsAt b xs ∧ xs.length ≤ 2560 ∧ (Jvm.Cond.and given_1 narrow_1).before args s = true
def lw_Q (_ : Array Value) (s : State) (o : Outcome) (t : State) : Prop := o = .returned (some (.int 1)) ∧ Framed s o t [] 600000 7302250
def lw_Z (below : List Frame) (a : Array Value) (s : State) : State → Prop := fun t => ∃ o, t.status = .running ∧ Ended t below o ∧ lw_Q a s o t
/-- the law's own end, with 1 on the stack, nothing written that was there before, its room as the claim has it -/
theorem lw_ret {p : Program} {l : Launch} {e : Env} {s : State} {m : MethodId} {below : List Frame} {meth : Method} {c : Code} {b : Nat} (hx : p.tables.exec = Jvm.exec) (hb : c.code = code) (hr : meth.sig.returnType = ret) (hlocks : meth.locks = false) {pc : Nat} {H : Heap} {ls : Array Slot} (hdg : decode code pc = .ok (.ireturn, 1)) : W p l e room_1 s m #[Value.ref b] below meth c H [] 600000 7302250 (lw_Z below #[Value.ref b] s) (F0 m pc ls [.int 1]) := by
  intro T hT X
  obtain ⟨fs, hret, hrun, hended, hW, hframe⟩ := X.leave (v := some (.int 1)) (hlocks := hlocks) (fun h => by rw [hr] at h; cases h)
  have hmeth' : T.vm.method? m = some meth := X.method'
  refine ⟨T.setFrames fs, ?_, .returned (some (.int 1)), hrun, hended, rfl, ⟨_, rfl⟩, hW, hframe⟩
  jvm_step X.here [X.here.top, hx, hb, hdg, hmeth', hr, ret, narrow_b1]
  (try refine ⟨rfl, ?_⟩); (try refine ⟨rfl, ?_⟩)
  first | (intro acts; rw [hret _ acts rfl rfl rfl]) | rw [hret _ _ rfl rfl rfl]
  exact Steps.refl _
/-- what holds at the law's entry: the machine, the code, the tables' words (any of lw_tbl by 'hts w (by decide +kernel)'), the script of L ints xs at the cell b, what the Statement gives of the start (any of its parts by flat_of_before) -/
def lw_At (p : Program) (s : State) (m : MethodId) (meth : Method) (c : Code) (b L : Nat) (xs : Nat → Int32) : Prop :=
  p.tables.exec = Jvm.exec ∧ c.code = code ∧ meth.sig.returnType = ret ∧ c.maxLocals = 4 ∧ s.vm.findClass R_law = some m.cls ∧ (∀ w ∈ lw_tbl, w.before #[Value.ref b] s = true) ∧ va_X b L xs s s.heap ∧ b < s.heap.size ∧ meth.locks = false ∧ (Jvm.Cond.and given_1 narrow_1).before #[Value.ref b] s = true

/-! THE LAW'S OWN JUDGEMENT, and what surrounds it: the read-only cells out of the Statement's premises -/
def strB : List (List Int) := [[108, 101, 97, 115, 116], [115, 108, 105, 112, 115], [109, 101, 97, 110], [99, 111, 109, 109, 111, 110], [102, 114, 101, 101], [108, 105, 103, 104, 116], [104, 101, 97, 118, 121], [115, 116, 114, 105, 107, 101], [121, 101, 115], [110, 111]]
/-- the read-only memory: the script at -2, the static rows at -3, -4, -5, the strings' bytes at -30 - i -/
def RMx (L : Nat) (xs : Nat → Int32) : Mm_ := fun a j =>
  if a = -2 then (if j = -1 then (L : Int) else if 0 ≤ j ∧ j < L then (xs j.toNat).toInt else 0)
  else if j = -1 then (if -5 ≤ a ∧ a ≤ -3 then 7 else if -39 ≤ a ∧ a ≤ -30 then ((strB.getD (-a - 30).toNat []).length : Int) else 0)
  else if a = -3 then ([4, 0, 0, 1, 900, 10, 50] : List Int).getD j.toNat 0
  else if a = -4 then ([2, 0, 0, 0, 0, 0, 0] : List Int).getD j.toNat 0
  else if a = -5 then ([20, 3, 1, 1, 999, 100, 100] : List Int).getD j.toNat 0
  else if -39 ≤ a ∧ a ≤ -30 then (strB.getD (-a - 30).toNat []).getD j.toNat 0
  else 0
theorem getD_in {l : List Int} {n : Nat} (h : ∀ x ∈ l, inI x) : inI (l.getD n 0) := by
  rw [List.getD_eq_getElem?_getD]
  cases hx : l[n]? with
  | none => exact in0
  | some x => exact h x (List.mem_of_getElem? hx)
theorem strB_in : ∀ l ∈ strB, (∀ x ∈ l, inI x) ∧ l.length ≤ 6 := by
  unfold inI
  decide +kernel
theorem strB_at (n : Nat) : (∀ x ∈ strB.getD n [], inI x) ∧ (strB.getD n []).length ≤ 6 := by
  rw [List.getD_eq_getElem?_getD]
  cases hx : strB[n]? with
  | none => exact ⟨fun x h => (by cases h), Nat.zero_le _⟩
  | some l => exact strB_in l (List.mem_of_getElem? hx)
theorem RMx_in {L : Nat} (hL : L ≤ 2560) (xs : Nat → Int32) (a j : Int) : inI (RMx L xs a j) := by
  unfold RMx
  have g1 : ∀ x ∈ ([4, 0, 0, 1, 900, 10, 50] : List Int), inI x := by unfold inI; decide +kernel
  have g2 : ∀ x ∈ ([2, 0, 0, 0, 0, 0, 0] : List Int), inI x := by unfold inI; decide +kernel
  have g3 : ∀ x ∈ ([20, 3, 1, 1, 999, 100, 100] : List Int), inI x := by unfold inI; decide +kernel
  have g4 := strB_at (-a - 30).toNat
  split
  · split
    · unfold inI; omega
    · split
      · exact inI_to _
      · exact in0
  · split
    · split
      · unfold inI; omega
      · split
        · unfold inI; omega
        · exact in0
    · split
      · exact getD_in g1
      · split
        · exact getD_in g2
        · split
          · exact getD_in g3
          · split
            · exact getD_in g4.1
            · exact in0
theorem WI0 {L : Nat} (hL : L ≤ 2560) (xs : Nat → Int32) : WI (RMx L xs) [] (RMx L xs) :=
  ⟨fun i c h => (by cases i <;> cases h), fun a j => inI_L (RMx_in hL xs a j), fun a j _ => RMx_in hL xs a j, fun _ _ _ => rfl⟩
def LAWI : Nat := 210
/-- the judgement of every method, and of the law its own end -/
def Pw (l : Launch) (D : va_G) (kA : Nat → ClassId) (ro : Int → Option Nat) (RM : Mm_) : Jg_ := fun id pc ls st w M cn Q =>
  Pm l D kA ro RM id pc ls st w M cn Q ∧ (id = LAWI → (∀ v w' M', Q v w' M' → v = some (0, 1)) → ∀ (p : Program) (e : Env) (s : State) (m : MethodId) (b : Nat) (below : List Frame) (meth : Method) (c : Code), Cx D kA ro RM LAWI (fun q : Nat => s.heap.size ≤ q) p s m #[Value.ref b] meth c →
    Wat l D kA ro RM LAWI (fun q : Nat => s.heap.size ≤ q) p e s m #[Value.ref b] below meth c 0 (fun _ => 0) (lw_Z below #[Value.ref b] s) pc ls st w M cn)
theorem st1_cP {cP cP' : Nat → List Vl_ → Wd_ → Mm_ → Qp_ → Prop} {k : Nat → Lc_ → List Vl_ → Wd_ → Mm_ → Cn_ → Prop} {Q : Qp_} (hc : ∀ id as w M (Q : Qp_), cP id as w M Q → cP' id as w M Q) (e : In_) (pc : Nat) (ls : Lc_) (st : List Vl_) (w : Wd_) (M : Mm_) (cn : Cn_) : st1 cP k Q e pc ls st w M cn → st1 cP' k Q e pc ls st w M cn := by
  obtain ⟨ins, bp, a, b, z, tg⟩ := e
  intro q
  cases ins
  all_goals try exact q
  all_goals simp only [st1] at q ⊢
  all_goals (repeat' first
    | (refine bud_mono ?_ q; clear q; intro q)
    | (refine callG_mono ?_ q; clear q; intro x y r q)
    | exact q
    | (refine And.imp ?_ ?_ q <;> clear q <;> intro q)
    | exact hc _ _ _ _ _ q
    | (split at q))
section LWM
variable {l : Launch} {D : va_G} {kA : Nat → ClassId} {ro : Int → Option Nat} {RM : Mm_}
theorem Pw_mono : Mono (Pw l D kA ro RM) := by
  intro id pc ls st w M cn Q Q' hq h
  exact ⟨Pm_mono _ _ _ _ _ _ _ _ _ hq h.1, fun e1 h1 => h.2 e1 (fun v w' M' hv => h1 v w' M' (hq v w' M' hv))⟩
theorem Pw_forg : Forg (Pw l D kA ro RM) := by
  intro id pc ls ls' st w M cn Q hl hs h
  refine ⟨Pm_forg _ _ _ _ _ _ _ _ _ hl hs h.1, ?_⟩
  intro e1 h1 p e s m b below meth c C ad H locs lsA e0 a1 a2 a3 a4 a5 a6 a7 he
  exact h.2 e1 h1 p e s m b below meth c C ad H locs lsA e0 a1 a2 a3 (a4.forget hl hs) (fun i v hv => a5 i v (hs i v hv)) a6 a7 he
theorem law_ret {p : Program} {e : Env} {s : State} {m : MethodId} {b : Nat} {below : List Frame} {meth : Method} {c : Code} (C : Cx D kA ro RM LAWI (fun q : Nat => s.heap.size ≤ q) p s m #[Value.ref b] meth c) {Q : Qp_} (hQ : ∀ v w' M', Q v w' M' → v = some (0, 1)) : RetOK l D kA ro RM LAWI (fun q : Nat => s.heap.size ≤ q) p e s m #[Value.ref b] below meth c 0 (fun _ => 0) (lw_Z below #[Value.ref b] s) Q := by
  obtain ⟨hx, hb, hr, hlk, hml, hown, hnm, hts, hen, hK, hA⟩ := C
  intro bp ls w M cn
  refine ⟨fun x hd _ hq => ?_, fun x hd h1 hq => ?_, fun hd h1 hq => ?_⟩
  · intro ad H locs lsA a1 a2 a3 a4 a5 a6 a7
    have e1 := hQ _ _ _ hq
    simp only [Option.some.injEq, Prod.mk.injEq, true_and] at e1
    subst e1
    refine va_forget (fun q hq => a3.2.2.1.2.2 q hq) ?_
    refine W.widen (k := 600000) (n := 7302250) a7.1 a7.2 ?_
    exact lw_ret hx hb hr hlk hd
  · have e1 := hQ _ _ _ hq
    simp at e1
  · have e1 := hQ _ _ _ hq
    simp at e1
theorem Pw_step : Step (Pw l D kA ro RM) := by
  intro id pc ls st w M cn Q e0 he h
  refine ⟨Pm_step _ _ _ _ _ _ _ _ _ he (st1_mono (cPof_mono Pm_mono) (fun pc ls st w M cn hk => hk.1) e0 pc ls st w M cn (st1_cP (fun id as w M Q hk => hk.1) e0 pc ls st w M cn h)), ?_⟩
  intro e1 h1 p e s m b below meth c C
  subst e1
  refine Wat.of fun e2 he2 => ?_
  have e3 : e0 = e2 := Option.some.inj (he.symm.trans he2)
  subst e3
  exact step_sound C (law_ret C h1) (ck_all LAWI pc e0 he) (st1_mono (cPof_mono Pm_mono) (fun pc ls st w M cn hk => hk.2 rfl h1 p e s m b below meth c C) e0 pc ls st w M cn (st1_cP (fun id as w M Q hk => hk.1) e0 pc ls st w M cn h))
theorem Pw_clo : Clo (Pw l D kA ro RM) := ⟨Pw_mono, Pw_forg, Pw_step⟩
end LWM
