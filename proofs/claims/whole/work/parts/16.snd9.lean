section SN9
variable {l : Launch} {D : va_G} {kA : Nat → ClassId} {ro : Int → Option Nat} {RM : Mm_}
theorem first0 : mkL.all (fun id => decide (((codeOf id)[0]?).map (fun e => e.2.1) = some 0)) = true := by decide +kernel
theorem first_at {id : Nat} (h : id ∈ mkL) : ∃ e0, (codeOf id)[0]? = some e0 ∧ e0.2.1 = 0 := by
  have := of_decide_eq_true (List.all_eq_true.mp first0 id h)
  cases he : (codeOf id)[0]? with
  | none => rw [he] at this; cases this
  | some e0 =>
    rw [he] at this
    exact ⟨e0, rfl, Option.some.inj this⟩
def wsM (id : Nat) : List Jvm.Cond := Jvm.Cond.code (yOf id) (byOf id) (mxL id) (retOf id) :: GW
theorem GW_good {w : Jvm.Cond} (h : w ∈ GW) : goodWord w = true := (List.mem_filter.mp h).2
theorem wsM_good {id : Nat} (h : id ∈ mkL) : GoodIn GW (wsM id) := by
  intro w hw
  have hm : w ∈ GW := by
    rcases List.mem_cons.mp hw with e | e
    · rw [e]; exact (mkL_ok id h).1
    · exact e
  exact ⟨hm, good_of_word (GW_good hm)⟩
theorem argL_len : ∀ as : List Vl_, (argL as).length = catS as
  | [] => rfl
  | (0, x) :: as => by
    show (argL as).length + 1 = _
    rw [argL_len as]
    unfold catS
    rw [List.map_cons, List.sum_cons]
    show _ = 1 + _
    omega
  | (1, x) :: as => by
    show (argL as).length + 1 + 1 = _
    rw [argL_len as]
    unfold catS
    rw [List.map_cons, List.sum_cons]
    show _ = 2 + _
    omega
  | (t + 2, x) :: as => by
    show (argL as).length + 1 = _
    rw [argL_len as]
    unfold catS
    rw [List.map_cons, List.sum_cons]
    have e : catV (t + 2, x) = 1 := if_neg (by dsimp only; omega)
    rw [e]
    omega
theorem sl_len (ad : Nat → Nat) : ∀ as : List Vl_, (lg_sl (as.map (cV ro ad))).length = catS as
  | [] => rfl
  | v :: as => by
    have ih := sl_len ad as
    unfold lg_sl at ih ⊢
    rw [List.map_cons, List.flatMap_cons, List.length_append, ih]
    unfold catS
    rw [List.map_cons, List.sum_cons, cV_cat]
    unfold catV
    split <;> simp
theorem args_mem (ad : Nat → Nat) : ∀ (as : List Vl_) (k i : Nat) (v : Vl_), (argL as)[i]? = some (some v) → (k + i, cV ro ad v) ∈ lv_args k (as.map (cV ro ad))
  | [], _, i, _, h => by cases i <;> cases h
  | (0, x) :: as, k, i, v, h => by
    cases i with
    | zero =>
      have h : some (some ((0, x) : Vl_)) = some (some v) := h
      cases h
      exact List.mem_cons_self
    | succ i =>
      have h : (argL as)[i]? = some (some v) := h
      have := args_mem ad as (k + 1) i v h
      rw [show k + (i + 1) = k + 1 + i by omega]
      exact List.mem_cons_of_mem _ this
  | (1, x) :: as, k, i, v, h => by
    cases i with
    | zero =>
      have h : some (some ((1, x) : Vl_)) = some (some v) := h
      cases h
      exact List.mem_cons_self
    | succ i =>
      cases i with
      | zero => have h : some (none : Option Vl_) = some (some v) := h; cases h
      | succ i =>
        have h : (argL as)[i]? = some (some v) := h
        have := args_mem ad as (k + 2) i v h
        rw [show k + (i + 1 + 1) = k + 2 + i by omega]
        exact List.mem_cons_of_mem _ this
  | (t + 2, x) :: as, k, i, v, h => by
    cases i with
    | zero =>
      have h : some (some ((t + 2, x) : Vl_)) = some (some v) := h
      cases h
      exact List.mem_cons_self
    | succ i =>
      have h : (argL as)[i]? = some (some v) := h
      have := args_mem ad as (k + 1) i v h
      rw [show k + (i + 1) = k + 1 + i by omega]
      rw [List.map_cons]
      unfold lv_args
      rw [if_neg (by rw [cV_cat]; unfold catV; rw [if_neg (by dsimp only; omega)]; omega)]
      exact List.mem_cons_of_mem _ this
theorem ent_ok {w : Wd_} {as : List Vl_} {n : Nat} (h : ∀ v ∈ as, okV w v) : okL w (entL as n) := by
  intro i v hv
  unfold entL at hv
  rw [List.getElem?_append] at hv
  split at hv
  · have key : ∀ (as : List Vl_) (i : Nat), (argL as)[i]? = some (some v) → v ∈ as := by
      intro as i h
      have h1 := args_mem (ro := fun _ => none) (fun _ => 0) as 0 i v h
      clear h1
      induction as generalizing i with
      | nil => cases i <;> cases h
      | cons x as ih =>
        obtain ⟨t, x⟩ := x
        match t, i, h with
        | 0, 0, h => have h : some (some ((0, x) : Vl_)) = some (some v) := h; cases h; exact List.mem_cons_self
        | 0, i + 1, h => exact List.mem_cons_of_mem _ (ih i h)
        | 1, 0, h => have h : some (some ((1, x) : Vl_)) = some (some v) := h; cases h; exact List.mem_cons_self
        | 1, 1, h => have h : some (none : Option Vl_) = some (some v) := h; cases h
        | 1, i + 2, h => exact List.mem_cons_of_mem _ (ih i h)
        | t + 2, 0, h => have h : some (some ((t + 2, x) : Vl_)) = some (some v) := h; cases h; exact List.mem_cons_self
        | t + 2, i + 1, h => exact List.mem_cons_of_mem _ (ih i h)
    exact h v (key as i hv)
  · rw [List.getElem?_replicate] at hv
    split at hv
    · cases hv
    · cases hv
/-- what a method's contract takes -/
def PcP (D : va_G) (kA : Nat → ClassId) (ro : Int → Option Nat) (RM : Mm_) (ad : Nat → Nat) (as : List Vl_) (w : Wd_) (M : Mm_) (sz : Nat) : Array Value → State → Prop :=
  va_Pc (as.map (cV ro ad)) (fun U => U.heap.size = sz ∧ va_P D cls_ (cW kA ro ad w M) U.heap ∧ va_K D cls_ (TY kA) U ∧ va_D (fun _ => True) (cW kA ro ad w M) ∧ EN ro RM (va_A (cW kA ro ad w M) sz) U)
theorem met_of {id : Nat} (hid : id ∈ mkL) {as : List Vl_} {w : Wd_} {M : Mm_} {Q : Qp_} (h : Pm l D kA ro RM id 0 (entL as (mxL id)) [] w M (0, 0) Q) (hcat : catS as ≤ mxL id) (ad : Nat → Nat) (hok : ∀ v ∈ as, okV w v) (hWI : WI RM w M) (sz : Nat) :
    Met l (yOf id) (wsM id) (rmOf id) (PcP D kA ro RM ad as w M sz) (QcP D kA ro RM (va_A (cW kA ro ad w M) sz) w.length ad Q) (mcOf id) (msOf id) (va_A (cW kA ro ad w M) sz) := by
  obtain ⟨m1, m2, m3, m4, m5, m6⟩ := mkL_ok id hid
  refine Met.ofW (cc := byOf id) (maxL := mxL id) (ret := retOf id) m3 rfl ?_
  intro p e s m args below meth c s₁ B hml hv
  obtain ⟨rfl, hsz, hP, hK, hD0, hen⟩ := hv
  have hts := atoms_spec (ws := wsM id) B.pre
  have hown : s.vm.findClass (yOf id).cls = some m.cls := findClass_of_methodNamed B.named
  have hname : meth.name = (yOf id).name := (name_of_methodNamed B.named B.method).1
  subst hsz
  obtain ⟨e0, he0, hb0⟩ := first_at hid
  have hsl : (lg_sl (as.map (cV ro ad))).length = catS as := sl_len ad as
  have hl := lv_entry (as.map (cV ro ad)) (n := mxL id) (by rw [hsl]; exact hcat)
  rw [lg_entry_eq]
  generalize (lg_sl (as.map (cV ro ad)) ++ List.replicate (mxL id - (lg_sl (as.map (cV ro ad))).length) Slot.unset).toArray = lsA at hl ⊢
  have hlh : LH ro ad lsA (mxL id) (entL as (mxL id)) := by
    refine LH.of hl ?_ (fun i v hv => ?_)
    · show (argL as ++ List.replicate (mxL id - (argL as).length) none).length = mxL id
      rw [List.length_append, List.length_replicate, argL_len]
      omega
    · have hv : (argL as ++ List.replicate (mxL id - (argL as).length) none)[i]? = some (some v) := hv
      rw [List.getElem?_append] at hv
      split at hv
      · have := args_mem (ro := ro) ad as 0 i v hv
        rwa [Nat.zero_add] at this
      · rw [List.getElem?_replicate] at hv
        split at hv <;> cases hv
  have hk := h (va_A (cW kA ro ad w M) s.heap.size) p e s m _ below meth c w.length ad ⟨B.exec, B.bytes, B.returns, B.notSynchronized, hml, by rw [← m6]; exact hown, fun g => hname.trans g, fun w hw => hts w (List.mem_cons_of_mem _ hw), hen, hK, fun q hq => Or.inr hq⟩
    ad s.heap [] lsA e0 (Nat.le_refl _) (fun _ _ => rfl) ⟨hP, hD0.self, va_S.rf, hWI⟩ hlh (ent_ok hok) (fun _ h => by cases h) ⟨Nat.zero_le _, Nat.zero_le _⟩ he0
  rw [hb0] at hk
  exact hk
end SN9
