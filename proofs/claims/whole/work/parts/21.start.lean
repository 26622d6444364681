/-! WHAT THE STATEMENT SAYS OF THE START: strings, statics, classes -/
def NF : List Jvm.Cond := flatC (Jvm.Cond.and given_1 narrow_1)
def sIdx : List Nat := [80, 82, 84, 86, 88, 90, 92, 94, 72, 78]
def sLen : List Nat := [5, 5, 4, 6, 4, 5, 5, 6, 3, 2]
def sByt : List (List Int32) := [[108, 101, 97, 115, 116], [115, 108, 105, 112, 115], [109, 101, 97, 110], [99, 111, 109, 109, 111, 110], [102, 114, 101, 101], [108, 105, 103, 104, 116], [104, 101, 97, 118, 121], [115, 116, 114, 105, 107, 101], [121, 101, 115], [110, 111]]
def sTm (i : Nat) : Term := .string "BorrowedWords$RuleReader" (sIdx.getD i 0)
def sVal (i : Nat) : Term := .field (sTm i) "java/lang/String" "value" "[B"
theorem nf_ex : (List.range 10).all (fun i => decide (Jvm.Cond.exactly (sTm i) "java/lang/String" ∈ NF)) = true := by decide +kernel
theorem nf_co : (List.range 10).all (fun i => decide (Jvm.Cond.eq (.field (sTm i) "java/lang/String" "coder" "B") (.int 0) ∈ NF)) = true := by decide +kernel
theorem nf_ar : (List.range 10).all (fun i => decide (Jvm.Cond.arrayOf (sVal i) .byte ∈ NF)) = true := by decide +kernel
theorem nf_le : (List.range 10).all (fun i => decide (Jvm.Cond.eq (.length (sVal i)) (.int (Int32.ofNat (sLen.getD i 0))) ∈ NF)) = true := by decide +kernel
theorem nf_el : (List.range 10).all (fun i => (List.range (sLen.getD i 0)).all (fun j => decide (Jvm.Cond.eq (.elem (sVal i) (.int (Int32.ofNat j))) (.int ((sByt.getD i []).getD j 0)) ∈ NF))) = true := by decide +kernel
theorem nf_ne : (List.range 10).all (fun i => (List.range 10).all (fun j => decide (i = j) || (decide (Jvm.Cond.not (Jvm.Cond.eq (sTm i) (sTm j)) ∈ NF) || decide (Jvm.Cond.not (Jvm.Cond.eq (sTm j) (sTm i)) ∈ NF)))) = true := by decide +kernel
def aTm (n : String) : Term := .static "BorrowedWords" n "[I"
def aVal (z : Int) : List Int32 := if z = -3 then [4, 0, 0, 1, 900, 10, 50] else if z = -4 then [2, 0, 0, 0, 0, 0, 0] else [20, 3, 1, 1, 999, 100, 100]
theorem nf_sar : ([-3, -4, -5] : List Int).all (fun z => decide (Jvm.Cond.arrayOf (aTm (stN_ z)) .int ∈ NF)) = true := by decide +kernel
theorem nf_sle : ([-3, -4, -5] : List Int).all (fun z => decide (Jvm.Cond.eq (.length (aTm (stN_ z))) (.int 7) ∈ NF)) = true := by decide +kernel
theorem nf_sel : ([-3, -4, -5] : List Int).all (fun z => (List.range 7).all (fun j => decide (Jvm.Cond.eq (.elem (aTm (stN_ z)) (.int (Int32.ofNat j))) (.int ((aVal z).getD j 0)) ∈ NF))) = true := by decide +kernel
theorem nf_cs : Jvm.Cond.eq (.static "java/lang/String" "COMPACT_STRINGS" "Z") (.int 1) ∈ NF := by decide +kernel
theorem nf_fm : Jvm.Cond.isRef (.static "jdk/internal/util/Preconditions" "SIOOBE_FORMATTER" "Ljava/util/function/BiFunction;") ∈ NF := by decide +kernel
theorem ls_COMPACT_STRINGS : Jvm.Cond.laysStatic "java/lang/String" "COMPACT_STRINGS" "Z" ∈ tables_1 := (tb3 (List.mem_of_getElem? (i := 129) rfl))
theorem ls_SIOOBE_FORMATTER : Jvm.Cond.laysStatic "jdk/internal/util/Preconditions" "SIOOBE_FORMATTER" "Ljava/util/function/BiFunction;" ∈ tables_1 := (tb3 (List.mem_of_getElem? (i := 145) rfl))
theorem ls_LOWEST : Jvm.Cond.laysStatic "BorrowedWords" "LOWEST" "[I" ∈ tables_1 := (tb3 (List.mem_of_getElem? (i := 198) rfl))
theorem ls_HIGHEST : Jvm.Cond.laysStatic "BorrowedWords" "HIGHEST" "[I" ∈ tables_1 := (tb3 (List.mem_of_getElem? (i := 200) rfl))
theorem ls_AT_FIRST : Jvm.Cond.laysStatic "BorrowedWords" "AT_FIRST" "[I" ∈ tables_1 := (tb3 (List.mem_of_getElem? (i := 223) rfl))
theorem in_pre : Jvm.Cond.initialized "jdk/internal/util/Preconditions" ∈ GW := (gw1 17 rfl rfl)
theorem in_str : Jvm.Cond.initialized "java/lang/String" ∈ GW := (gw1 15 rfl rfl)
theorem in_bw : Jvm.Cond.initialized "BorrowedWords" ∈ GW := (gw1 1 rfl rfl)
def roX (b tA tB tC : Nat) (f : Option Nat) (adK adV : Nat → Nat) : Int → Option Nat := fun r =>
  if r = -2 then some b else if r = -3 then some tA else if r = -4 then some tB else if r = -5 then some tC else if r = -6 then f
  else if -19 ≤ r ∧ r ≤ -10 then some (adK (-r - 10).toNat) else if -39 ≤ r ∧ r ≤ -30 then some (adV (-r - 30).toNat) else none
theorem arr_of {s : State} {args : Array Value} {ty : FieldType} (h : (Jvm.Cond.arrayClass ty).before args s = true) : ∃ cA, ArrOfT s cA ty ∧ s.vm.findClass ("[" ++ ty.toString) = some cA := by
  unfold Jvm.Cond.before at h
  simp only [Cond.holds, Cond.value, beq_iff_eq] at h
  cases hc : s.vm.findClass ("[" ++ ty.toString) with
  | none => simp [hc] at h
  | some cA =>
    simp only [hc, Option.bind_some, Option.map_eq_some_iff] at h
    obtain ⟨k, hk, hb⟩ := h
    cases hkind : k.kind with
    | array comp t2 =>
      simp only [hkind, decide_eq_true_eq] at hb
      subst hb
      exact ⟨cA, fun N z => ⟨(fun k h => by cases h), k, hk, comp, hkind⟩, rfl⟩
    | _ => simp [hkind] at hb
theorem arr_ra {s : State} {cA : ClassId} {ty : FieldType} (h : s.vm.findClass ("[" ++ ty.toString) = some cA) (hn : ∀ C, ty ≠ .object C) : va_RA s cA ty := by
  cases ty with
  | object C => exact absurd rfl (hn C)
  | _ => exact h
theorem vk_R_any {own tx : String} {k a : Nat} {A : Array Value} {U : State} (h1 : (Jvm.Cond.stringRef own k tx).before A U = true) (h2 : (Term.string own k).eval A U none [] U = some (.ref a)) : vk_R own k tx a U := vk_R.of h1 h2
section LWS
variable {p : Program} {e : Env} {s : State} {m : MethodId} {below : List Frame} {meth : Method} {c : Code} {b L : Nat} {xs : Nat → Int32}
theorem EN_of (C0 : lw_At p s m meth c b L xs) (hL : L ≤ 2560) : ∃ ro : Int → Option Nat, ro (-2) = some b ∧ EN ro (RMx L xs) (fun q : Nat => s.heap.size ≤ q) s := by
  obtain ⟨hx, hb, hr, hml, hown, hts, hX, hbl, hlk, hgv⟩ := C0
  have hs := flat_of_before _ hgv
  have hA : ∀ a : Nat, a < s.heap.size → ¬ (fun q : Nat => s.heap.size ≤ q) a := fun a ha h => by dsimp only at h; omega
  have ht1 : ∀ w ∈ tables_1, w.before #[Value.ref b] s = true := fun w hw => hts w (List.mem_append_right _ hw)
  have htG : ∀ w ∈ GW, w.before #[Value.ref b] s = true := fun w hw => hts w (List.mem_filter.mp hw).1
  have all1 : ∀ {f : Nat → Bool}, (List.range 10).all f = true → ∀ i, i < 10 → f i = true := fun h i hi => List.all_eq_true.mp h i (List.mem_range.mpr hi)
  obtain ⟨adK, adV, hS, hT⟩ := vk_Sof (args := #[Value.ref b]) (s := s) (N := 10) (tm := sTm) (len := sLen) (byt := sByt) (A := fun q : Nat => s.heap.size ≤ q)
    (fun i hi => by have : (List.range 10).all (fun i => decide (sLen.getD i 0 < 2 ^ 31)) = true := by decide
                    exact of_decide_eq_true (all1 this i hi))
    (fun i hi => hs _ (of_decide_eq_true (all1 nf_ex i hi))) (fun i hi => hs _ (of_decide_eq_true (all1 nf_co i hi))) (fun i hi => hs _ (of_decide_eq_true (all1 nf_ar i hi))) (fun i hi => hs _ (of_decide_eq_true (all1 nf_le i hi)))
    (fun i hi j hj => hs _ (of_decide_eq_true (List.all_eq_true.mp (all1 nf_el i hi) j (List.mem_range.mpr hj))))
    (fun i j hi hj hne => by
      have h := all1 (all1 nf_ne i hi) j hj
      simp only [Bool.or_eq_true, decide_eq_true_eq] at h
      rcases h with h | h | h
      · exact absurd h hne
      · exact Or.inl (hs _ h)
      · exact Or.inr (hs _ h)) hA
  have hst : ∀ z : Int, z ∈ ([-3, -4, -5] : List Int) → ∃ t : Nat, (aTm (stN_ z)).eval #[Value.ref b] s none [] s = some (.ref t) ∧ va_T .int t 7 (fun j => .int ((aVal z).getD j 0)) (fun q : Nat => s.heap.size ≤ q) s s.heap := by
    intro z hz
    exact va_Tof (by decide) (hs _ (of_decide_eq_true (List.all_eq_true.mp nf_sar z hz))) (va_eqt (hs _ (of_decide_eq_true (List.all_eq_true.mp nf_sle z hz)))) (fun j hj => va_eqt (hs _ (of_decide_eq_true (List.all_eq_true.mp (List.all_eq_true.mp nf_sel z hz) j (List.mem_range.mpr hj))))) hA
  obtain ⟨tA, hA1, hA2⟩ := hst (-3) (by decide)
  obtain ⟨tB, hB1, hB2⟩ := hst (-4) (by decide)
  obtain ⟨tC, hC1, hC2⟩ := hst (-5) (by decide)
  have hfm := va_Zqof (A := fun q : Nat => s.heap.size ≤ q) (ht1 _ ls_SIOOBE_FORMATTER) (htG _ in_pre) (hs _ nf_fm) hA
  obtain ⟨f, hf⟩ : ∃ f : Option Nat, va_Z "jdk/internal/util/Preconditions" "SIOOBE_FORMATTER" "Ljava/util/function/BiFunction;" (va_rf f) (fun q : Nat => s.heap.size ≤ q) s s.heap := by
    rcases hfm with h | ⟨t, h⟩
    · exact ⟨none, h⟩
    · exact ⟨some t, h⟩
  refine ⟨roX b tA tB tC f adK adV, rfl, fun w hw => ?_, ?_, ?_, ?_, ?_, ?_, ?_, hf, ?_, ?_⟩
  · have := ht1 w (NW_tb w hw)
    refine va_Nw.of ?_ this
    have hn := List.all_eq_true.mp NW_nst w hw
    cases w <;> first | rfl | cases hn
  · exact va_AO.of (ht1 _ ao_T)
  · exact ht1 _ ao_I
  · exact ht1 _ ao_L
  · intro z z1 z2
    obtain ⟨s1, s2, s3, s4⟩ := hS.1 (-z - 10).toNat (by omega)
    have e1 : roX b tA tB tC f adK adV z = some (adK (-z - 10).toNat) := by
      unfold roX
      rw [if_neg (by omega), if_neg (by omega), if_neg (by omega), if_neg (by omega), if_neg (by omega), if_pos ⟨z1, z2⟩]
    have e2 : roX b tA tB tC f adK adV (z - 20) = some (adV (-z - 10).toNat) := by
      unfold roX
      rw [if_neg (by omega), if_neg (by omega), if_neg (by omega), if_neg (by omega), if_neg (by omega), if_neg (by omega), if_pos (by omega), show (-(z - 20) - 30).toNat = (-z - 10).toNat by omega]
    refine ⟨_, _, e1, e2, s1, ?_, s3, ?_⟩
    · have e3 : RMx L xs z 1 = 0 := by
        unfold RMx
        rw [if_neg (by omega), if_neg (by omega), if_neg (by omega), if_neg (by omega), if_neg (by omega), if_neg (by omega)]
      rw [e3]
      exact s2
    · have hz : (-z - 10).toNat < 10 := by omega
      have e4 : (RMx L xs (z - 20) (-1)).toNat = sLen.getD (-z - 10).toNat 0 ∧ ∀ j : Nat, Int32.ofInt (RMx L xs (z - 20) j) = (sByt.getD (-z - 10).toNat []).getD j 0 := by
        unfold RMx
        rw [if_neg (by omega), if_pos rfl, if_neg (by omega), if_pos (by omega), show (-(z - 20) - 30).toNat = (-z - 10).toNat by omega]
        generalize (-z - 10).toNat = i at hz
        refine ⟨?_, fun j => ?_⟩
        · have : (List.range 10).all (fun i => decide (((strB.getD i []).length : Int).toNat = sLen.getD i 0)) = true := by decide
          exact of_decide_eq_true (all1 this i hz)
        · rw [if_neg (by omega), if_neg (by omega), if_neg (by omega), if_neg (by omega), if_neg (by omega), if_pos (by omega)]
          have key : ∀ l : List Int, Int32.ofInt (l.getD j 0) = (l.map Int32.ofInt).getD j 0 := by
            intro l
            rw [List.getD_eq_getElem?_getD, List.getD_eq_getElem?_getD, List.getElem?_map]
            cases l[j]? <;> rfl
          have e5 : (List.range 10).all (fun i => decide ((strB.getD i []).map Int32.ofInt = sByt.getD i [])) = true := by decide
          rw [show ((j : Int)).toNat = j from rfl, key, of_decide_eq_true (all1 e5 i hz)]
      rw [e4.1, show (fun j : Nat => Value.int (Int32.ofInt (RMx L xs (z - 20) j))) = fun j => Value.int ((sByt.getD (-z - 10).toNat []).getD j 0) from funext fun j => by rw [e4.2 j]]
      exact s4
  · intro q hq
    have h1 := ht1 _ (srL_ok q hq)
    have hq2 : q.1 < 10 ∧ sIdx.getD q.1 0 = q.2.1 := by
      have : srL.all (fun q => decide (q.1 < 10 ∧ sIdx.getD q.1 0 = q.2.1)) = true := by decide
      exact of_decide_eq_true (List.all_eq_true.mp this q hq)
    have h2 := hT q.1 hq2.1
    unfold sTm at h2
    rw [hq2.2] at h2
    have e1 : roX b tA tB tC f adK adV (-(q.1 : Int) - 10) = some (adK q.1) := by
      unfold roX
      rw [if_neg (by omega), if_neg (by omega), if_neg (by omega), if_neg (by omega), if_neg (by omega), if_pos (by omega), show (-(-(q.1 : Int) - 10) - 10).toNat = q.1 by omega]
    exact ⟨_, e1, vk_R_any h1 h2⟩
  · exact va_Zof (ht1 _ ls_COMPACT_STRINGS) (htG _ in_str) (va_eqt (hs _ nf_cs)) hA
  · intro z z1 z2
    rcases (show z = -3 ∨ z = -4 ∨ z = -5 by omega) with rfl | rfl | rfl
    · exact ⟨tA, rfl, va_Zof (ht1 _ ls_AT_FIRST) (htG _ in_bw) hA1 hA⟩
    · exact ⟨tB, rfl, va_Zof (ht1 _ ls_LOWEST) (htG _ in_bw) hB1 hA⟩
    · exact ⟨tC, rfl, va_Zof (ht1 _ ls_HIGHEST) (htG _ in_bw) hC1 hA⟩
  · intro z z1 z2
    rcases (show z = -2 ∨ z = -3 ∨ z = -4 ∨ z = -5 by omega) with rfl | rfl | rfl | rfl
    · refine ⟨b, rfl, ?_⟩
      obtain ⟨scr, x1, x2, x3, x4, x5⟩ := hX
      have eL : (RMx L xs (-2) (-1)).toNat = L := rfl
      rw [eL]
      refine ⟨scr, x1, x2, x3, Nat.le_of_eq x4.symm, by rw [x4], fun j hj => ?_, hA b hbl⟩
      rw [x5 j hj]
      show some (Value.int (xs j)) = some (Value.int (Int32.ofInt (RMx L xs (-2) j)))
      have e1 : RMx L xs (-2) j = (xs j).toInt := by
        unfold RMx
        rw [if_pos rfl, if_neg (by omega), if_pos (by omega)]
        first | done | rfl
      rw [e1, Int32.ofInt_toInt]
    · exact ⟨tA, rfl, by have e1 : (fun j : Nat => Value.int (Int32.ofInt (RMx L xs (-3) j))) = fun j => Value.int ((aVal (-3)).getD j 0) := funext fun j => by
                           have e2 : RMx L xs (-3) j = ([4, 0, 0, 1, 900, 10, 50] : List Int).getD j 0 := by unfold RMx; rw [if_neg (by omega), if_neg (by omega), if_pos rfl]; rfl
                           rw [e2]
                           match j with
                           | 0 => rfl
                           | 1 => rfl
                           | 2 => rfl
                           | 3 => rfl
                           | 4 => rfl
                           | 5 => rfl
                           | 6 => rfl
                           | j + 7 => rfl
                         rw [e1]; exact hA2⟩
    · exact ⟨tB, rfl, by have e1 : (fun j : Nat => Value.int (Int32.ofInt (RMx L xs (-4) j))) = fun j => Value.int ((aVal (-4)).getD j 0) := funext fun j => by
                           have e2 : RMx L xs (-4) j = ([2, 0, 0, 0, 0, 0, 0] : List Int).getD j 0 := by unfold RMx; rw [if_neg (by omega), if_neg (by omega), if_neg (by omega), if_pos rfl]; rfl
                           rw [e2]
                           match j with
                           | 0 => rfl
                           | 1 => rfl
                           | 2 => rfl
                           | 3 => rfl
                           | 4 => rfl
                           | 5 => rfl
                           | 6 => rfl
                           | j + 7 => rfl
                         rw [e1]; exact hB2⟩
    · exact ⟨tC, rfl, by have e1 : (fun j : Nat => Value.int (Int32.ofInt (RMx L xs (-5) j))) = fun j => Value.int ((aVal (-5)).getD j 0) := funext fun j => by
                           have e2 : RMx L xs (-5) j = ([20, 3, 1, 1, 999, 100, 100] : List Int).getD j 0 := by unfold RMx; rw [if_neg (by omega), if_neg (by omega), if_neg (by omega), if_neg (by omega), if_pos rfl]; rfl
                           rw [e2]
                           match j with
                           | 0 => rfl
                           | 1 => rfl
                           | 2 => rfl
                           | 3 => rfl
                           | 4 => rfl
                           | 5 => rfl
                           | 6 => rfl
                           | j + 7 => rfl
                         rw [e1]; exact hC2⟩
end LWS
section LWT
variable {p : Program} {e : Env} {s : State} {m : MethodId} {below : List Frame} {meth : Method} {c : Code} {b L : Nat} {xs : Nat → Int32}
/-- FROM THE PURE MACHINE TO THE LAW'S WALK: if every closed judgement holds of the law's entry, the machine comes to the law's end with true -/
theorem law_start (l : Launch) (hL : L ≤ 2560) (C0 : lw_At p s m meth c b L xs) (hlaw : ∀ P : Jg_, Clo P → P LAWI 0 [some (2, -2), none, none, none] [] [] (RMx L xs) (0, 0) (fun v _ _ => v = some (0, 1))) : W p l e room_1 s m #[Value.ref b] below meth c s.heap [] 0 0 (lw_Z below #[Value.ref b] s) (entryFrame m ([Value.ref b] : List Value).toArray 4) := by
  obtain ⟨ro, hro, hen⟩ := EN_of C0 hL
  obtain ⟨hx, hb, hr, hml, hown, hts, hX, hbl, hlk, hgv⟩ := C0
  have htG : ∀ w ∈ GW, w.before #[Value.ref b] s = true := fun w hw => hts w (List.mem_filter.mp hw).1
  have hcl : ∀ k : Nat, ∃ q : ClassId × (Nat → Nat), ∀ r : vw_C, cls_[k]? = some r → u_Kn s r.1 r.2.1 r.2.2 q.1 q.2 := by
    intro k
    cases hk : cls_[k]? with
    | none => exact ⟨(0, fun _ => 0), fun r h => by cases h⟩
    | some r =>
      obtain ⟨k1, -, -, k4, -⟩ := ck_ok k r hk
      obtain ⟨cC, iS, h⟩ := u_known htG k1 (htG _ k4)
      exact ⟨(cC, iS), fun r2 h2 => by cases h2; exact h⟩
  have hD : ∃ D : va_G, ∀ (k : Nat) (r : vw_C), cls_[k]? = some r → u_Kn s r.1 r.2.1 r.2.2 (D.1 k) (D.2 k) := ⟨(fun k => (Classical.choose (hcl k)).1, fun k => (Classical.choose (hcl k)).2), fun k r h => Classical.choose_spec (hcl k) r h⟩
  obtain ⟨D, hD⟩ := hD
  obtain ⟨c1, a1, f1⟩ := arr_of (htG _ ac_int)
  obtain ⟨c2, a2, f2⟩ := arr_of (htG _ ac_long)
  obtain ⟨c3, a3, f3⟩ := arr_of (htG _ ac_boolean)
  obtain ⟨comp4, c4, k4, h41, -, h43, h44, h45⟩ := Cond.arrayOver_spec hen.2.1
  obtain ⟨comp5, c5, k5, h51, -, h53, h54, h55⟩ := AOA_spec hen.2.2.1
  obtain ⟨comp6, c6, k6, h61, -, h63, h64, h65⟩ := AOA_spec hen.2.2.2.1
  have hK : ∃ kA : Nat → ClassId, va_K D cls_ (TY kA) s := by
    refine ⟨fun t => match t with | 1 => c1 | 2 => c2 | 3 => c3 | 4 => c4 | 5 => c5 | _ => c6, hD, fun k q hq => ?_⟩
    match k, hq with
    | 0, hq => cases hq; exact ⟨a1, f1⟩
    | 1, hq => cases hq; exact ⟨a2, f2⟩
    | 2, hq => cases hq; exact ⟨a3, f3⟩
    | 3, hq => cases hq; exact ⟨fun N z => ⟨(fun k h => by cases h), k4, h43, comp4, h44⟩, k4, comp4, h43, h44, h41, h45⟩
    | 4, hq => cases hq; exact ⟨fun N z => ⟨(fun k h => by cases h), k5, h53, comp5, h54⟩, h55⟩
    | 5, hq => cases hq; exact ⟨fun N z => ⟨(fun k h => by cases h), k6, h63, comp6, h64⟩, h65⟩
    | k + 6, hq => cases hq
  obtain ⟨kA, hK⟩ := hK
  have hw := (hlaw (Pw l D kA ro (RMx L xs)) Pw_clo).2 rfl (fun v _ _ h => h) p e s m b below meth c ⟨hx, hb, hr, hlk, hml, hown, fun g => absurd g (by decide), htG, hen, hK, fun q h => h⟩
  have hl := lv_entry ([.ref b]) (n := 4) (Nat.le_of_ble_eq_true rfl)
  rw [lg_entry_eq]
  generalize (lg_sl ([.ref b]) ++ List.replicate (4 - (lg_sl ([.ref b])).length) Slot.unset).toArray = lsA at hl ⊢
  have e0 : cV ro (fun _ => 0) (2, -2) = .ref b := cV_ro (by omega) hro
  have hlh : LH ro (fun _ => 0) lsA (mxL LAWI) [some (2, -2), none, none, none] := by
    refine LH.of hl rfl (fun i v hv => ?_)
    match i, hv with
    | 0, hv => cases hv; rw [e0]; exact List.mem_cons_self
    | 1, hv => cases hv
    | 2, hv => cases hv
    | 3, hv => cases hv
    | i + 4, hv => cases hv
  have hgo := hw (fun _ => 0) s.heap [] lsA (Nat.le_refl _) (fun _ h => absurd h (Nat.not_lt_zero _)) ⟨fun k q h => (by cases k <;> cases h), ⟨fun i j x y h => (by cases i <;> cases h), fun k q h => (by cases k <;> cases h)⟩, va_S.rf, WI0 hL xs⟩ hlh (fun i v hv => by
    match i, hv with
    | 0, hv => cases hv; show (-2 : Int) < 0; omega
    | 1, hv => cases hv
    | 2, hv => cases hv
    | 3, hv => cases hv
    | i + 4, hv => cases hv) (fun v h => by cases h) ⟨Nat.zero_le _, Nat.zero_le _⟩ (e0 := (.new 7, 0, 11, 10, 0, [600000, 7302250])) rfl
  exact hgo
end LWT
