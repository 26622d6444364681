section SN8
variable {l : Launch} {D : va_G} {kA : Nat → ClassId} {ro : Int → Option Nat} {RM : Mm_} {id : Nat} {A : Nat → Prop} {p : Program} {e : Env} {s : State} {m : MethodId} {args : Array Value} {below : List Frame} {meth : Method} {c : Code} {n0 : Nat} {ad0 : Nat → Nat} {Z : State → Prop}
theorem cell1_ok {w : Wd_} {x : Cl_} (h1 : ∀ r ∈ x.2.2, r < (w.length : Int)) (h2 : x.1 ≠ 0) (h3 : 4 ≤ x.1 → x.2.2.length = x.2.1) (h4 : x.1 ≤ 6) : ∀ y ∈ ([x] : Wd_), (∀ r ∈ y.2.2, r < ((w ++ [x]).length : Int)) ∧ (y.1 = 0 → y.2.1 < cls_.length ∧ y.2.2.length = nF y.2.1) ∧ (4 ≤ y.1 → y.2.2.length = y.2.1) ∧ y.1 ≤ 6 := by
  intro y hy
  rw [List.mem_singleton] at hy
  subst hy
  exact ⟨fun r hr => by have := h1 r hr; rw [List.length_append]; omega, fun g => absurd g h2, h3, h4⟩
theorem so_newa_i (C : Cx D kA ro RM id A p s m args meth c) {bp : Nat} {ls : Lc_} {st : List Vl_} {w : Wd_} {M : Mm_} {cn : Cn_} {n : Int} (hn : 0 ≤ n ∧ n ≤ 4000) (hbud : cn.1 + 1 ≤ mcOf id ∧ cn.2 + n.toNat ≤ msOf id) (hd : decode (byOf id) bp = .ok (.newarray .int, 2)) (h : Wb l D kA ro RM id A p e s m args below meth c n0 ad0 Z (bp + 2) ls ((2, (w.length : Int)) :: st) (w ++ [(1, n.toNat, [])]) (zeroM M w.length) (cn.1 + 1, cn.2 + n.toNat)) : Wb l D kA ro RM id A p e s m args below meth c n0 ad0 Z bp ls ((0, n) :: st) w M cn := by
  obtain ⟨hx, hb, hr, hlk, hml, hown, hnm, hts, hen, hK, hA⟩ := C
  intro ad H locs lsA a1 a2 a3 a4 a5 a6 a7
  have on : inI n := okS_hd a6
  have hM : ∀ (x : Int) j, x < w.length → zeroM M w.length x j = M x j := fun x j hx => if_neg (by omega)
  have hZ : ∀ (x : Int) j, (w.length : Int) ≤ x → zeroM M w.length x j = 0 ∨ zeroM M w.length x j = M x j := fun x j _ => zeroM_or ..
  have hnew : ∀ q : Nat, ([(1, n.toNat, [])] : Wd_).mapIdx (fun k x => (q, cC kA ro (adG ad w.length (fun _ => q)) (zeroM M w.length) ((w.length + k : Nat) : Int) x)) = [(q, .inl (kA 1, n.toNat, Sum.inl (fun _ => (0 : Int32))))] := by
    intro q
    rw [List.mapIdx_cons, List.mapIdx_nil]
    have ef : (fun j : Nat => Int32.ofInt (zeroM M w.length ((w.length + 0 : Nat) : Int) j)) = fun _ => 0 := funext fun j => by rw [show zeroM M w.length ((w.length + 0 : Nat) : Int) j = 0 from if_pos rfl]; rfl
    exact congrArg (fun f => ([(q, Sum.inl (kA 1, n.toNat, Sum.inl f))] : va_W)) ef
  refine va_newa (atype := .int) (ty := .int) hx hb (hts _ ac_int) rfl hK a3.1 a3.2.1 a3.2.2.1 hA (a0 := (n.toNat, Sum.inl (fun _ => (0 : Int32)))) (fun cA => rfl) (n := Int32.ofInt n) (by rw [show (0 : Int32) = Int32.ofInt 0 from rfl, i32_lt on in0]; omega) (clp_of on hn.1) (by show n.toNat * 4 ≤ 536870912; omega) hbud.1 hbud.2 hd (fun q cA H1 k1 p1 p2 p3 => ?_)
  have hcA : cA = kA 1 := kA_of (t := 1) hK (by omega) (k1.2 6 _ rfl).2
  subst hcA
  have := Wb_grow (qs := fun _ => q) h a1 a2 a3 a4 a5 (okS_tl a6) ⟨hbud.1, hbud.2⟩ hM hZ (cell1_ok (fun r hr => by cases hr) (by dsimp only; omega) (fun g => by dsimp only at g; omega) (by dsimp only; omega)) (show (w.length : Int) < _ by rw [List.length_append]; simp; omega) (by rw [hnew]; exact p1) (by rw [hnew]; exact p2) p3
  rw [cV_ref (by omega)] at this
  have e2 : adG ad w.length (fun _ => q) ((w.length : Int).toNat) = q := if_neg (by omega)
  rw [e2] at this
  exact this
theorem so_newa_l (C : Cx D kA ro RM id A p s m args meth c) {bp : Nat} {ls : Lc_} {st : List Vl_} {w : Wd_} {M : Mm_} {cn : Cn_} {n : Int} (hn : 0 ≤ n ∧ n ≤ 4000) (hbud : cn.1 + 1 ≤ mcOf id ∧ cn.2 + n.toNat ≤ msOf id) (hd : decode (byOf id) bp = .ok (.newarray .long, 2)) (h : Wb l D kA ro RM id A p e s m args below meth c n0 ad0 Z (bp + 2) ls ((2, (w.length : Int)) :: st) (w ++ [(2, n.toNat, [])]) (zeroM M w.length) (cn.1 + 1, cn.2 + n.toNat)) : Wb l D kA ro RM id A p e s m args below meth c n0 ad0 Z bp ls ((0, n) :: st) w M cn := by
  obtain ⟨hx, hb, hr, hlk, hml, hown, hnm, hts, hen, hK, hA⟩ := C
  intro ad H locs lsA a1 a2 a3 a4 a5 a6 a7
  have on : inI n := okS_hd a6
  have hM : ∀ (x : Int) j, x < w.length → zeroM M w.length x j = M x j := fun x j hx => if_neg (by omega)
  have hZ : ∀ (x : Int) j, (w.length : Int) ≤ x → zeroM M w.length x j = 0 ∨ zeroM M w.length x j = M x j := fun x j _ => zeroM_or ..
  have hnew : ∀ q : Nat, ([(2, n.toNat, [])] : Wd_).mapIdx (fun k x => (q, cC kA ro (adG ad w.length (fun _ => q)) (zeroM M w.length) ((w.length + k : Nat) : Int) x)) = [(q, .inl (kA 2, n.toNat, Sum.inr (Sum.inl (fun _ => (0 : Int64)))))] := by
    intro q
    rw [List.mapIdx_cons, List.mapIdx_nil]
    have ef : (fun j : Nat => Int64.ofInt (zeroM M w.length ((w.length + 0 : Nat) : Int) j)) = fun _ => 0 := funext fun j => by rw [show zeroM M w.length ((w.length + 0 : Nat) : Int) j = 0 from if_pos rfl]; rfl
    exact congrArg (fun f => ([(q, Sum.inl (kA 2, n.toNat, Sum.inr (Sum.inl f)))] : va_W)) ef
  refine va_newa (atype := .long) (ty := .long) hx hb (hts _ ac_long) rfl hK a3.1 a3.2.1 a3.2.2.1 hA (a0 := (n.toNat, Sum.inr (Sum.inl (fun _ => (0 : Int64))))) (fun cA => rfl) (n := Int32.ofInt n) (by rw [show (0 : Int32) = Int32.ofInt 0 from rfl, i32_lt on in0]; omega) (clp_of on hn.1) (by show n.toNat * 8 ≤ 536870912; omega) hbud.1 hbud.2 hd (fun q cA H1 k1 p1 p2 p3 => ?_)
  have hcA : cA = kA 2 := kA_of (t := 2) hK (by omega) (k1.2 6 _ rfl).2
  subst hcA
  have := Wb_grow (qs := fun _ => q) h a1 a2 a3 a4 a5 (okS_tl a6) ⟨hbud.1, hbud.2⟩ hM hZ (cell1_ok (fun r hr => by cases hr) (by dsimp only; omega) (fun g => by dsimp only at g; omega) (by dsimp only; omega)) (show (w.length : Int) < _ by rw [List.length_append]; simp; omega) (by rw [hnew]; exact p1) (by rw [hnew]; exact p2) p3
  rw [cV_ref (by omega)] at this
  have e2 : adG ad w.length (fun _ => q) ((w.length : Int).toNat) = q := if_neg (by omega)
  rw [e2] at this
  exact this
theorem so_newa_z (C : Cx D kA ro RM id A p s m args meth c) {bp : Nat} {ls : Lc_} {st : List Vl_} {w : Wd_} {M : Mm_} {cn : Cn_} {n : Int} (hn : 0 ≤ n ∧ n ≤ 4000) (hbud : cn.1 + 1 ≤ mcOf id ∧ cn.2 + n.toNat ≤ msOf id) (hd : decode (byOf id) bp = .ok (.newarray .boolean, 2)) (h : Wb l D kA ro RM id A p e s m args below meth c n0 ad0 Z (bp + 2) ls ((2, (w.length : Int)) :: st) (w ++ [(3, n.toNat, [])]) (zeroM M w.length) (cn.1 + 1, cn.2 + n.toNat)) : Wb l D kA ro RM id A p e s m args below meth c n0 ad0 Z bp ls ((0, n) :: st) w M cn := by
  obtain ⟨hx, hb, hr, hlk, hml, hown, hnm, hts, hen, hK, hA⟩ := C
  intro ad H locs lsA a1 a2 a3 a4 a5 a6 a7
  have on : inI n := okS_hd a6
  have hM : ∀ (x : Int) j, x < w.length → zeroM M w.length x j = M x j := fun x j hx => if_neg (by omega)
  have hZ : ∀ (x : Int) j, (w.length : Int) ≤ x → zeroM M w.length x j = 0 ∨ zeroM M w.length x j = M x j := fun x j _ => zeroM_or ..
  have hnew : ∀ q : Nat, ([(3, n.toNat, [])] : Wd_).mapIdx (fun k x => (q, cC kA ro (adG ad w.length (fun _ => q)) (zeroM M w.length) ((w.length + k : Nat) : Int) x)) = [(q, .inl (kA 3, n.toNat, Sum.inl (fun _ => (0 : Int32))))] := by
    intro q
    rw [List.mapIdx_cons, List.mapIdx_nil]
    have ef : (fun j : Nat => Int32.ofInt (zeroM M w.length ((w.length + 0 : Nat) : Int) j)) = fun _ => 0 := funext fun j => by rw [show zeroM M w.length ((w.length + 0 : Nat) : Int) j = 0 from if_pos rfl]; rfl
    exact congrArg (fun f => ([(q, Sum.inl (kA 3, n.toNat, Sum.inl f))] : va_W)) ef
  refine va_newa (atype := .boolean) (ty := .boolean) hx hb (hts _ ac_boolean) rfl hK a3.1 a3.2.1 a3.2.2.1 hA (a0 := (n.toNat, Sum.inl (fun _ => (0 : Int32)))) (fun cA => rfl) (n := Int32.ofInt n) (by rw [show (0 : Int32) = Int32.ofInt 0 from rfl, i32_lt on in0]; omega) (clp_of on hn.1) (by show n.toNat * 1 ≤ 536870912; omega) hbud.1 hbud.2 hd (fun q cA H1 k1 p1 p2 p3 => ?_)
  have hcA : cA = kA 3 := kA_of (t := 3) hK (by omega) (k1.2 6 _ rfl).2
  subst hcA
  have := Wb_grow (qs := fun _ => q) h a1 a2 a3 a4 a5 (okS_tl a6) ⟨hbud.1, hbud.2⟩ hM hZ (cell1_ok (fun r hr => by cases hr) (by dsimp only; omega) (fun g => by dsimp only at g; omega) (by dsimp only; omega)) (show (w.length : Int) < _ by rw [List.length_append]; simp; omega) (by rw [hnew]; exact p1) (by rw [hnew]; exact p2) p3
  rw [cV_ref (by omega)] at this
  have e2 : adG ad w.length (fun _ => q) ((w.length : Int).toNat) = q := if_neg (by omega)
  rw [e2] at this
  exact this
theorem so_anewa (C : Cx D kA ro RM id A p s m args meth c) {bp : Nat} {ls : Lc_} {st : List Vl_} {w : Wd_} {M : Mm_} {cn : Cn_} {n : Int} {i : Nat} (hl : (ownOf id, i, 0) ∈ clL) (hn : 0 ≤ n ∧ n ≤ 4000) (hbud : cn.1 + 1 ≤ mcOf id ∧ cn.2 + n.toNat ≤ msOf id) (hd : decode (byOf id) bp = .ok (.anewarray i, 3)) (h : Wb l D kA ro RM id A p e s m args below meth c n0 ad0 Z (bp + 3) ls ((2, (w.length : Int)) :: st) (w ++ [(4, n.toNat, List.replicate n.toNat (-1))]) (zeroM M w.length) (cn.1 + 1, cn.2 + n.toNat)) : Wb l D kA ro RM id A p e s m args below meth c n0 ad0 Z bp ls ((0, n) :: st) w M cn := by
  obtain ⟨hx, hb, hr, hlk, hml, hown, hnm, hts, hen, hK, hA⟩ := C
  intro ad H locs lsA a1 a2 a3 a4 a5 a6 a7
  have on : inI n := okS_hd a6
  have hM : ∀ (x : Int) j, x < w.length → zeroM M w.length x j = M x j := fun x j hx => if_neg (by omega)
  have hZ : ∀ (x : Int) j, (w.length : Int) ≤ x → zeroM M w.length x j = 0 ∨ zeroM M w.length x j = M x j := fun x j _ => zeroM_or ..
  have hnew : ∀ q : Nat, ([(4, n.toNat, List.replicate n.toNat (-1))] : Wd_).mapIdx (fun k x => (q, cC kA ro (adG ad w.length (fun _ => q)) (zeroM M w.length) ((w.length + k : Nat) : Int) x)) = [(q, .inl (kA 4, n.toNat, .inr (.inr (.inr (.inr (fun _ => none))))))] := by
    intro q
    rw [List.mapIdx_cons, List.mapIdx_nil]
    have ef : cR ro (adG ad w.length (fun _ => q)) (List.replicate n.toNat (-1)) = fun _ => none := by
      funext j
      unfold cR
      rw [List.getElem?_replicate]
      split <;> rfl
    exact congrArg (fun f => ([(q, Sum.inl (kA 4, n.toNat, Sum.inr (Sum.inr (Sum.inr (Sum.inr f)))))] : va_W)) ef
  refine va_newq hx hb hown (hts _ (clL_ok _ hl)) hen.2.1 hK a3.1 a3.2.1 a3.2.2.1 hA (n := Int32.ofInt n) (by rw [show (0 : Int32) = Int32.ofInt 0 from rfl, i32_lt on in0]; omega) (clp_of on hn.1) (by omega) hbud.1 hbud.2 hd (fun q cA H1 k1 p1 p2 p3 => ?_)
  have hcA : cA = kA 4 := by
    obtain ⟨x1, x2, -, -, -, hf⟩ := (k1.2 6 _ rfl).2
    exact kA_of (t := 4) hK (by omega) hf
  subst hcA
  have := Wb_grow (qs := fun _ => q) h a1 a2 a3 a4 a5 (okS_tl a6) ⟨hbud.1, hbud.2⟩ hM hZ (cell1_ok (fun r hr => by have := List.eq_of_mem_replicate hr; omega) (by dsimp only; omega) (fun _ => List.length_replicate) (by dsimp only; omega)) (show (w.length : Int) < _ by rw [List.length_append]; simp; omega) (by rw [hnew]; exact p1) (by rw [hnew]; exact p2) p3
  rw [cV_ref (by omega)] at this
  have e2 : adG ad w.length (fun _ => q) ((w.length : Int).toNat) = q := if_neg (by omega)
  rw [e2] at this
  exact this
theorem outer_eq (c : ClassId) (N h0 : Nat) : ∀ i : Nat, Jvm.Free.Multi.outerC c N h0 i = arrV c N (fun j => va_rf (if j < i then some (h0 + 1 + j) else none))
  | 0 => by
    show ({ cls := c, slots := Array.replicate N .null, vm := .none } : Cell) = _
    rw [arrV_new]
    refine congrArg (arrV c N) (funext fun j => ?_)
    simp [va_rf]
  | i + 1 => by
    show (Jvm.Free.Multi.outerC c N h0 i).setSlot i (.ref (h0 + 1 + i)) = _
    rw [outer_eq c N h0 i, arrV_store]
    refine congrArg (arrV c N) (funext fun j => ?_)
    by_cases e : j = i
    · subst e
      simp [updV, va_rf]
    · by_cases h : j < i
      · simp [updV, e, h, Nat.lt_succ_of_lt h]
      · simp [updV, e, h, show ¬ j < i + 1 by omega]
theorem so_mna_int (C : Cx D kA ro RM id A p s m args meth c) {bp : Nat} {ls : Lc_} {st : List Vl_} {w : Wd_} {M : Mm_} {cn : Cn_} {n k : Int} {i : Nat} (hl : (ownOf id, i, 5) ∈ cmL) (hn : 0 ≤ n ∧ n ≤ 4000 ∧ 0 ≤ k ∧ k ≤ 4000) (hbud : cn.1 + (1 + n.toNat) ≤ mcOf id ∧ cn.2 + (n.toNat + n.toNat * k.toNat) ≤ msOf id) (hd : decode (byOf id) bp = .ok (.multianewarray i 2, 4)) (h : Wb l D kA ro RM id A p e s m args below meth c n0 ad0 Z (bp + 4) ls ((2, (w.length : Int)) :: st) (w ++ ((5, n.toNat, (List.range n.toNat).map (fun i : Nat => (w.length : Int) + 1 + (i : Int))) :: List.replicate n.toNat (1, k.toNat, []))) (fun x j => if (w.length : Int) ≤ x then 0 else M x j) (cn.1 + 1 + n.toNat, cn.2 + n.toNat + n.toNat * k.toNat)) : Wb l D kA ro RM id A p e s m args below meth c n0 ad0 Z bp ls ((0, k) :: (0, n) :: st) w M cn := by
  obtain ⟨hx, hb, hr, hlk, hml, hown, hnm, hts, hen, hK, hA⟩ := C
  intro ad H locs lsA a1 a2 a3 a4 a5 a6 a7
  have ok : inI k := okS_hd a6
  have on : inI n := okS_hd (okS_tl a6)
  have en : (Int32.ofInt n).toNatClampNeg = n.toNat := clp_of on hn.1
  have ek : (Int32.ofInt k).toNatClampNeg = k.toNat := clp_of ok hn.2.2.1
  intro T hT X
  obtain ⟨vm₁, cA, comp, -, fA, fC, hO, -, X', step⟩ := X.multianewarray2F hx (ty := .int) hown (hts _ (cmL_ok _ hl)) hen.2.2.1 (hts _ ac_int) (g := F0 m bp lsA (.int (Int32.ofInt k) :: .int (Int32.ofInt n) :: st.map (cV ro ad))) rfl (by rw [hb]; exact hd) rfl (by rw [show (0 : Int32) = Int32.ofInt 0 from rfl, i32_lt on in0]; omega) (by rw [show (0 : Int32) = Int32.ofInt 0 from rfl, i32_lt ok in0]; omega) (by rw [en]; omega) (by rw [ek]; show k.toNat * 4 ≤ _; omega) (by rw [ek]; omega) rfl rfl (by rw [en]; exact hbud.1) (by rw [en, ek]; exact hbud.2)
  have hcA : cA = kA 5 := kA_of (t := 5) hK (by omega) fA
  have hcB : comp = kA 1 := kA_of (t := 1) hK (by omega) fC
  subst hcA
  subst hcB
  rw [en, ek] at X' step
  generalize hF : Jvm.Free.Multi.fill (T.setVm vm₁) (kA 5) (kA 1) n.toNat k.toNat (defaultValue .int) n.toNat = F at X' step
  have hTh : (T.setVm vm₁).heap = H := hT
  obtain ⟨f1, f2, -, -⟩ := Jvm.Free.Multi.fill_facts (T.setVm vm₁) (kA 5) (kA 1) n.toNat k.toNat (defaultValue .int) n.toNat
  rw [hF, hTh] at f1 f2
  have hold : ∀ x : Nat, x < H.size → F.heap[x]? = H[x]? := fun x hx => by
    have := Jvm.Free.Multi.fill_old (T.setVm vm₁) (kA 5) (kA 1) n.toNat k.toNat (defaultValue .int) (a := x) (by rw [hTh]; exact hx) n.toNat
    rw [hF, hTh] at this
    exact this
  have hrow : ∀ j : Nat, j < n.toNat → F.heap[H.size + 1 + j]? = some (Jvm.Free.Multi.innerC (kA 1) k.toNat (defaultValue .int)) := fun j hj => by
    have := Jvm.Free.Multi.fill_inner (T.setVm vm₁) (kA 5) (kA 1) n.toNat k.toNat (defaultValue .int) n.toNat j hj
    rw [hF, hTh] at this
    exact this
  rw [outer_eq] at f2
  have hM : ∀ (x : Int) j, x < w.length → (fun (x j : Int) => if (w.length : Int) ≤ x then 0 else M x j) x j = M x j := fun x j hx => if_neg (by omega)
  have hZ : ∀ (x : Int) j, (w.length : Int) ≤ x → (fun (x j : Int) => if (w.length : Int) ≤ x then 0 else M x j) x j = 0 ∨ (fun (x j : Int) => if (w.length : Int) ≤ x then 0 else M x j) x j = M x j := fun x j hx => Or.inl (if_pos hx)
  generalize hcs : (((5, n.toNat, (List.range n.toNat).map (fun i : Nat => (w.length : Int) + 1 + (i : Int))) :: List.replicate n.toNat (1, k.toNat, [])) : Wd_) = cs at h
  have hcl : cs.length = n.toNat + 1 := by rw [← hcs, List.length_cons, List.length_replicate]
  have hcat : ∀ j x, cs[j]? = some x → (j = 0 ∧ x = (5, n.toNat, (List.range n.toNat).map (fun i : Nat => (w.length : Int) + 1 + (i : Int)))) ∨ (∃ i, j = i + 1 ∧ i < n.toNat ∧ x = (1, k.toNat, [])) := by
    intro j x hj
    rw [← hcs] at hj
    cases j with
    | zero => rw [List.getElem?_cons_zero] at hj; exact Or.inl ⟨rfl, (Option.some.inj hj).symm⟩
    | succ i =>
      rw [List.getElem?_cons_succ, List.getElem?_replicate] at hj
      split at hj
      · exact Or.inr ⟨i, rfl, by assumption, (Option.some.inj hj).symm⟩
      · cases hj
  have hcok : ∀ x ∈ cs, (∀ r ∈ x.2.2, r < ((w ++ cs).length : Int)) ∧ (x.1 = 0 → x.2.1 < cls_.length ∧ x.2.2.length = nF x.2.1) ∧ (4 ≤ x.1 → x.2.2.length = x.2.1) ∧ x.1 ≤ 6 := by
    intro x hx
    obtain ⟨j, hj⟩ := List.getElem?_of_mem hx
    rcases hcat j x hj with ⟨-, rfl⟩ | ⟨i2, -, hi2, rfl⟩
    · refine ⟨fun r hr => ?_, fun g => by dsimp only at g; omega, fun _ => by dsimp only; rw [List.length_map, List.length_range], by dsimp only; omega⟩
      obtain ⟨i3, h3, rfl⟩ := List.mem_map.mp hr
      have := List.mem_range.mp h3
      rw [List.length_append, hcl]
      omega
    · exact ⟨fun r hr => (by cases hr), fun g => by dsimp only at g; omega, fun g => by dsimp only at g; omega, by dsimp only; omega⟩
  have hlt : ∀ (j : Nat) (y : Nat × va_E), (cW kA ro ad w M)[j]? = some y → y.1 < H.size := fun j y hy => (a3.1 j y hy).lt
  have hnew : ∀ (j : Nat) (y : Nat × va_E), (cs.mapIdx (fun k x => (H.size + k, cC kA ro (adG ad w.length (fun j => H.size + j)) (fun (x j : Int) => if (w.length : Int) ≤ x then 0 else M x j) ((w.length + k : Nat) : Int) x)))[j]? = some y → y.1 = H.size + j ∧ j < n.toNat + 1 ∧ va_at D cls_ y F.heap := by
    intro j y hy
    rw [List.getElem?_mapIdx] at hy
    cases hj : cs[j]? with
    | none => rw [hj] at hy; cases hy
    | some x =>
      rw [hj] at hy
      simp only [Option.map_some, Option.some.injEq] at hy
      subst hy
      refine ⟨rfl, by rw [← hcl]; exact (List.getElem?_eq_some_iff.mp hj).1, ?_⟩
      rcases hcat j x hj with ⟨rfl, rfl⟩ | ⟨i2, rfl, hi2, rfl⟩
      · show F.heap[H.size + 0]? = some (vp_cell (kA 5) (n.toNat, .inr (.inr (.inr (.inr (cR ro (adG ad w.length (fun j => H.size + j)) ((List.range n.toNat).map (fun i : Nat => (w.length : Int) + 1 + (i : Int)))))))))
        rw [Nat.add_zero, f2, vp_cell_q]
        refine congrArg (fun f => some (arrV (kA 5) n.toNat f)) (funext fun j => congrArg va_rf ?_)
        unfold cR
        rw [List.getElem?_map]
        by_cases hj2 : j < n.toNat
        · rw [if_pos hj2, List.getElem?_range hj2]
          show some (H.size + 1 + j) = adr ro _ ((w.length : Int) + 1 + (j : Int))
          unfold adr adG
          rw [if_neg (by omega), if_neg (by omega)]
          exact congrArg some (by dsimp only; omega)
        · rw [if_neg hj2, List.getElem?_eq_none (by rw [List.length_range]; omega)]
          rfl
      · show F.heap[H.size + (i2 + 1)]? = some (vp_cell (kA 1) (k.toNat, Sum.inl (fun j : Nat => Int32.ofInt (if (w.length : Int) ≤ ((w.length + (i2 + 1) : Nat) : Int) then 0 else M ((w.length + (i2 + 1) : Nat) : Int) j))))
        rw [show H.size + (i2 + 1) = H.size + 1 + i2 by omega, hrow i2 hi2]
        have ef : (fun j : Nat => Int32.ofInt (if (w.length : Int) ≤ ((w.length + (i2 + 1) : Nat) : Int) then 0 else M ((w.length + (i2 + 1) : Nat) : Int) j)) = fun _ => 0 := funext fun j => by rw [if_pos (by omega)]; rfl
        rw [ef]
        refine congrArg some ?_
        show ({ cls := kA 1, slots := Array.replicate k.toNat (defaultValue .int), vm := .none } : Cell) = _
        rw [arrV_new]
        rfl
  have hP : va_P D cls_ (cW kA ro ad w M ++ cs.mapIdx (fun k x => (H.size + k, cC kA ro (adG ad w.length (fun j => H.size + j)) (fun (x j : Int) => if (w.length : Int) ≤ x then 0 else M x j) ((w.length + k : Nat) : Int) x))) F.heap := by
    intro j y hy
    rw [List.getElem?_append] at hy
    split at hy
    · exact (a3.1 j y hy).kept (hold _ (hlt j y hy))
    · exact (hnew _ y hy).2.2
  have hD : va_D A (cW kA ro ad w M ++ cs.mapIdx (fun k x => (H.size + k, cC kA ro (adG ad w.length (fun j => H.size + j)) (fun (x j : Int) => if (w.length : Int) ≤ x then 0 else M x j) ((w.length + k : Nat) : Int) x))) := by
    refine ⟨fun i j x y hi hj hxy => ?_, fun j y hy => ?_⟩
    · rw [List.getElem?_append] at hi hj
      split at hi <;> split at hj
      · exact a3.2.1.1 i j x y hi hj hxy
      · have q1 := hlt i x hi
        have q2 := (hnew _ y hj).1
        omega
      · have q1 := hlt j y hj
        have q2 := (hnew _ x hi).1
        omega
      · have q1 := (hnew _ x hi).1
        have q2 := (hnew _ y hj).1
        omega
    · rw [List.getElem?_append] at hy
      split at hy
      · exact a3.2.1.2 j y hy
      · have q2 := (hnew _ y hy).1
        exact hA _ (by have := a3.2.2.1.1; omega)
  have hS : va_S A s.heap F.heap locs := ⟨by have := a3.2.2.1.1; omega, fun q hq hn => (hold q (by have := a3.2.2.1.1; omega)).trans (a3.2.2.1.2.1 q hq hn), a3.2.2.1.2.2⟩
  have hk := Wb_grow (qs := fun j => H.size + j) h a1 a2 a3 a4 a5 (okS_tl (okS_tl a6)) ⟨by have := hbud.1; dsimp only; omega, by have := hbud.2; dsimp only; omega⟩ hM hZ hcok (show (w.length : Int) < _ by rw [List.length_append, hcl]; omega) hP hD hS
  rw [cV_ref (by omega)] at hk
  have e2 : adG ad w.length (fun j => H.size + j) ((w.length : Int).toNat) = H.size := by
    unfold adG
    rw [if_neg (by omega)]
    dsimp only
    omega
  rw [e2] at hk
  obtain ⟨t, b1, b2⟩ := hk F rfl X'
  exact ⟨t, step t (by rw [hT]; exact b1), b2⟩
theorem so_mna_long (C : Cx D kA ro RM id A p s m args meth c) {bp : Nat} {ls : Lc_} {st : List Vl_} {w : Wd_} {M : Mm_} {cn : Cn_} {n k : Int} {i : Nat} (hl : (ownOf id, i, 6) ∈ cmL) (hn : 0 ≤ n ∧ n ≤ 4000 ∧ 0 ≤ k ∧ k ≤ 4000) (hbud : cn.1 + (1 + n.toNat) ≤ mcOf id ∧ cn.2 + (n.toNat + n.toNat * k.toNat) ≤ msOf id) (hd : decode (byOf id) bp = .ok (.multianewarray i 2, 4)) (h : Wb l D kA ro RM id A p e s m args below meth c n0 ad0 Z (bp + 4) ls ((2, (w.length : Int)) :: st) (w ++ ((6, n.toNat, (List.range n.toNat).map (fun i : Nat => (w.length : Int) + 1 + (i : Int))) :: List.replicate n.toNat (2, k.toNat, []))) (fun x j => if (w.length : Int) ≤ x then 0 else M x j) (cn.1 + 1 + n.toNat, cn.2 + n.toNat + n.toNat * k.toNat)) : Wb l D kA ro RM id A p e s m args below meth c n0 ad0 Z bp ls ((0, k) :: (0, n) :: st) w M cn := by
  obtain ⟨hx, hb, hr, hlk, hml, hown, hnm, hts, hen, hK, hA⟩ := C
  intro ad H locs lsA a1 a2 a3 a4 a5 a6 a7
  have ok : inI k := okS_hd a6
  have on : inI n := okS_hd (okS_tl a6)
  have en : (Int32.ofInt n).toNatClampNeg = n.toNat := clp_of on hn.1
  have ek : (Int32.ofInt k).toNatClampNeg = k.toNat := clp_of ok hn.2.2.1
  intro T hT X
  obtain ⟨vm₁, cA, comp, -, fA, fC, hO, -, X', step⟩ := X.multianewarray2F hx (ty := .long) hown (hts _ (cmL_ok _ hl)) hen.2.2.2.1 (hts _ ac_long) (g := F0 m bp lsA (.int (Int32.ofInt k) :: .int (Int32.ofInt n) :: st.map (cV ro ad))) rfl (by rw [hb]; exact hd) rfl (by rw [show (0 : Int32) = Int32.ofInt 0 from rfl, i32_lt on in0]; omega) (by rw [show (0 : Int32) = Int32.ofInt 0 from rfl, i32_lt ok in0]; omega) (by rw [en]; omega) (by rw [ek]; show k.toNat * 8 ≤ _; omega) (by rw [ek]; omega) rfl rfl (by rw [en]; exact hbud.1) (by rw [en, ek]; exact hbud.2)
  have hcA : cA = kA 6 := kA_of (t := 6) hK (by omega) fA
  have hcB : comp = kA 2 := kA_of (t := 2) hK (by omega) fC
  subst hcA
  subst hcB
  rw [en, ek] at X' step
  generalize hF : Jvm.Free.Multi.fill (T.setVm vm₁) (kA 6) (kA 2) n.toNat k.toNat (defaultValue .long) n.toNat = F at X' step
  have hTh : (T.setVm vm₁).heap = H := hT
  obtain ⟨f1, f2, -, -⟩ := Jvm.Free.Multi.fill_facts (T.setVm vm₁) (kA 6) (kA 2) n.toNat k.toNat (defaultValue .long) n.toNat
  rw [hF, hTh] at f1 f2
  have hold : ∀ x : Nat, x < H.size → F.heap[x]? = H[x]? := fun x hx => by
    have := Jvm.Free.Multi.fill_old (T.setVm vm₁) (kA 6) (kA 2) n.toNat k.toNat (defaultValue .long) (a := x) (by rw [hTh]; exact hx) n.toNat
    rw [hF, hTh] at this
    exact this
  have hrow : ∀ j : Nat, j < n.toNat → F.heap[H.size + 1 + j]? = some (Jvm.Free.Multi.innerC (kA 2) k.toNat (defaultValue .long)) := fun j hj => by
    have := Jvm.Free.Multi.fill_inner (T.setVm vm₁) (kA 6) (kA 2) n.toNat k.toNat (defaultValue .long) n.toNat j hj
    rw [hF, hTh] at this
    exact this
  rw [outer_eq] at f2
  have hM : ∀ (x : Int) j, x < w.length → (fun (x j : Int) => if (w.length : Int) ≤ x then 0 else M x j) x j = M x j := fun x j hx => if_neg (by omega)
  have hZ : ∀ (x : Int) j, (w.length : Int) ≤ x → (fun (x j : Int) => if (w.length : Int) ≤ x then 0 else M x j) x j = 0 ∨ (fun (x j : Int) => if (w.length : Int) ≤ x then 0 else M x j) x j = M x j := fun x j hx => Or.inl (if_pos hx)
  generalize hcs : (((6, n.toNat, (List.range n.toNat).map (fun i : Nat => (w.length : Int) + 1 + (i : Int))) :: List.replicate n.toNat (2, k.toNat, [])) : Wd_) = cs at h
  have hcl : cs.length = n.toNat + 1 := by rw [← hcs, List.length_cons, List.length_replicate]
  have hcat : ∀ j x, cs[j]? = some x → (j = 0 ∧ x = (6, n.toNat, (List.range n.toNat).map (fun i : Nat => (w.length : Int) + 1 + (i : Int)))) ∨ (∃ i, j = i + 1 ∧ i < n.toNat ∧ x = (2, k.toNat, [])) := by
    intro j x hj
    rw [← hcs] at hj
    cases j with
    | zero => rw [List.getElem?_cons_zero] at hj; exact Or.inl ⟨rfl, (Option.some.inj hj).symm⟩
    | succ i =>
      rw [List.getElem?_cons_succ, List.getElem?_replicate] at hj
      split at hj
      · exact Or.inr ⟨i, rfl, by assumption, (Option.some.inj hj).symm⟩
      · cases hj
  have hcok : ∀ x ∈ cs, (∀ r ∈ x.2.2, r < ((w ++ cs).length : Int)) ∧ (x.1 = 0 → x.2.1 < cls_.length ∧ x.2.2.length = nF x.2.1) ∧ (4 ≤ x.1 → x.2.2.length = x.2.1) ∧ x.1 ≤ 6 := by
    intro x hx
    obtain ⟨j, hj⟩ := List.getElem?_of_mem hx
    rcases hcat j x hj with ⟨-, rfl⟩ | ⟨i2, -, hi2, rfl⟩
    · refine ⟨fun r hr => ?_, fun g => by dsimp only at g; omega, fun _ => by dsimp only; rw [List.length_map, List.length_range], by dsimp only; omega⟩
      obtain ⟨i3, h3, rfl⟩ := List.mem_map.mp hr
      have := List.mem_range.mp h3
      rw [List.length_append, hcl]
      omega
    · exact ⟨fun r hr => (by cases hr), fun g => by dsimp only at g; omega, fun g => by dsimp only at g; omega, by dsimp only; omega⟩
  have hlt : ∀ (j : Nat) (y : Nat × va_E), (cW kA ro ad w M)[j]? = some y → y.1 < H.size := fun j y hy => (a3.1 j y hy).lt
  have hnew : ∀ (j : Nat) (y : Nat × va_E), (cs.mapIdx (fun k x => (H.size + k, cC kA ro (adG ad w.length (fun j => H.size + j)) (fun (x j : Int) => if (w.length : Int) ≤ x then 0 else M x j) ((w.length + k : Nat) : Int) x)))[j]? = some y → y.1 = H.size + j ∧ j < n.toNat + 1 ∧ va_at D cls_ y F.heap := by
    intro j y hy
    rw [List.getElem?_mapIdx] at hy
    cases hj : cs[j]? with
    | none => rw [hj] at hy; cases hy
    | some x =>
      rw [hj] at hy
      simp only [Option.map_some, Option.some.injEq] at hy
      subst hy
      refine ⟨rfl, by rw [← hcl]; exact (List.getElem?_eq_some_iff.mp hj).1, ?_⟩
      rcases hcat j x hj with ⟨rfl, rfl⟩ | ⟨i2, rfl, hi2, rfl⟩
      · show F.heap[H.size + 0]? = some (vp_cell (kA 6) (n.toNat, .inr (.inr (.inr (.inr (cR ro (adG ad w.length (fun j => H.size + j)) ((List.range n.toNat).map (fun i : Nat => (w.length : Int) + 1 + (i : Int)))))))))
        rw [Nat.add_zero, f2, vp_cell_q]
        refine congrArg (fun f => some (arrV (kA 6) n.toNat f)) (funext fun j => congrArg va_rf ?_)
        unfold cR
        rw [List.getElem?_map]
        by_cases hj2 : j < n.toNat
        · rw [if_pos hj2, List.getElem?_range hj2]
          show some (H.size + 1 + j) = adr ro _ ((w.length : Int) + 1 + (j : Int))
          unfold adr adG
          rw [if_neg (by omega), if_neg (by omega)]
          exact congrArg some (by dsimp only; omega)
        · rw [if_neg hj2, List.getElem?_eq_none (by rw [List.length_range]; omega)]
          rfl
      · show F.heap[H.size + (i2 + 1)]? = some (vp_cell (kA 2) (k.toNat, Sum.inr (Sum.inl (fun j : Nat => Int64.ofInt (if (w.length : Int) ≤ ((w.length + (i2 + 1) : Nat) : Int) then 0 else M ((w.length + (i2 + 1) : Nat) : Int) j)))))
        rw [show H.size + (i2 + 1) = H.size + 1 + i2 by omega, hrow i2 hi2]
        have ef : (fun j : Nat => Int64.ofInt (if (w.length : Int) ≤ ((w.length + (i2 + 1) : Nat) : Int) then 0 else M ((w.length + (i2 + 1) : Nat) : Int) j)) = fun _ => 0 := funext fun j => by rw [if_pos (by omega)]; rfl
        rw [ef]
        refine congrArg some ?_
        show ({ cls := kA 2, slots := Array.replicate k.toNat (defaultValue .long), vm := .none } : Cell) = _
        rw [arrV_new]
        rfl
  have hP : va_P D cls_ (cW kA ro ad w M ++ cs.mapIdx (fun k x => (H.size + k, cC kA ro (adG ad w.length (fun j => H.size + j)) (fun (x j : Int) => if (w.length : Int) ≤ x then 0 else M x j) ((w.length + k : Nat) : Int) x))) F.heap := by
    intro j y hy
    rw [List.getElem?_append] at hy
    split at hy
    · exact (a3.1 j y hy).kept (hold _ (hlt j y hy))
    · exact (hnew _ y hy).2.2
  have hD : va_D A (cW kA ro ad w M ++ cs.mapIdx (fun k x => (H.size + k, cC kA ro (adG ad w.length (fun j => H.size + j)) (fun (x j : Int) => if (w.length : Int) ≤ x then 0 else M x j) ((w.length + k : Nat) : Int) x))) := by
    refine ⟨fun i j x y hi hj hxy => ?_, fun j y hy => ?_⟩
    · rw [List.getElem?_append] at hi hj
      split at hi <;> split at hj
      · exact a3.2.1.1 i j x y hi hj hxy
      · have q1 := hlt i x hi
        have q2 := (hnew _ y hj).1
        omega
      · have q1 := hlt j y hj
        have q2 := (hnew _ x hi).1
        omega
      · have q1 := (hnew _ x hi).1
        have q2 := (hnew _ y hj).1
        omega
    · rw [List.getElem?_append] at hy
      split at hy
      · exact a3.2.1.2 j y hy
      · have q2 := (hnew _ y hy).1
        exact hA _ (by have := a3.2.2.1.1; omega)
  have hS : va_S A s.heap F.heap locs := ⟨by have := a3.2.2.1.1; omega, fun q hq hn => (hold q (by have := a3.2.2.1.1; omega)).trans (a3.2.2.1.2.1 q hq hn), a3.2.2.1.2.2⟩
  have hk := Wb_grow (qs := fun j => H.size + j) h a1 a2 a3 a4 a5 (okS_tl (okS_tl a6)) ⟨by have := hbud.1; dsimp only; omega, by have := hbud.2; dsimp only; omega⟩ hM hZ hcok (show (w.length : Int) < _ by rw [List.length_append, hcl]; omega) hP hD hS
  rw [cV_ref (by omega)] at hk
  have e2 : adG ad w.length (fun j => H.size + j) ((w.length : Int).toNat) = H.size := by
    unfold adG
    rw [if_neg (by omega)]
    dsimp only
    omega
  rw [e2] at hk
  obtain ⟨t, b1, b2⟩ := hk F rfl X'
  exact ⟨t, step t (by rw [hT]; exact b1), b2⟩
end SN8
