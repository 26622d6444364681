section SN5
variable {l : Launch} {D : va_G} {kA : Nat → ClassId} {ro : Int → Option Nat} {RM : Mm_} {id : Nat} {A : Nat → Prop} {p : Program} {e : Env} {s : State} {m : MethodId} {args : Array Value} {below : List Frame} {meth : Method} {c : Code} {n0 : Nat} {ad0 : Nat → Nat} {Z : State → Prop}
theorem cW_len {ad : Nat → Nat} {w : Wd_} {M : Mm_} : (cW kA ro ad w M).length = w.length := by
  unfold cW
  exact List.length_mapIdx
theorem cW_get {ad : Nat → Nat} {w : Wd_} {M : Mm_} (i : Nat) : (cW kA ro ad w M)[i]? = (w[i]?).map (fun x => (ad i, cC kA ro ad M i x)) := by
  unfold cW
  rw [List.getElem?_mapIdx]
theorem cW_set {ad : Nat → Nat} {w : Wd_} {M : Mm_} {q i x : Int} {c0 : Cl_} (h0 : 0 ≤ q) (hw : w[q.toNat]? = some c0) : cW kA ro ad w (updM M q i x) = (cW kA ro ad w M).set q.toNat (ad q.toNat, cC kA ro ad (updM M q i x) q c0) := by
  have eq0 : ((q.toNat : Nat) : Int) = q := Int.toNat_of_nonneg h0
  apply List.ext_getElem?
  intro n
  rw [List.getElem?_set, cW_get, cW_get, cW_len]
  by_cases hn : q.toNat = n
  · subst hn
    rw [if_pos rfl, if_pos (List.getElem?_eq_some_iff.mp hw).1, hw]
    simp only [Option.map_some, eq0]
  · rw [if_neg hn]
    cases w[n]? with
    | none => rfl
    | some y =>
      simp only [Option.map_some, Option.some.injEq, Prod.mk.injEq, true_and]
      exact cC_cong fun j => if_neg fun hh => hn (by omega)
def isRf : FieldType → Bool
  | .object _ => true
  | .array _ => true
  | _ => false
def ftyC (a b : Nat) : Bool := match fTag a b with
  | 0 => decide (ftyOf a b = .int)
  | 1 => decide (ftyOf a b = .long)
  | 3 => decide (ftyOf a b = .boolean)
  | 2 => isRf (ftyOf a b)
  | _ => false
theorem ftyC_ok : (List.range 13).all (fun a => (List.range (nF a)).all (fun b => ftyC a b)) = true := by decide +kernel
theorem ftyC_at {a b : Nat} (ha : a < cls_.length) (hb : b < nF a) : ftyC a b = true := List.all_eq_true.mp (List.all_eq_true.mp ftyC_ok a (List.mem_range.mpr ha)) b (List.mem_range.mpr hb)
theorem rf_nar {ty : FieldType} (h : isRf ty = true) (o : Option Nat) : narrow ty (va_rf o) = va_rf o ∧ fits ty (va_rf o) = true := by
  cases ty <;> first | (cases o <;> exact ⟨rfl, rfl⟩) | cases h
/-- a field is written: v, into the cells w', M' -/
theorem so_put (C : Cx D kA ro RM id A p s m args meth c) {bp : Nat} {ls : Lc_} {st : List Vl_} {w w' : Wd_} {M M' : Mm_} {cn : Cn_} {q : Int} {a b i : Nat} {v : Vl_} (h13 : a ≠ 13) (hob : obK w q = some a) (hf : fdOK (ownOf id) i a b = true)
    (hfin : (match (fdr a b).2.2.2 with | true => decide ((yOf id).name = "<init>") && decide ((fdr a b).1 = owN (ownOf id)) && decide ((ownOf id, i, a, b) ∈ flL) | false => true) = true)
    (hty : ∀ ad : Nat → Nat, narrow (ftyOf a b) (cV ro ad v) = cV ro ad v ∧ fits (ftyOf a b) (cV ro ad v) = true)
    (hw' : w'.length = w.length) (hWI : WI RM w M → okV w v → WI RM w' M') (hok : ∀ x, okV w x → okV w' x)
    (hset : ∀ (ad : Nat → Nat) (rs : List Int), w[q.toNat]? = some (0, a, rs) → WI RM w M → cW kA ro ad w' M' = (cW kA ro ad w M).set q.toNat (ad q.toNat, .inr (a, ((List.range (nF a)).map (cF ro ad M q a rs)).set b (cV ro ad v))))
    (hd : decode (byOf id) bp = .ok (.putfield i, 3)) (h : Wb l D kA ro RM id A p e s m args below meth c n0 ad0 Z (bp + 3) ls st w' M' cn) : Wb l D kA ro RM id A p e s m args below meth c n0 ad0 Z bp ls (v :: (2, q) :: st) w M cn := by
  obtain ⟨hx, hb, hr, hlk, hml, hown, hnm, hts, hen, hK, hA⟩ := C
  intro ad H locs lsA a1 a2 a3 a4 a5 a6 a7
  obtain ⟨h0, rs, hw⟩ := obK_el hob h13
  have hk := fun (H1 : Heap) (locs1 : List Loc) (r1 : Rl D kA ro RM A ad s.heap w' M' H1 locs1) => h ad H1 locs1 lsA (by rw [hw']; exact a1) a2 r1 a4 (fun j y hy => hok _ (a5 j y hy)) (fun y hy => hok _ (okS_tl (okS_tl a6) y hy)) a7
  have hwi := hWI a3.2.2.2 (okS_hd a6)
  simp only [fdOK, Bool.and_eq_true, Bool.or_eq_true, decide_eq_true_eq] at hf
  obtain ⟨⟨hl, hbn⟩, hal⟩ := hf
  obtain ⟨r, hr2⟩ : ∃ r, cls_[a]? = some r := ⟨cls_[a], List.getElem?_eq_getElem hal⟩
  obtain ⟨k1, k2, k3, k4, k5, k6, k7⟩ := ck_ok a r hr2
  have hfd : fdr a b = r.2.1 b := by
    unfold fdr
    rw [List.getD_eq_getElem?_getD, hr2]
    rfl
  have he := cW_at (kA := kA) (ro := ro) (ad := ad) (M := M) hw
  have eq0 : ((q.toNat : Nat) : Int) = q := Int.toNat_of_nonneg h0
  change _ = some (ad q.toNat, Sum.inr (a, (List.range (nF a)).map (cF ro ad M ((q.toNat : Nat) : Int) a rs))) at he
  rw [eq0] at he
  have hlen : b < ((List.range (nF a)).map (cF ro ad M q a rs)).length := by
    rw [List.length_map, List.length_range]
    exact hbn
  have hs := hset ad rs hw a3.2.2.2
  rw [List.map_cons, List.map_cons, cV_ref h0]
  rw [hfd] at hfin
  have hkk : ∀ (H1 : Heap) (locs1 : List Loc), va_P D cls_ ((cW kA ro ad w M).set q.toNat (ad q.toNat, .inr (a, ((List.range (nF a)).map (cF ro ad M q a rs)).set b (cV ro ad v)))) H1 → va_D A ((cW kA ro ad w M).set q.toNat (ad q.toNat, .inr (a, ((List.range (nF a)).map (cF ro ad M q a rs)).set b (cV ro ad v)))) → va_S A s.heap H1 locs1 → W p l e (rmOf id) s m args below meth c H1 locs1 cn.1 cn.2 Z (F0 m (bp + 3) lsA (st.map (cV ro ad))) := fun H1 locs1 p1 p2 p3 => hk H1 locs1 ⟨by rw [hs]; exact p1, by rw [hs]; exact p2, p3, hwi⟩
  cases hfl : (r.2.1 b).2.2.2 with
  | true =>
    rw [hfl] at hfin
    simp only [Bool.and_eq_true, decide_eq_true_eq] at hfin
    obtain ⟨⟨f1, f2⟩, f3⟩ := hfin
    have hlw := hts _ (flL_ok _ f3)
    dsimp only at hlw
    rw [hfd] at hlw
    exact va_putF (C := r.1) (T := r.2.1) (N := r.2.2) hx hb hts k1 (ftyOf a) k3 k2 hown hK a3.1 a3.2.1 a3.2.2.1 q.toNat he hr2 b (by rw [k6]; exact hbn) hlw (fun _ h9 => h9) hfl (hnm f1) f2 (k3 b (by rw [k6]; exact hbn)) (hty ad).1 (hty ad).2 hlen hd hkk
  | false =>
    rcases hl with hl | hl
    · have hlw := hts _ (flL_ok _ hl)
      dsimp only at hlw
      rw [hfd] at hlw
      exact va_put (C := r.1) (T := r.2.1) (N := r.2.2) hx hb hts k1 (ftyOf a) k3 k2 hown hK a3.1 a3.2.1 a3.2.2.1 q.toNat he hr2 b (by rw [k6]; exact hbn) hlw (fun _ h9 => h9) hfl (k3 b (by rw [k6]; exact hbn)) (hty ad).1 (hty ad).2 hlen hd hkk
    · have hlw := va_Nw.use rfl (A := args) (hen.1 _ (fnL_ok _ hl))
      dsimp only at hlw
      rw [hfd] at hlw
      exact va_putN (C := r.1) (T := r.2.1) (N := r.2.2) hx hb hts k1 (ftyOf a) k3 k2 hown hK a3.1 a3.2.1 a3.2.2.1 q.toNat he hr2 b (by rw [k6]; exact hbn) hlw (fun _ h9 => h9) hfl (k3 b (by rw [k6]; exact hbn)) (hty ad).1 (hty ad).2 hlen hd hkk
theorem cF_upd {ad : Nat → Nat} {M : Mm_} {q x : Int} {a b : Nat} {rs : List Int} {v : Value} (hv : cF ro ad (updM M q b x) q a rs b = v) : (List.range (nF a)).map (cF ro ad (updM M q b x) q a rs) = ((List.range (nF a)).map (cF ro ad M q a rs)).set b v := by
  apply List.ext_getElem?
  intro n
  rw [List.getElem?_set, List.getElem?_map, List.getElem?_map, List.length_map, List.length_range]
  by_cases hn : b = n
  · subst hn
    rw [if_pos rfl]
    by_cases hlt : b < nF a
    · rw [if_pos hlt, List.getElem?_range hlt]
      simp only [Option.map_some, hv]
    · rw [if_neg hlt, List.getElem?_eq_none (by rw [List.length_range]; omega)]
      rfl
  · rw [if_neg hn]
    by_cases hlt : n < nF a
    · rw [List.getElem?_range hlt]
      simp only [Option.map_some, Option.some.injEq]
      unfold cF
      rw [show updM M q b x q n = M q n from if_neg fun hh => hn (by omega)]
    · rw [List.getElem?_eq_none (by rw [List.length_range]; omega)]
      rfl
theorem okV_len {w w' : Wd_} (h : w'.length = w.length) {x : Vl_} (hx : okV w x) : okV w' x := by
  obtain ⟨t, x⟩ := x
  match t with
  | 0 => exact hx
  | 1 => exact hx
  | t + 2 =>
    show x < w'.length
    rw [h]
    exact hx
theorem setR_len (w : Wd_) (r : Int) (k : Nat) (q : Int) : (setR w r k q).length = w.length := by
  unfold setR
  exact List.length_modify ..
theorem setR_at (w : Wd_) (r : Int) (k : Nat) (q : Int) (n : Nat) : (setR w r k q)[n]? = (w[n]?).map (fun c => if r.toNat = n then (c.1, c.2.1, c.2.2.set k q) else c) := by
  unfold setR
  rw [List.getElem?_modify]
  cases w[n]? with
  | none => rfl
  | some y =>
    simp only [Option.map_eq_map, Option.map_some, Option.some.injEq]
theorem lg_setR (w : Wd_) (r : Int) (k : Nat) (q a j : Int) : isLg (setR w r k q) a j = isLg w a j := by
  unfold isLg
  split
  · rfl
  · rw [setR_at]
    cases hw : w[a.toNat]? with
    | none => rfl
    | some y =>
      obtain ⟨t, n, rs⟩ := y
      simp only [Option.map_some]
      by_cases hr : r.toNat = a.toNat
      · rw [if_pos hr]
        match t with
        | 0 => rfl
        | 1 => rfl
        | 2 => rfl
        | t + 3 => rfl
      · rw [if_neg hr]
theorem WI.setR {w : Wd_} {M : Mm_} {r x : Int} {k : Nat} (h : WI RM w M) (hx : x < w.length) : WI RM (setR w r k x) M := by
  obtain ⟨a1, a2, a3, a4⟩ := h
  refine ⟨fun i c0 hc => ?_, a2, fun a j hl => a3 a j (by rw [lg_setR] at hl; exact hl), a4⟩
  rw [setR_at] at hc
  cases hw : w[i]? with
  | none => rw [hw] at hc; cases hc
  | some y =>
    rw [hw] at hc
    simp only [Option.map_some, Option.some.injEq] at hc
    obtain ⟨b1, b2, b3, b4⟩ := a1 i y hw
    rw [setR_len]
    split at hc
    · subst hc
      refine ⟨fun r2 hr2 => ?_, fun e => ?_, fun e => ?_, b4⟩
      · rcases List.mem_or_eq_of_mem_set hr2 with g | g
        · exact b1 r2 g
        · rw [g]; exact hx
      · rw [List.length_set]; exact b2 e
      · rw [List.length_set]; exact b3 e
    · subst hc
      exact ⟨b1, b2, b3, b4⟩
theorem so_putI (C : Cx D kA ro RM id A p s m args meth c) {bp : Nat} {ls : Lc_} {st : List Vl_} {w : Wd_} {M : Mm_} {cn : Cn_} {q x : Int} {a b i : Nat} (h13 : a ≠ 13) (hob : obK w q = some a) (hf : fdOK (ownOf id) i a b = true)
    (hfin : (match (fdr a b).2.2.2 with | true => decide ((yOf id).name = "<init>") && decide ((fdr a b).1 = owN (ownOf id)) && decide ((ownOf id, i, a, b) ∈ flL) | false => true) = true)
    (ht : fTag a b = 0 ∨ (fTag a b = 3 ∧ (x = 0 ∨ x = 1))) (hd : decode (byOf id) bp = .ok (.putfield i, 3)) (h : Wb l D kA ro RM id A p e s m args below meth c n0 ad0 Z (bp + 3) ls st w (updM M q b x) cn) : Wb l D kA ro RM id A p e s m args below meth c n0 ad0 Z bp ls ((0, x) :: (2, q) :: st) w M cn := by
  obtain ⟨h0, rs0, hw0⟩ := obK_el hob h13
  have hfd := hf
  simp only [fdOK, Bool.and_eq_true, Bool.or_eq_true, decide_eq_true_eq] at hfd
  have hc := ftyC_at hfd.2 hfd.1.2
  have hlg : isLg w q b = false := by
    rw [lg_obj h0 hw0]
    rcases ht with g | ⟨g, -⟩ <;> rw [g] <;> rfl
  refine so_put C h13 hob hf hfin (fun ad => ?_) rfl (fun g1 g2 => g1.upd h0 (inI_L g2) (fun _ => g2)) (fun _ g => g) (fun ad rs hw _ => ?_) hd h
  · unfold ftyC at hc
    rcases ht with g | ⟨g, g2⟩
    · rw [g] at hc
      rw [of_decide_eq_true hc]
      exact ⟨rfl, rfl⟩
    · rw [g] at hc
      rw [of_decide_eq_true hc]
      rcases g2 with g2 | g2 <;> rw [g2] <;> exact ⟨rfl, rfl⟩
  · rw [cW_set h0 hw]
    show List.set _ _ (_, Sum.inr (a, (List.range (nF a)).map (cF ro ad (updM M q b x) q a rs))) = _
    rw [cF_upd (v := .int (Int32.ofInt x))]
    · rfl
    · unfold cF
      rw [show updM M q b x q b = x from if_pos ⟨rfl, rfl⟩]
      rcases ht with g | ⟨g, -⟩ <;> rw [g] <;> try rfl
theorem so_putL (C : Cx D kA ro RM id A p s m args meth c) {bp : Nat} {ls : Lc_} {st : List Vl_} {w : Wd_} {M : Mm_} {cn : Cn_} {q x : Int} {a b i : Nat} (h13 : a ≠ 13) (hob : obK w q = some a) (hf : fdOK (ownOf id) i a b = true)
    (hfin : (match (fdr a b).2.2.2 with | true => decide ((yOf id).name = "<init>") && decide ((fdr a b).1 = owN (ownOf id)) && decide ((ownOf id, i, a, b) ∈ flL) | false => true) = true)
    (ht : fTag a b = 1) (hd : decode (byOf id) bp = .ok (.putfield i, 3)) (h : Wb l D kA ro RM id A p e s m args below meth c n0 ad0 Z (bp + 3) ls st w (updM M q b x) cn) : Wb l D kA ro RM id A p e s m args below meth c n0 ad0 Z bp ls ((1, x) :: (2, q) :: st) w M cn := by
  obtain ⟨h0, rs0, hw0⟩ := obK_el hob h13
  have hfd := hf
  simp only [fdOK, Bool.and_eq_true, Bool.or_eq_true, decide_eq_true_eq] at hfd
  have hc := ftyC_at hfd.2 hfd.1.2
  have hlg : isLg w q b = true := by
    rw [lg_obj h0 hw0, ht]; rfl
  refine so_put C h13 hob hf hfin (fun ad => ?_) rfl (fun g1 g2 => g1.upd h0 g2 (fun g => by rw [hlg] at g; cases g)) (fun _ g => g) (fun ad rs hw _ => ?_) hd h
  · unfold ftyC at hc
    rw [ht] at hc
    rw [of_decide_eq_true hc]
    exact ⟨rfl, rfl⟩
  · rw [cW_set h0 hw]
    show List.set _ _ (_, Sum.inr (a, (List.range (nF a)).map (cF ro ad (updM M q b x) q a rs))) = _
    rw [cF_upd (v := .long (Int64.ofInt x))]
    · rfl
    · unfold cF
      rw [show updM M q b x q b = x from if_pos ⟨rfl, rfl⟩, ht]
      try rfl
theorem so_putR (C : Cx D kA ro RM id A p s m args meth c) {bp : Nat} {ls : Lc_} {st : List Vl_} {w : Wd_} {M : Mm_} {cn : Cn_} {q x : Int} {a b i : Nat} (h13 : a ≠ 13) (hob : obK w q = some a) (hf : fdOK (ownOf id) i a b = true)
    (hfin : (match (fdr a b).2.2.2 with | true => decide ((yOf id).name = "<init>") && decide ((fdr a b).1 = owN (ownOf id)) && decide ((ownOf id, i, a, b) ∈ flL) | false => true) = true)
    (ht : fTag a b = 2) (hd : decode (byOf id) bp = .ok (.putfield i, 3)) (h : Wb l D kA ro RM id A p e s m args below meth c n0 ad0 Z (bp + 3) ls st (setR w q b x) M cn) : Wb l D kA ro RM id A p e s m args below meth c n0 ad0 Z bp ls ((2, x) :: (2, q) :: st) w M cn := by
  obtain ⟨h0, rs0, hw0⟩ := obK_el hob h13
  have hfd := hf
  simp only [fdOK, Bool.and_eq_true, Bool.or_eq_true, decide_eq_true_eq] at hfd
  have hc := ftyC_at hfd.2 hfd.1.2
  refine so_put C h13 hob hf hfin (fun ad => ?_) (setR_len ..) (fun g1 g2 => g1.setR g2) (fun y g => okV_len (setR_len ..) g) (fun ad rs hw hwi => ?_) hd h
  · unfold ftyC at hc
    rw [ht] at hc
    exact rf_nar hc _
  · have hlen : rs.length = nF a := (((hwi.1 _ _ hw).2.1) rfl).2
    apply List.ext_getElem?
    intro n
    rw [List.getElem?_set, cW_get, cW_get, cW_len, setR_at]
    by_cases hn : q.toNat = n
    · subst hn
      rw [if_pos rfl, if_pos (List.getElem?_eq_some_iff.mp hw).1, hw]
      simp only [Option.map_some, if_true, Option.some.injEq, Prod.mk.injEq, true_and]
      show Sum.inr (a, (List.range (nF a)).map (cF ro ad M ((q.toNat : Nat) : Int) a (rs.set b x))) = _
      rw [Int.toNat_of_nonneg h0]
      congr 2
      apply List.ext_getElem?
      intro k
      rw [List.getElem?_set, List.getElem?_map, List.getElem?_map, List.length_map, List.length_range]
      by_cases hk : b = k
      · subst hk
        rw [if_pos rfl, if_pos hfd.1.2, List.getElem?_range hfd.1.2]
        simp only [Option.map_some, Option.some.injEq]
        unfold cF
        rw [ht]
        show va_rf (adr ro ad ((rs.set b x).getD b (-1))) = cV ro ad (2, x)
        rw [List.getD_eq_getElem?_getD, List.getElem?_set, if_pos rfl, if_pos (by rw [hlen]; exact hfd.1.2)]
        rfl
      · rw [if_neg hk]
        by_cases hlt : k < nF a
        · rw [List.getElem?_range hlt]
          simp only [Option.map_some, Option.some.injEq]
          unfold cF
          rw [List.getD_eq_getElem?_getD, List.getElem?_set, if_neg hk, ← List.getD_eq_getElem?_getD]
        · rw [List.getElem?_eq_none (by rw [List.length_range]; omega)]
          rfl
    · rw [if_neg hn]
      cases w[n]? with
      | none => rfl
      | some y => simp only [Option.map_some, if_neg hn]
end SN5
