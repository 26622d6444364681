section SNA
variable {l : Launch} {D : va_G} {kA : Nat → ClassId} {ro : Int → Option Nat} {RM : Mm_} {id : Nat} {A : Nat → Prop} {p : Program} {e : Env} {s : State} {m : MethodId} {args : Array Value} {below : List Frame} {meth : Method} {c : Code} {n0 : Nat} {ad0 : Nat → Nat} {Z : State → Prop}
theorem cV_ext {ad ad' : Nat → Nat} {w : Wd_} {v : Vl_} (h : ∀ i, i < w.length → ad' i = ad i) (hv : okV w v) : cV ro ad' v = cV ro ad v := by
  obtain ⟨t, x⟩ := v
  match t with
  | 0 => rfl
  | 1 => rfl
  | t + 2 =>
    show va_rf (adr ro ad' x) = va_rf (adr ro ad x)
    have hv : x < (w.length : Int) := hv
    unfold adr
    split
    · rfl
    · rw [h _ (by omega)]
theorem okV_le {w w' : Wd_} {v : Vl_} (h : w.length ≤ w'.length) (hv : okV w v) : okV w' v := by
  obtain ⟨t, x⟩ := v
  match t with
  | 0 => exact hv
  | 1 => exact hv
  | t + 2 =>
    show x < (w'.length : Int)
    have hv : x < (w.length : Int) := hv
    omega
/-- behind a call -/
theorem W_call {bp : Nat} {ls : Lc_} {st : List Vl_} {w : Wd_} {M : Mm_} {cn : Cn_} {mc ms : Nat} {st0 : List Value} {a0 : Array Value} {ad : Nat → Nat} {H : Heap} {locs : List Loc} {lsA : Array Slot} (hA : ∀ q : Nat, s.heap.size ≤ q → A q)
    (a1 : n0 ≤ w.length) (a2 : ∀ i, i < n0 → ad i = ad0 i) (a3 : Rl D kA ro RM A ad s.heap w M H locs) (a4 : LH ro ad lsA (mxL id) ls) (a5 : okL w ls) (a6 : okS w st) (a7 : cn.1 + mc ≤ mcOf id ∧ cn.2 + ms ≤ msOf id)
    (hr : va_Run p l e (rmOf id) s m args below meth c H locs cn.1 cn.2 mc ms (F0 m bp lsA st0) (st.map (cV ro ad)) (QcP D kA ro RM (va_A (cW kA ro ad w M) H.size) w.length ad (fun v w' M' => Wb l D kA ro RM id A p e s m args below meth c n0 ad0 Z (bp + 3) ls (v.toList ++ st) w' M' (cn.1 + mc, cn.2 + ms)) a0) (va_A (cW kA ro ad w M) H.size)) :
    W p l e (rmOf id) s m args below meth c H locs cn.1 cn.2 Z (F0 m bp lsA st0) := by
  have hf : ∀ q, va_A (cW kA ro ad w M) H.size q → A q := by
    rintro q (⟨k, y, hk⟩ | hq)
    · exact a3.2.1.2 k _ hk
    · exact hA q (Nat.le_trans a3.2.2.1.1 hq)
  intro T hT X
  obtain ⟨v, st₀, t, T', L, h0, X', hL, e1, e2, ⟨⟨v', w', M', ad', hv, hq, hok, hlen, had, hP1, hD1, hK1, hWI1⟩, hz, hk⟩, hst⟩ := hr T hT X
  have hv : v = v'.map (cV ro ad') := by injection hv
  rw [h0] at hz hk
  have hcv : ∀ x, okV w x → cV ro ad' x = cV ro ad x := fun x hx => cV_ext had hx
  have hS : va_S A s.heap T'.heap (locs ++ L) := ⟨Nat.le_trans a3.2.2.1.1 (by rw [e1]; exact hz), fun q h1 h2 => by rw [e1, hk q (Nat.lt_of_lt_of_le h1 a3.2.2.1.1) (fun z => h2 (hf q z))]; exact a3.2.2.1.2.1 q h1 h2, fun q hq => by
      rcases List.mem_append.mp hq with h | h
      · exact a3.2.2.1.2.2 q h
      · exact hf _ (hL q h)⟩
  have hLH : LH ro ad' lsA (mxL id) ls := ⟨a4.1, a4.2.1, a4.2.2.1, fun i x hx => by rw [hcv x (a5 i x hx)]; exact a4.2.2.2 i x hx⟩
  have hst2 : (v'.toList ++ st).map (cV ro ad') = v.toList ++ st.map (cV ro ad) := by
    rw [List.map_append, hv]
    congr 1
    · cases v' <;> rfl
    · exact List.map_congr_left fun x hx => hcv x (a6 x hx)
  have hgo := hq ad' T'.heap (locs ++ L) lsA (by omega) (fun i hi => (had i (by omega)).trans (a2 i hi)) ⟨by rw [e1]; exact hP1, hD1.weaken (fun _ _ _ h => hf _ h), hS, hWI1⟩ hLH (fun i x hx => okV_le hlen (a5 i x hx)) (fun x hx => by
      rcases List.mem_append.mp hx with h | h
      · exact hok x (Option.mem_toList.mp h)
      · exact okV_le hlen (a6 x h)) a7
  rw [hst2] at hgo
  obtain ⟨t2, b1, b2⟩ := hgo T' rfl X'
  exact ⟨t2, hst t2 b1, b2⟩
theorem PcP_blind {ad : Nat → Nat} {as : List Vl_} {w : Wd_} {M : Mm_} {sz : Nat} : FrameBlind (PcP D kA ro RM ad as w M sz) := by
  intro a U g mk q
  obtain ⟨q0, q1, qP, qK, qD, qE⟩ := q
  exact ⟨q0, q1, qP, va_K.moved (u := U) (U := U.calling g mk a) (Vm.Alike.refl U.vm) qK, qD, qE.same rfl rfl⟩
theorem PcP_in {ad : Nat → Nat} {as : List Vl_} {w : Wd_} {M : Mm_} {H : Heap} {locs : List Loc} (hA : ∀ q : Nat, s.heap.size ≤ q → A q) (hen : EN ro RM A s) (hK : va_K D cls_ (TY kA) s) (a3 : Rl D kA ro RM A ad s.heap w M H locs) : ∀ U : State, U.heap = H → s.WarmedH U.vm → PcP D kA ro RM ad as w M H.size (as.map (cV ro ad)).toArray U := by
  intro U hU hW
  have hf : ∀ q, va_A (cW kA ro ad w M) H.size q → A q := by
    rintro q (⟨k, y, hk⟩ | hq)
    · exact a3.2.1.2 k _ hk
    · exact hA q (Nat.le_trans a3.2.2.1.1 hq)
  refine ⟨rfl, by rw [hU], by rw [hU]; exact a3.1, va_K.moved hW.alike hK, a3.2.1.weaken (fun _ _ _ _ => trivial), hen.move hW (fun q h1 h2 => ?_) hf⟩
  rw [hU]
  exact a3.2.2.1.2.1 q h1 h2
theorem cat_room {ad : Nat → Nat} {st : List Vl_} (h : catS st ≤ 8) : ((st.map (cV ro ad)).map fun v => v.category).sum ≤ 8 := by
  rw [List.map_map]
  exact Nat.le_trans (Nat.le_of_eq (congrArg List.sum (List.map_congr_left fun v _ => cV_cat ro ad v))) h
theorem clOK_el {a mc ms MC MS : Nat} (h : clOK id a mc ms MC MS = true) : mcOf id = MC ∧ msOf id = MS ∧ a ∈ mkL ∧ mcOf a = mc ∧ msOf a = ms ∧ (rmT_ a).1 + 1 ≤ (rmT_ id).1 ∧ 8 + (mxL a + 11) + (rmT_ a).2.1 ≤ (rmT_ id).2.1 := by
  simp only [clOK, Bool.and_eq_true, decide_eq_true_eq] at h
  obtain ⟨⟨⟨⟨⟨⟨h1, h2⟩, h3⟩, h4⟩, h5⟩, h6⟩, h7⟩ := h
  exact ⟨h1, h2, h3, h4, h5, h6, h7⟩
theorem callB_mk {i a : Nat} (hts : ∀ w ∈ GW, w.before args s = true) (ha : a ∈ mkL) (h6 : (rmT_ a).1 + 1 ≤ (rmT_ id).1) (h7 : 8 + (mxL a + 11) + (rmT_ a).2.1 ≤ (rmT_ id).2.1) (hl : (ownOf id, i, a) ∈ mlL) : CallB (rmOf id) s args (owN (ownOf id)) i (yOf a) (byOf a) (mxL a) (retOf a) (wsM a) (rmOf a) (mcOf a) (msOf a) (npOf a) := by
  obtain ⟨m1, m2, m3, m4, m5, m6⟩ := mkL_ok a ha
  exact callB_of (npOf a) hts (wsM_good ha) rfl rfl rfl (hts _ m2) (hts _ (mlL_ok _ hl)) ⟨m4.1, m4.2, m5⟩ ⟨h6, h7⟩
theorem callN_mk {i a : Nat} (hts : ∀ w ∈ GW, w.before args s = true) (hen : EN ro RM A s) (ha : a ∈ mkL) (h6 : (rmT_ a).1 + 1 ≤ (rmT_ id).1) (h7 : 8 + (mxL a + 11) + (rmT_ a).2.1 ≤ (rmT_ id).2.1) (hl : (ownOf id, i, a) ∈ mnL) : va_CN (rmOf id) s args (owN (ownOf id)) i (yOf a) "BorrowedWords" (byOf a) (mxL a) (retOf a) (wsM a) (rmOf a) (mcOf a) (msOf a) (npOf a) := by
  obtain ⟨m1, m2, m3, m4, m5, m6⟩ := mkL_ok a ha
  exact va_cnB (npOf a) hts (wsM_good ha) rfl rfl rfl (hen.1 _ (mnL_ok _ hl)) (hts _ m2) ⟨m4.1, m4.2, m5⟩ ⟨h6, h7⟩
/-- a static call -/
theorem so_calls (C : Cx D kA ro RM id A p s m args meth c) {bp : Nat} {ls : Lc_} {st : List Vl_} {w : Wd_} {M : Mm_} {cn : Cn_} {i a : Nat} (hcl : clOK id a (mcOf a) (msOf a) (mcOf id) (msOf id) = true) (hst : a ∈ stL) (hl : (ownOf id, i, a) ∈ mlL) (hlen : npOf a ≤ st.length) (h8 : catS (st.drop (npOf a)) ≤ 8) (hmx : catS (st.take (npOf a)) ≤ mxL a) (hbud : cn.1 + mcOf a ≤ mcOf id ∧ cn.2 + msOf a ≤ msOf id)
    (hd : decode (byOf id) bp = .ok (.invokestatic i, 3)) (h : Pm l D kA ro RM a 0 (entL (st.take (npOf a)).reverse (mxL a)) [] w M (0, 0) (fun v w' M' => Wb l D kA ro RM id A p e s m args below meth c n0 ad0 Z (bp + 3) ls (v.toList ++ st.drop (npOf a)) w' M' (cn.1 + mcOf a, cn.2 + msOf a))) : Wb l D kA ro RM id A p e s m args below meth c n0 ad0 Z bp ls st w M cn := by
  obtain ⟨hx, hb, hr, hlk, hml, hown, hnm, hts, hen, hK, hA⟩ := C
  intro ad H locs lsA a1 a2 a3 a4 a5 a6 a7
  obtain ⟨-, -, ha, -, -, h6, h7⟩ := clOK_el hcl
  have hcr : catS (st.take (npOf a)).reverse ≤ mxL a := by
    unfold catS at hmx ⊢
    rw [List.map_reverse, List.sum_reverse]
    exact hmx
  have hM := met_of ha h hcr ad (fun v hv => a6 v (List.mem_of_mem_take (List.mem_reverse.mp hv))) a3.2.2.2 H.size
  refine W_call (st := st.drop (npOf a)) hA a1 a2 a3 a4 a5 (fun x hx => a6 x (List.mem_of_mem_drop hx)) hbud (st0 := st.map (cV ro ad)) (a0 := ((st.take (npOf a)).reverse.map (cV ro ad)).toArray) ?_
  exact va_runS (As := (st.take (npOf a)).reverse.map (cV ro ad)) (rest := (st.drop (npOf a)).map (cV ro ad)) ⟨hx, hb, hml, hown, hts⟩ hM ⟨callB_mk hts ha h6 h7 hl, hts _ (stL_ok _ hst)⟩ ⟨PcP_blind, PcP_in hA hen hK a3⟩ rfl (by rw [List.length_map, List.length_reverse, List.length_take]; omega) a4.1 (by
    show st.map (cV ro ad) = _
    rw [← List.map_reverse, List.reverse_reverse, ← List.map_append, List.take_append_drop]) (lv_room (cat_room h8)) hd hbud
/-- the receiver -/
theorem rcv_of {ad : Nat → Nat} {w : Wd_} {M : Mm_} {H : Heap} {locs : List Loc} {q : Int} {ci : Nat} (hen : EN ro RM A s) (hK : va_K D cls_ (TY kA) s) (a3 : Rl D kA ro RM A ad s.heap w M H locs) (h14 : ci < 14) (hob : obK w q = some ci) : ∃ b : Nat, cV ro ad (2, q) = .ref b ∧ ∃ cell : Cell, H[b]? = some cell ∧ cell.vm.isStatics = false ∧ s.vm.findClass (owN ci) = some cell.cls := by
  by_cases h13 : ci = 13
  · subst h13
    obtain ⟨q1, q2⟩ := obK_13 (fun i x hx h0 => ((a3.2.2.2.1 i x hx).2.1 h0).1) hob
    obtain ⟨ak, av, e1, -, e2, -, -, -⟩ := hen.2.2.2.2.1 q q1 q2
    exact ⟨ak, cV_ro (by omega) e1, va_Orecv e2 a3.2.2.1⟩
  · obtain ⟨h0, rs, hw⟩ := obK_el hob h13
    have hal : ci < cls_.length := ((a3.2.2.2.1 _ _ hw).2.1 rfl).1
    obtain ⟨r, hr2⟩ : ∃ r, cls_[ci]? = some r := ⟨cls_[ci], List.getElem?_eq_getElem hal⟩
    obtain ⟨k1, k2, k3, k4, k5, k6, k7⟩ := ck_ok ci r hr2
    refine ⟨ad q.toNat, cV_ref h0, ?_⟩
    rw [k7]
    exact va_recv hK a3.1 hr2 (cW_at hw)
theorem take_rev {ad : Nat → Nat} {st : List Vl_} {n : Nat} {q : Int} {b : Nat} {as : List Vl_} (h : (st.take (n + 1)).reverse = (2, q) :: as) (hb : cV ro ad (2, q) = .ref b) : st.map (cV ro ad) = (as.map (cV ro ad)).reverse ++ .ref b :: (st.drop (n + 1)).map (cV ro ad) := by
  have e : st.take (n + 1) = as.reverse ++ [(2, q)] := by
    have := congrArg List.reverse h
    rw [List.reverse_reverse, List.reverse_cons] at this
    exact this
  conv => lhs; rw [← List.take_append_drop (n + 1) st]
  rw [List.map_append, e, List.map_append, List.map_reverse, List.append_assoc, List.map_cons, List.map_nil, hb]
  rfl
/-- a call on an object -/
theorem so_callv (C : Cx D kA ro RM id A p s m args meth c) {bp : Nat} {ls : Lc_} {st as : List Vl_} {w : Wd_} {M : Mm_} {cn : Cn_} {i a ci : Nat} {q : Int} (hcl : clOK id a (mcOf a) (msOf a) (mcOf id) (msOf id) = true) (hvt : a ∈ vtL) (hown2 : owN ci = (yOf a).cls) (h14 : ci < 14) (hl : (ownOf id, i, a) ∈ mlL ∨ (ownOf id, i, a) ∈ mnL) (hrv : (st.take (npOf a + 1)).reverse = (2, q) :: as) (hlen : as.length = npOf a) (hob : obK w q = some ci) (h8 : catS (st.drop (npOf a + 1)) ≤ 8) (hmx : catS (st.take (npOf a + 1)) ≤ mxL a) (hbud : cn.1 + mcOf a ≤ mcOf id ∧ cn.2 + msOf a ≤ msOf id)
    (hd : decode (byOf id) bp = .ok (.invokevirtual i, 3)) (h : Pm l D kA ro RM a 0 (entL (st.take (npOf a + 1)).reverse (mxL a)) [] w M (0, 0) (fun v w' M' => Wb l D kA ro RM id A p e s m args below meth c n0 ad0 Z (bp + 3) ls (v.toList ++ st.drop (npOf a + 1)) w' M' (cn.1 + mcOf a, cn.2 + msOf a))) : Wb l D kA ro RM id A p e s m args below meth c n0 ad0 Z bp ls st w M cn := by
  obtain ⟨hx, hb, hr, hlk, hml, hown, hnm, hts, hen, hK, hA⟩ := C
  intro ad H locs lsA a1 a2 a3 a4 a5 a6 a7
  obtain ⟨-, -, ha, -, -, h6, h7⟩ := clOK_el hcl
  have hcr : catS (st.take (npOf a + 1)).reverse ≤ mxL a := by
    unfold catS at hmx ⊢
    rw [List.map_reverse, List.sum_reverse]
    exact hmx
  have hM := met_of ha h hcr ad (fun v hv => a6 v (List.mem_of_mem_take (List.mem_reverse.mp hv))) a3.2.2.2 H.size
  obtain ⟨b, hbq, hcell⟩ := rcv_of hen hK a3 h14 hob
  have hpin := PcP_in (as := (st.take (npOf a + 1)).reverse) hA hen hK a3
  rw [hrv] at hM hpin
  have e0 : ((2, q) :: as).map (cV ro ad) = .ref b :: as.map (cV ro ad) := by rw [List.map_cons, hbq]
  rw [e0] at hpin
  rw [hown2] at hcell
  obtain ⟨v1, v2⟩ := vtL_ok _ hvt
  refine W_call (st := st.drop (npOf a + 1)) hA a1 a2 a3 a4 a5 (fun x hx => a6 x (List.mem_of_mem_drop hx)) hbud (st0 := st.map (cV ro ad)) (a0 := (.ref b :: as.map (cV ro ad)).toArray) ?_
  rcases hl with hl | hl
  · exact va_runV (As := as.map (cV ro ad)) (rest := (st.drop (npOf a + 1)).map (cV ro ad)) ⟨hx, hb, hml, hown, hts⟩ hM ⟨callB_mk hts ha h6 h7 hl, hts _ v1, hts _ v2⟩ ⟨PcP_blind, hcell, hpin⟩ rfl (by rw [List.length_map]; exact hlen) a4.1 (take_rev hrv hbq) (lv_room (cat_room h8)) hd hbud
  · exact va_runVN (As := as.map (cV ro ad)) (rest := (st.drop (npOf a + 1)).map (cV ro ad)) ⟨hx, hb, hml, hown, hts⟩ hM ⟨callN_mk hts hen ha h6 h7 hl, hts _ v1, hts _ v2⟩ ⟨PcP_blind, hcell, hpin⟩ rfl (by rw [List.length_map]; exact hlen) a4.1 (take_rev hrv hbq) (lv_room (cat_room h8)) hd hbud
/-- a constructor's call -/
theorem so_calli (C : Cx D kA ro RM id A p s m args meth c) {bp : Nat} {ls : Lc_} {st as : List Vl_} {w : Wd_} {M : Mm_} {cn : Cn_} {i a : Nat} {q : Int} (hcl : clOK id a (mcOf a) (msOf a) (mcOf id) (msOf id) = true) (hsp : a ∈ spL) (hret : retOf a = none) (hl : (ownOf id, i, a) ∈ mlL ∨ (ownOf id, i, a) ∈ mnL) (hrv : (st.take (npOf a + 1)).reverse = (2, q) :: as) (hlen : as.length = npOf a) (hq0 : 0 ≤ q) (h8 : catS (st.drop (npOf a + 1)) ≤ 8) (hmx : catS (st.take (npOf a + 1)) ≤ mxL a) (hbud : cn.1 + mcOf a ≤ mcOf id ∧ cn.2 + msOf a ≤ msOf id)
    (hd : decode (byOf id) bp = .ok (.invokespecial i, 3)) (h : Pm l D kA ro RM a 0 (entL (st.take (npOf a + 1)).reverse (mxL a)) [] w M (0, 0) (fun v w' M' => Wb l D kA ro RM id A p e s m args below meth c n0 ad0 Z (bp + 3) ls (v.toList ++ st.drop (npOf a + 1)) w' M' (cn.1 + mcOf a, cn.2 + msOf a))) : Wb l D kA ro RM id A p e s m args below meth c n0 ad0 Z bp ls st w M cn := by
  obtain ⟨hx, hb, hr, hlk, hml, hown, hnm, hts, hen, hK, hA⟩ := C
  intro ad H locs lsA a1 a2 a3 a4 a5 a6 a7
  obtain ⟨-, -, ha, -, -, h6, h7⟩ := clOK_el hcl
  have hcr : catS (st.take (npOf a + 1)).reverse ≤ mxL a := by
    unfold catS at hmx ⊢
    rw [List.map_reverse, List.sum_reverse]
    exact hmx
  have hM := met_of ha h hcr ad (fun v hv => a6 v (List.mem_of_mem_take (List.mem_reverse.mp hv))) a3.2.2.2 H.size
  have hbq : cV ro ad (2, q) = .ref (ad q.toNat) := cV_ref hq0
  have hpin := PcP_in (as := (st.take (npOf a + 1)).reverse) hA hen hK a3
  rw [hrv] at hM hpin
  have e0 : ((2, q) :: as).map (cV ro ad) = .ref (ad q.toNat) :: as.map (cV ro ad) := by rw [List.map_cons, hbq]
  rw [e0] at hpin
  obtain ⟨v1, v2⟩ := spL_ok _ hsp
  refine W_call (st := st.drop (npOf a + 1)) hA a1 a2 a3 a4 a5 (fun x hx => a6 x (List.mem_of_mem_drop hx)) hbud (st0 := st.map (cV ro ad)) (a0 := (.ref (ad q.toNat) :: as.map (cV ro ad)).toArray) ?_
  rcases hl with hl | hl
  · have hcb := callB_mk (id := id) hts ha h6 h7 hl
    rw [hret] at hcb
    exact va_runI (As := as.map (cV ro ad)) (rest := (st.drop (npOf a + 1)).map (cV ro ad)) ⟨hx, hb, hml, hown, hts⟩ hM ⟨hcb, v1, hts _ v2⟩ ⟨PcP_blind, hpin⟩ rfl (by rw [List.length_map]; exact hlen) a4.1 (take_rev hrv hbq) (lv_room (cat_room h8)) hd hbud
  · have hcb := callN_mk (id := id) hts hen ha h6 h7 hl
    rw [hret] at hcb
    exact va_runIN (As := as.map (cV ro ad)) (rest := (st.drop (npOf a + 1)).map (cV ro ad)) ⟨hx, hb, hml, hown, hts⟩ hM ⟨hcb, v1, hts _ v2⟩ ⟨PcP_blind, hpin⟩ rfl (by rw [List.length_map]; exact hlen) a4.1 (take_rev hrv hbq) (lv_room (cat_room h8)) hd hbud
/-- Object's own constructor -/
theorem so_obj (C : Cx D kA ro RM id A p s m args meth c) {bp : Nat} {ls : Lc_} {st : List Vl_} {w : Wd_} {M : Mm_} {cn : Cn_} {i : Nat} {q : Int} (hl : (ownOf id, i) ∈ obL) (hq0 : 0 ≤ q) (hf1 : 1 ≤ (rmT_ id).1) (hf2 : 32 ≤ (rmT_ id).2.1) (h8 : catS st ≤ 8) (hd : decode (byOf id) bp = .ok (.invokespecial i, 3)) (h : Wb l D kA ro RM id A p e s m args below meth c n0 ad0 Z (bp + 3) ls st w M cn) : Wb l D kA ro RM id A p e s m args below meth c n0 ad0 Z bp ls ((2, q) :: st) w M cn := by
  obtain ⟨hx, hb, hr, hlk, hml, hown, hnm, hts, hen, hK, hA⟩ := C
  intro ad H locs lsA a1 a2 a3 a4 a5 a6 a7
  rw [List.map_cons, cV_ref hq0]
  have h9 := lv_room (m := m) (pc := bp) (ls := lsA) (rest := (.ref (ad q.toNat) :: st.map (cV ro ad))) (cat_room (ro := ro) (ad := ad) h8)
  exact W.objInit hx hb hown (hts _ (obL_ok _ hl)) (hts _ ob_i) (hts _ ob_c) rfl (by rw [hml]; exact a4.1) rfl hd hf1 (by show _ ≤ (rmT_ id).2.1; omega) (h ad H locs lsA a1 a2 a3 a4 a5 (okS_tl a6) a7)
end SNA
