section SN6
variable {l : Launch} {D : va_G} {kA : Nat → ClassId} {ro : Int → Option Nat} {RM : Mm_} {id : Nat} {A : Nat → Prop} {p : Program} {e : Env} {s : State} {m : MethodId} {args : Array Value} {below : List Frame} {meth : Method} {c : Code} {n0 : Nat} {ad0 : Nat → Nat} {Z : State → Prop}
theorem so_iald (C : Cx D kA ro RM id A p s m args meth c) {bp : Nat} {ls : Lc_} {st : List Vl_} {w : Wd_} {M : Mm_} {cn : Cn_} {q j n : Int} (hq : arK w M q = some (1, n)) (h0 : 0 ≤ q) (hj : 0 ≤ j ∧ j < n) (hd : decode (byOf id) bp = .ok (.iaload, 1)) (h : Wb l D kA ro RM id A p e s m args below meth c n0 ad0 Z (bp + 1) ls ((0, M q j) :: st) w M cn) : Wb l D kA ro RM id A p e s m args below meth c n0 ad0 Z bp ls ((0, j) :: (2, q) :: st) w M cn := by
  obtain ⟨hx, hb, hr, hlk, hml, hown, hnm, hts, hen, hK, hA⟩ := C
  intro ad H locs lsA a1 a2 a3 a4 a5 a6 a7
  obtain ⟨N, rs, hw, hn, -⟩ := arK_el hq h0
  have eq0 : ((q.toNat : Nat) : Int) = q := Int.toNat_of_nonneg h0
  have he := cW_at (kA := kA) (ro := ro) (ad := ad) (M := M) hw
  have oj : inI j := okS_hd a6
  have hk := h ad H locs lsA a1 a2 a3 a4 a5 (okS_cons (v := (0, M q j)) (a3.2.2.2.2.2.1 q j (lg_ar h0 hw (by decide) (by decide))) (okS_tl (okS_tl a6))) a7
  have hin : vp_in (Int32.ofInt j) N := by have := in_of oj hj; rw [hn] at this; exact this
  change _ = some (ad q.toNat, Sum.inl (kA 1, N, Sum.inl (fun k : Nat => Int32.ofInt (M ((q.toNat : Nat) : Int) k)))) at he
  rw [eq0] at he
  rw [List.map_cons, List.map_cons, cV_ref h0]
  refine va_iald hx hb hK a3.1 q.toNat 0 he rfl hin hd ?_
  rw [clp_of oj hj.1, Int.toNat_of_nonneg hj.1]
  exact hk
theorem so_zald (C : Cx D kA ro RM id A p s m args meth c) {bp : Nat} {ls : Lc_} {st : List Vl_} {w : Wd_} {M : Mm_} {cn : Cn_} {q j n : Int} (hq : arK w M q = some (3, n)) (h0 : 0 ≤ q) (hj : 0 ≤ j ∧ j < n) (hd : decode (byOf id) bp = .ok (.baload, 1)) (h : Wb l D kA ro RM id A p e s m args below meth c n0 ad0 Z (bp + 1) ls ((0, M q j) :: st) w M cn) : Wb l D kA ro RM id A p e s m args below meth c n0 ad0 Z bp ls ((0, j) :: (2, q) :: st) w M cn := by
  obtain ⟨hx, hb, hr, hlk, hml, hown, hnm, hts, hen, hK, hA⟩ := C
  intro ad H locs lsA a1 a2 a3 a4 a5 a6 a7
  obtain ⟨N, rs, hw, hn, -⟩ := arK_el hq h0
  have eq0 : ((q.toNat : Nat) : Int) = q := Int.toNat_of_nonneg h0
  have he := cW_at (kA := kA) (ro := ro) (ad := ad) (M := M) hw
  have oj : inI j := okS_hd a6
  have hk := h ad H locs lsA a1 a2 a3 a4 a5 (okS_cons (v := (0, M q j)) (a3.2.2.2.2.2.1 q j (lg_ar h0 hw (by decide) (by decide))) (okS_tl (okS_tl a6))) a7
  have hin : vp_in (Int32.ofInt j) N := by have := in_of oj hj; rw [hn] at this; exact this
  change _ = some (ad q.toNat, Sum.inl (kA 3, N, Sum.inl (fun k : Nat => Int32.ofInt (M ((q.toNat : Nat) : Int) k)))) at he
  rw [eq0] at he
  rw [List.map_cons, List.map_cons, cV_ref h0]
  refine va_zald hx hb hK a3.1 q.toNat 2 he rfl hin hd ?_
  rw [clp_of oj hj.1, Int.toNat_of_nonneg hj.1]
  exact hk
theorem so_lald (C : Cx D kA ro RM id A p s m args meth c) {bp : Nat} {ls : Lc_} {st : List Vl_} {w : Wd_} {M : Mm_} {cn : Cn_} {q j n : Int} (hq : arK w M q = some (2, n)) (h0 : 0 ≤ q) (hj : 0 ≤ j ∧ j < n) (hd : decode (byOf id) bp = .ok (.laload, 1)) (h : Wb l D kA ro RM id A p e s m args below meth c n0 ad0 Z (bp + 1) ls ((1, M q j) :: st) w M cn) : Wb l D kA ro RM id A p e s m args below meth c n0 ad0 Z bp ls ((0, j) :: (2, q) :: st) w M cn := by
  obtain ⟨hx, hb, hr, hlk, hml, hown, hnm, hts, hen, hK, hA⟩ := C
  intro ad H locs lsA a1 a2 a3 a4 a5 a6 a7
  obtain ⟨N, rs, hw, hn, -⟩ := arK_el hq h0
  have eq0 : ((q.toNat : Nat) : Int) = q := Int.toNat_of_nonneg h0
  have he := cW_at (kA := kA) (ro := ro) (ad := ad) (M := M) hw
  have oj : inI j := okS_hd a6
  have hk := h ad H locs lsA a1 a2 a3 a4 a5 (okS_cons (v := (1, M q j)) (a3.2.2.2.2.1 q j) (okS_tl (okS_tl a6))) a7
  have hin : vp_in (Int32.ofInt j) N := by have := in_of oj hj; rw [hn] at this; exact this
  change _ = some (ad q.toNat, Sum.inl (kA 2, N, Sum.inr (Sum.inl (fun k : Nat => Int64.ofInt (M ((q.toNat : Nat) : Int) k))))) at he
  rw [eq0] at he
  rw [List.map_cons, List.map_cons, cV_ref h0]
  refine va_lald hx hb hK a3.1 q.toNat 1 he rfl hin hd ?_
  rw [clp_of oj hj.1, Int.toNat_of_nonneg hj.1]
  exact hk
theorem so_iald_ro (C : Cx D kA ro RM id A p s m args meth c) {bp : Nat} {ls : Lc_} {st : List Vl_} {w : Wd_} {M : Mm_} {cn : Cn_} {q j n : Int} (hq : arK w M q = some (1, n)) (h0 : q < 0) (hj : 0 ≤ j ∧ j < n) (hd : decode (byOf id) bp = .ok (.iaload, 1)) (h : Wb l D kA ro RM id A p e s m args below meth c n0 ad0 Z (bp + 1) ls ((0, M q j) :: st) w M cn) : Wb l D kA ro RM id A p e s m args below meth c n0 ad0 Z bp ls ((0, j) :: (2, q) :: st) w M cn := by
  obtain ⟨hx, hb, hr, hlk, hml, hown, hnm, hts, hen, hK, hA⟩ := C
  intro ad H locs lsA a1 a2 a3 a4 a5 a6 a7
  obtain ⟨hc, hn⟩ := arK_ro hq h0
  have oj : inI j := okS_hd a6
  have hk := h ad H locs lsA a1 a2 a3 a4 a5 (okS_cons (v := (0, M q j)) (a3.2.2.2.2.2.1 q j (lg_ro h0)) (okS_tl (okS_tl a6))) a7
  obtain ⟨t, e1, e2⟩ := hen.2.2.2.2.2.2.2.2.2 q (by omega) (by omega)
  have hRM := a3.2.2.2.2.2.2
  rw [List.map_cons, List.map_cons, cV_ro (by omega) e1]
  refine va_ti hx hb e2 a3.2.2.1 (i := Int32.ofInt j) (by rw [hn, hRM q _ h0] at hj; exact in_of oj hj) rfl hd ?_
  rw [clp_of oj hj.1, Int.toNat_of_nonneg hj.1, ← hRM q j h0]
  exact hk
theorem so_bald_ro (C : Cx D kA ro RM id A p s m args meth c) {bp : Nat} {ls : Lc_} {st : List Vl_} {w : Wd_} {M : Mm_} {cn : Cn_} {q j n : Int} (hq : arK w M q = some (8, n)) (h0 : q < 0) (hj : 0 ≤ j ∧ j < n) (hd : decode (byOf id) bp = .ok (.baload, 1)) (h : Wb l D kA ro RM id A p e s m args below meth c n0 ad0 Z (bp + 1) ls ((0, M q j) :: st) w M cn) : Wb l D kA ro RM id A p e s m args below meth c n0 ad0 Z bp ls ((0, j) :: (2, q) :: st) w M cn := by
  obtain ⟨hx, hb, hr, hlk, hml, hown, hnm, hts, hen, hK, hA⟩ := C
  intro ad H locs lsA a1 a2 a3 a4 a5 a6 a7
  obtain ⟨hc, hn⟩ := arK_ro hq h0
  have oj : inI j := okS_hd a6
  have hk := h ad H locs lsA a1 a2 a3 a4 a5 (okS_cons (v := (0, M q j)) (a3.2.2.2.2.2.1 q j (lg_ro h0)) (okS_tl (okS_tl a6))) a7
  obtain ⟨ak, t, -, e1, -, -, -, e2⟩ := hen.2.2.2.2.1 (q + 20) (by omega) (by omega)
  rw [show q + 20 - 20 = q by omega] at e1 e2
  have hRM := a3.2.2.2.2.2.2
  rw [List.map_cons, List.map_cons, cV_ro (by omega) e1]
  refine va_tb hx hb e2 a3.2.2.1 (i := Int32.ofInt j) (by rw [hn, hRM q _ h0] at hj; exact in_of oj hj) rfl hd ?_
  rw [clp_of oj hj.1, Int.toNat_of_nonneg hj.1, ← hRM q j h0]
  exact hk
theorem row_ald {R : Room} {H : Heap} {locs : List Loc} {cells slots pc : Nat} {Q : State → Prop} {cc : ByteArray} {ls : Array Slot} {rest : List Value} {cl : List vw_C} {a : Nat} {tys : List (ClassId × FieldType)} {ws : va_W} (hexec : p.tables.exec = Jvm.exec) (hb : c.code = cc) (hK : va_K D cl tys s) (hP : va_P D cl ws H) (q0 t0 : Nat) {cA : ClassId} {ty : FieldType} (hrf : isRf ty = true) {n : Nat} {f : Nat → Option Nat} (ha : ws[q0]? = some (a, .inl (cA, n, .inr (.inr (.inr (.inr f)))))) (ht : tys[t0]? = some (cA, ty)) {i : Int32} (hin : vp_in i n) (hdg : decode cc pc = .ok (.aaload, 1))
    (kk : W p l e R s m args below meth c H locs cells slots Q (F0 m (pc + 1) ls (va_rf (f i.toNatClampNeg) :: rest))) : W p l e R s m args below meth c H locs cells slots Q (F0 m pc ls (.int i :: .ref a :: rest)) := by
  have hlt : i.toNatClampNeg < n := Nat.not_le.mp fun q => hin (Or.inr q)
  exact W.aald (v := va_rf (f i.toNatClampNeg)) (ty := ty) hexec hb (hP q0 _ ha) ((hK.2 t0 _ ht).1 n (fun j => va_rf (f j))) (by cases ty <;> first | rfl | cases hrf) (fun q => by cases q) (by show ¬ (i < 0 ∨ (arrV _ _ _).slots.size ≤ _); rw [arrV_size]; exact hin) (by show (arrV _ _ _).slots[_]? = _; rw [arrV_read _ _ hlt]) rfl rfl hdg kk
theorem so_aald (C : Cx D kA ro RM id A p s m args meth c) {bp : Nat} {ls : Lc_} {st : List Vl_} {w : Wd_} {M : Mm_} {cn : Cn_} {q j n v : Int} {t : Nat} (hq : arK w M q = some (t, n)) (t4 : 4 ≤ t) (t6 : t ≤ 6) (h0 : 0 ≤ q) (hj : 0 ≤ j ∧ j < n) (hv : rfK w q j.toNat = some v) (hd : decode (byOf id) bp = .ok (.aaload, 1)) (h : Wb l D kA ro RM id A p e s m args below meth c n0 ad0 Z (bp + 1) ls ((2, v) :: st) w M cn) : Wb l D kA ro RM id A p e s m args below meth c n0 ad0 Z bp ls ((0, j) :: (2, q) :: st) w M cn := by
  obtain ⟨hx, hb, hr, hlk, hml, hown, hnm, hts, hen, hK, hA⟩ := C
  intro ad H locs lsA a1 a2 a3 a4 a5 a6 a7
  obtain ⟨N, rs, hw, hn, -⟩ := arK_el hq h0
  have eq0 : ((q.toNat : Nat) : Int) = q := Int.toNat_of_nonneg h0
  have he := cW_at (kA := kA) (ro := ro) (ad := ad) (M := M) hw
  have oj : inI j := okS_hd a6
  have hrs : rs[j.toNat]? = some v := by unfold rfK at hv; rw [if_neg (by omega), hw] at hv; exact hv
  have hvl : v < w.length := (a3.2.2.2.1 _ _ hw).1 v (List.mem_of_getElem? hrs)
  have hk := h ad H locs lsA a1 a2 a3 a4 a5 (okS_cons (v := (2, v)) hvl (okS_tl (okS_tl a6))) a7
  have hin : vp_in (Int32.ofInt j) N := by have := in_of oj hj; rw [hn] at this; exact this
  have ecl : (Int32.ofInt j).toNatClampNeg = j.toNat := clp_of oj hj.1
  have ecr : cR ro ad rs (Int32.ofInt j).toNatClampNeg = adr ro ad v := by rw [ecl]; unfold cR; rw [hrs]; rfl
  rw [List.map_cons, List.map_cons, cV_ref h0]
  change W _ _ _ _ _ _ _ _ _ _ _ _ _ _ _ (F0 m (bp + 1) lsA (va_rf (adr ro ad v) :: st.map (cV ro ad))) at hk
  rw [← ecr] at hk
  match t, t4, t6, he with
  | 4, _, _, he => exact row_ald hx hb hK a3.1 q.toNat 3 rfl he rfl hin hd hk
  | 5, _, _, he => exact row_ald hx hb hK a3.1 q.toNat 4 rfl he rfl hin hd hk
  | 6, _, _, he => exact row_ald hx hb hK a3.1 q.toNat 5 rfl he rfl hin hd hk
theorem upd_eq {M : Mm_} {q j x : Int} (hj : 0 ≤ j) : (fun k : Nat => Int32.ofInt (updM M q j x q k)) = upd (fun k : Nat => Int32.ofInt (M q k)) j.toNat (Int32.ofInt x) := by
  funext k
  unfold upd updM
  by_cases hk : k = j.toNat
  · rw [if_pos hk, if_pos ⟨rfl, by omega⟩]
  · rw [if_neg hk, if_neg (fun q => hk (by omega))]
theorem updL_eq {M : Mm_} {q j x : Int} (hj : 0 ≤ j) : (fun k : Nat => Int64.ofInt (updM M q j x q k)) = vp_updL (fun k : Nat => Int64.ofInt (M q k)) j.toNat (Int64.ofInt x) := by
  funext k
  unfold vp_updL updM
  by_cases hk : k = j.toNat
  · rw [if_pos hk, if_pos ⟨rfl, by omega⟩]
  · rw [if_neg hk, if_neg (fun q => hk (by omega))]
theorem so_iast (C : Cx D kA ro RM id A p s m args meth c) {bp : Nat} {ls : Lc_} {st : List Vl_} {w : Wd_} {M : Mm_} {cn : Cn_} {q j n x : Int} (hq : arK w M q = some (1, n)) (h0 : 0 ≤ q) (hj : 0 ≤ j ∧ j < n) (hd : decode (byOf id) bp = .ok (.iastore, 1)) (h : Wb l D kA ro RM id A p e s m args below meth c n0 ad0 Z (bp + 1) ls st w (updM M q j x) cn) : Wb l D kA ro RM id A p e s m args below meth c n0 ad0 Z bp ls ((0, x) :: (0, j) :: (2, q) :: st) w M cn := by
  obtain ⟨hx, hb, hr, hlk, hml, hown, hnm, hts, hen, hK, hA⟩ := C
  intro ad H locs lsA a1 a2 a3 a4 a5 a6 a7
  obtain ⟨N, rs, hw, hn, -⟩ := arK_el hq h0
  have eq0 : ((q.toNat : Nat) : Int) = q := Int.toNat_of_nonneg h0
  have he := cW_at (kA := kA) (ro := ro) (ad := ad) (M := M) hw
  have oj : inI j := okS_hd (okS_tl a6)
  have ox : okV w (0, x) := okS_hd a6
  have hwi : WI RM w (updM M q j x) := a3.2.2.2.upd h0 (inI_L ox) (fun _ => ox)
  have hk := fun (H1 : Heap) (locs1 : List Loc) (r1 : Rl D kA ro RM A ad s.heap w (updM M q j x) H1 locs1) => h ad H1 locs1 lsA a1 a2 r1 a4 a5 (okS_tl (okS_tl (okS_tl a6))) a7
  have hin : vp_in (Int32.ofInt j) N := by have := in_of oj hj; rw [hn] at this; exact this
  change _ = some (ad q.toNat, Sum.inl (kA 1, N, Sum.inl (fun k : Nat => Int32.ofInt (M ((q.toNat : Nat) : Int) k)))) at he
  rw [eq0] at he
  have ecl : (Int32.ofInt j).toNatClampNeg = j.toNat := clp_of oj hj.1
  have hs : cW kA ro ad w (updM M q j x) = (cW kA ro ad w M).set q.toNat (ad q.toNat, Sum.inl (kA 1, N, Sum.inl (fun k : Nat => Int32.ofInt (updM M q j x q k)))) := cW_set h0 hw
  rw [upd_eq hj.1, ← ecl] at hs
  rw [List.map_cons, List.map_cons, List.map_cons, cV_ref h0]
  exact va_iast hx hb hK a3.1 a3.2.1 a3.2.2.1 q.toNat 0 he rfl (x := Int32.ofInt x) hin hd (fun H1 locs1 p1 p2 p3 => hk H1 locs1 ⟨by rw [hs]; exact p1, by rw [hs]; exact p2, p3, hwi⟩)
theorem so_zast (C : Cx D kA ro RM id A p s m args meth c) {bp : Nat} {ls : Lc_} {st : List Vl_} {w : Wd_} {M : Mm_} {cn : Cn_} {q j n x : Int} (hq : arK w M q = some (3, n)) (h0 : 0 ≤ q) (hj : 0 ≤ j ∧ j < n) (hb01 : x = 0 ∨ x = 1) (hd : decode (byOf id) bp = .ok (.bastore, 1)) (h : Wb l D kA ro RM id A p e s m args below meth c n0 ad0 Z (bp + 1) ls st w (updM M q j x) cn) : Wb l D kA ro RM id A p e s m args below meth c n0 ad0 Z bp ls ((0, x) :: (0, j) :: (2, q) :: st) w M cn := by
  obtain ⟨hx, hb, hr, hlk, hml, hown, hnm, hts, hen, hK, hA⟩ := C
  intro ad H locs lsA a1 a2 a3 a4 a5 a6 a7
  obtain ⟨N, rs, hw, hn, -⟩ := arK_el hq h0
  have eq0 : ((q.toNat : Nat) : Int) = q := Int.toNat_of_nonneg h0
  have he := cW_at (kA := kA) (ro := ro) (ad := ad) (M := M) hw
  have oj : inI j := okS_hd (okS_tl a6)
  have ox : okV w (0, x) := okS_hd a6
  have hwi : WI RM w (updM M q j x) := a3.2.2.2.upd h0 (inI_L ox) (fun _ => ox)
  have hk := fun (H1 : Heap) (locs1 : List Loc) (r1 : Rl D kA ro RM A ad s.heap w (updM M q j x) H1 locs1) => h ad H1 locs1 lsA a1 a2 r1 a4 a5 (okS_tl (okS_tl (okS_tl a6))) a7
  have hin : vp_in (Int32.ofInt j) N := by have := in_of oj hj; rw [hn] at this; exact this
  change _ = some (ad q.toNat, Sum.inl (kA 3, N, Sum.inl (fun k : Nat => Int32.ofInt (M ((q.toNat : Nat) : Int) k)))) at he
  rw [eq0] at he
  have ecl : (Int32.ofInt j).toNatClampNeg = j.toNat := clp_of oj hj.1
  have hs : cW kA ro ad w (updM M q j x) = (cW kA ro ad w M).set q.toNat (ad q.toNat, Sum.inl (kA 3, N, Sum.inl (fun k : Nat => Int32.ofInt (updM M q j x q k)))) := cW_set h0 hw
  rw [upd_eq hj.1, ← ecl] at hs
  rw [List.map_cons, List.map_cons, List.map_cons, cV_ref h0]
  have enar : vp_nar .boolean (Int32.ofInt x) = Int32.ofInt x := by rcases hb01 with g | g <;> rw [g] <;> rfl
  refine va_zast hx hb hK a3.1 a3.2.1 a3.2.2.1 q.toNat 2 he rfl (x := Int32.ofInt x) hin hd (fun H1 locs1 p1 p2 p3 => ?_)
  rw [enar] at p1 p2
  exact hk H1 locs1 ⟨by rw [hs]; exact p1, by rw [hs]; exact p2, p3, hwi⟩
theorem so_last (C : Cx D kA ro RM id A p s m args meth c) {bp : Nat} {ls : Lc_} {st : List Vl_} {w : Wd_} {M : Mm_} {cn : Cn_} {q j n x : Int} (hq : arK w M q = some (2, n)) (h0 : 0 ≤ q) (hj : 0 ≤ j ∧ j < n) (hd : decode (byOf id) bp = .ok (.lastore, 1)) (h : Wb l D kA ro RM id A p e s m args below meth c n0 ad0 Z (bp + 1) ls st w (updM M q j x) cn) : Wb l D kA ro RM id A p e s m args below meth c n0 ad0 Z bp ls ((1, x) :: (0, j) :: (2, q) :: st) w M cn := by
  obtain ⟨hx, hb, hr, hlk, hml, hown, hnm, hts, hen, hK, hA⟩ := C
  intro ad H locs lsA a1 a2 a3 a4 a5 a6 a7
  obtain ⟨N, rs, hw, hn, -⟩ := arK_el hq h0
  have eq0 : ((q.toNat : Nat) : Int) = q := Int.toNat_of_nonneg h0
  have he := cW_at (kA := kA) (ro := ro) (ad := ad) (M := M) hw
  have oj : inI j := okS_hd (okS_tl a6)
  have ox : okV w (1, x) := okS_hd a6
  have hwi : WI RM w (updM M q j x) := a3.2.2.2.upd h0 ox (fun g => by unfold isLg at g; rw [if_neg (by omega), hw] at g; cases g)
  have hk := fun (H1 : Heap) (locs1 : List Loc) (r1 : Rl D kA ro RM A ad s.heap w (updM M q j x) H1 locs1) => h ad H1 locs1 lsA a1 a2 r1 a4 a5 (okS_tl (okS_tl (okS_tl a6))) a7
  have hin : vp_in (Int32.ofInt j) N := by have := in_of oj hj; rw [hn] at this; exact this
  change _ = some (ad q.toNat, Sum.inl (kA 2, N, Sum.inr (Sum.inl (fun k : Nat => Int64.ofInt (M ((q.toNat : Nat) : Int) k))))) at he
  rw [eq0] at he
  have ecl : (Int32.ofInt j).toNatClampNeg = j.toNat := clp_of oj hj.1
  have hs : cW kA ro ad w (updM M q j x) = (cW kA ro ad w M).set q.toNat (ad q.toNat, Sum.inl (kA 2, N, Sum.inr (Sum.inl (fun k : Nat => Int64.ofInt (updM M q j x q k))))) := cW_set h0 hw
  rw [updL_eq hj.1, ← ecl] at hs
  rw [List.map_cons, List.map_cons, List.map_cons, cV_ref h0]
  exact va_last hx hb hK a3.1 a3.2.1 a3.2.2.1 q.toNat 1 he rfl (x := Int64.ofInt x) hin hd (fun H1 locs1 p1 p2 p3 => hk H1 locs1 ⟨by rw [hs]; exact p1, by rw [hs]; exact p2, p3, hwi⟩)
theorem so_aast (C : Cx D kA ro RM id A p s m args meth c) {bp : Nat} {ls : Lc_} {st : List Vl_} {w : Wd_} {M : Mm_} {cn : Cn_} {q j n x : Int} (hq : arK w M q = some (4, n)) (h0 : 0 ≤ q) (x0 : 0 ≤ x) (hob : obK w x = some 0) (hj : 0 ≤ j ∧ j < n) (hd : decode (byOf id) bp = .ok (.aastore, 1)) (h : Wb l D kA ro RM id A p e s m args below meth c n0 ad0 Z (bp + 1) ls st (setR w q j.toNat x) M cn) : Wb l D kA ro RM id A p e s m args below meth c n0 ad0 Z bp ls ((2, x) :: (0, j) :: (2, q) :: st) w M cn := by
  obtain ⟨hx, hb, hr, hlk, hml, hown, hnm, hts, hen, hK, hA⟩ := C
  intro ad H locs lsA a1 a2 a3 a4 a5 a6 a7
  obtain ⟨N, rs, hw, hn, -⟩ := arK_el hq h0
  have eq0 : ((q.toNat : Nat) : Int) = q := Int.toNat_of_nonneg h0
  have he := cW_at (kA := kA) (ro := ro) (ad := ad) (M := M) hw
  obtain ⟨-, rs2, hw2⟩ := obK_el hob (by decide)
  have oj : inI j := okS_hd (okS_tl a6)
  have ox : x < w.length := okS_hd a6
  have hwi : WI RM (setR w q j.toNat x) M := a3.2.2.2.setR ox
  have hlen : rs.length = N := ((a3.2.2.2.1 _ _ hw).2.2.1) (Nat.le_refl 4)
  have hk := fun (H1 : Heap) (locs1 : List Loc) (r1 : Rl D kA ro RM A ad s.heap (setR w q j.toNat x) M H1 locs1) => h ad H1 locs1 lsA (by rw [setR_len]; exact a1) a2 r1 a4 (fun i y hy => okV_len (setR_len ..) (a5 i y hy)) (fun y hy => okV_len (setR_len ..) (okS_tl (okS_tl (okS_tl a6)) y hy)) a7
  have hin : vp_in (Int32.ofInt j) N := by have := in_of oj hj; rw [hn] at this; exact this
  have ecl : (Int32.ofInt j).toNatClampNeg = j.toNat := clp_of oj hj.1
  have he2 := cW_at (kA := kA) (ro := ro) (ad := ad) (M := M) hw2
  have hs : cW kA ro ad (setR w q j.toNat x) M = (cW kA ro ad w M).set q.toNat (ad q.toNat, Sum.inl (kA 4, N, .inr (.inr (.inr (.inr (va_up (cR ro ad rs) j.toNat (some (ad x.toNat)))))))) := by
    apply List.ext_getElem?
    intro k
    rw [List.getElem?_set, cW_get, cW_get, cW_len, setR_at]
    by_cases hk2 : q.toNat = k
    · subst hk2
      rw [if_pos rfl, if_pos (List.getElem?_eq_some_iff.mp hw).1, hw]
      simp only [Option.map_some, if_true, Option.some.injEq, Prod.mk.injEq, true_and]
      show Sum.inl (kA 4, N, Sum.inr (Sum.inr (Sum.inr (Sum.inr (cR ro ad (rs.set j.toNat x)))))) = _
      have ef : cR ro ad (rs.set j.toNat x) = va_up (cR ro ad rs) j.toNat (some (ad x.toNat)) := by
        funext k3
        unfold cR va_up
        rw [List.getElem?_set]
        by_cases hk3 : j.toNat = k3
        · subst hk3
          rw [if_pos rfl, if_pos rfl, if_pos (by omega)]
          show adr ro ad x = _
          unfold adr
          rw [if_neg (by omega)]
        · rw [if_neg hk3, if_neg (fun g => hk3 g.symm)]
      rw [ef]
    · rw [if_neg hk2]
      cases w[k]? with
      | none => rfl
      | some y => simp only [Option.map_some, if_neg hk2]
  rw [List.map_cons, List.map_cons, List.map_cons, cV_ref h0, cV_ref x0]
  exact va_astq hx hb hK a3.1 a3.2.1 a3.2.2.1 q.toNat 3 x.toNat 0 (r := ("BorrowedWords$Text", fld0, 5)) he rfl he2 rfl hin hd (fun H1 locs1 p1 p2 p3 => hk H1 locs1 ⟨by rw [hs, ← ecl]; exact p1, by rw [hs, ← ecl]; exact p2, p3, hwi⟩)
theorem so_alen_ro (C : Cx D kA ro RM id A p s m args meth c) {bp : Nat} {ls : Lc_} {st : List Vl_} {w : Wd_} {M : Mm_} {cn : Cn_} {q n : Int} {t : Nat} (hq : arK w M q = some (t, n)) (h0 : q < 0) (hn1 : 0 ≤ n) (hd : decode (byOf id) bp = .ok (.arraylength, 1)) (h : Wb l D kA ro RM id A p e s m args below meth c n0 ad0 Z (bp + 1) ls ((0, n) :: st) w M cn) : Wb l D kA ro RM id A p e s m args below meth c n0 ad0 Z bp ls ((2, q) :: st) w M cn := by
  obtain ⟨hx, hb, hr, hlk, hml, hown, hnm, hts, hen, hK, hA⟩ := C
  intro ad H locs lsA a1 a2 a3 a4 a5 a6 a7
  obtain ⟨hc, hn⟩ := arK_ro hq h0
  have hRM := a3.2.2.2.2.2.2
  have hn0 : 0 ≤ RM q (-1) := by rw [← hRM q _ h0, ← hn]; exact hn1
  have on : inI n := by rw [hn]; exact a3.2.2.2.2.2.1 q (-1) (lg_ro h0)
  have hk := h ad H locs lsA a1 a2 a3 a4 a5 (okS_cons (v := (0, n)) on (okS_tl a6)) a7
  have en : Int32.ofNat (RM q (-1)).toNat = Int32.ofInt n := by rw [hn, hRM q _ h0, ← Int32.ofInt_eq_ofNat, Int.toNat_of_nonneg hn0]
  rcases hc with ⟨-, q1, q2⟩ | ⟨-, q1, q2⟩
  · obtain ⟨t, e1, e2⟩ := hen.2.2.2.2.2.2.2.2.2 q q1 q2
    rw [List.map_cons, cV_ro (by omega) e1]
    exact va_tlen hx hb e2 a3.2.2.1 en hd hk
  · obtain ⟨ak, t, -, e1, -, -, -, e2⟩ := hen.2.2.2.2.1 (q + 20) (by omega) (by omega)
    rw [show q + 20 - 20 = q by omega] at e1 e2
    rw [List.map_cons, cV_ro (by omega) e1]
    exact va_tlen hx hb e2 a3.2.2.1 en hd hk
theorem so_gsC (C : Cx D kA ro RM id A p s m args meth c) {bp : Nat} {ls : Lc_} {st : List Vl_} {w : Wd_} {M : Mm_} {cn : Cn_} {i : Nat} (ho : ownOf id = 13) (hi : i = 38) (hd : decode (byOf id) bp = .ok (.getstatic i, 3)) (h : Wb l D kA ro RM id A p e s m args below meth c n0 ad0 Z (bp + 3) ls ((0, 1) :: st) w M cn) : Wb l D kA ro RM id A p e s m args below meth c n0 ad0 Z bp ls st w M cn := by
  obtain ⟨hx, hb, hr, hlk, hml, hown, hnm, hts, hen, hK, hA⟩ := C
  intro ad H locs lsA a1 a2 a3 a4 a5 a6 a7
  subst hi
  have hk := h ad H locs lsA a1 a2 a3 a4 a5 (okS_cons (v := (0, 1)) (by show inI 1; unfold inI; omega) a6) a7
  rw [ho] at hown
  exact va_gets hx hb hen.2.2.2.2.2.2.1 a3.2.2.1 hown (hts _ fj_COMPACT_STRINGS) (fun _ h9 => h9) hd hk
theorem so_gsF (C : Cx D kA ro RM id A p s m args meth c) {bp : Nat} {ls : Lc_} {st : List Vl_} {w : Wd_} {M : Mm_} {cn : Cn_} {i : Nat} (ho : ownOf id = 13) (hi : i = 1053) (hd : decode (byOf id) bp = .ok (.getstatic i, 3)) (h : Wb l D kA ro RM id A p e s m args below meth c n0 ad0 Z (bp + 3) ls ((2, -6) :: st) w M cn) : Wb l D kA ro RM id A p e s m args below meth c n0 ad0 Z bp ls st w M cn := by
  obtain ⟨hx, hb, hr, hlk, hml, hown, hnm, hts, hen, hK, hA⟩ := C
  intro ad H locs lsA a1 a2 a3 a4 a5 a6 a7
  subst hi
  have hk := h ad H locs lsA a1 a2 a3 a4 a5 (okS_cons (v := (2, -6)) (by show (-6 : Int) < (w.length : Int); omega) a6) a7
  rw [ho] at hown
  exact va_gets hx hb hen.2.2.2.2.2.2.2.1 a3.2.2.1 hown (hts _ fj_SIOOBE_FORMATTER) (fun _ h9 => h9) hd hk
theorem so_gsA (C : Cx D kA ro RM id A p s m args meth c) {bp : Nat} {ls : Lc_} {st : List Vl_} {w : Wd_} {M : Mm_} {cn : Cn_} {i : Nat} {z : Int} (hl : (ownOf id, i, z) ∈ fsL) (z1 : -5 ≤ z) (z2 : z ≤ -3) (hd : decode (byOf id) bp = .ok (.getstatic i, 3)) (h : Wb l D kA ro RM id A p e s m args below meth c n0 ad0 Z (bp + 3) ls ((2, z) :: st) w M cn) : Wb l D kA ro RM id A p e s m args below meth c n0 ad0 Z bp ls st w M cn := by
  obtain ⟨hx, hb, hr, hlk, hml, hown, hnm, hts, hen, hK, hA⟩ := C
  intro ad H locs lsA a1 a2 a3 a4 a5 a6 a7
  have hk := h ad H locs lsA a1 a2 a3 a4 a5 (okS_cons (v := (2, z)) (by show z < (w.length : Int); omega) a6) a7
  obtain ⟨t, e1, e2⟩ := hen.2.2.2.2.2.2.2.2.1 z z1 z2
  rw [List.map_cons, cV_ro (by omega) e1] at hk
  exact va_getsN hx hb e2 a3.2.2.1 hown (va_Nw.use rfl (A := args) (hen.1 _ (fsL_ok _ hl))) (fun _ h9 => h9) hd hk
theorem so_ldcS (C : Cx D kA ro RM id A p s m args meth c) {bp : Nat} {ls : Lc_} {st : List Vl_} {w : Wd_} {M : Mm_} {cn : Cn_} {i : Nat} {z : Int} (ho : ownOf id = 4) (z1 : -19 ≤ z) (z2 : z ≤ -10) (hl : ∃ q ∈ srL, (q.1 : Int) = -z - 10 ∧ q.2.1 = i) (hd : decode (byOf id) bp = .ok (.ldc i, 2)) (h : Wb l D kA ro RM id A p e s m args below meth c n0 ad0 Z (bp + 2) ls ((2, z) :: st) w M cn) : Wb l D kA ro RM id A p e s m args below meth c n0 ad0 Z bp ls st w M cn := by
  obtain ⟨hx, hb, hr, hlk, hml, hown, hnm, hts, hen, hK, hA⟩ := C
  intro ad H locs lsA a1 a2 a3 a4 a5 a6 a7
  have hk := h ad H locs lsA a1 a2 a3 a4 a5 (okS_cons (v := (2, z)) (by show z < (w.length : Int); omega) a6) a7
  obtain ⟨q, hq, q1, q2⟩ := hl
  obtain ⟨ak, e1, e2⟩ := hen.2.2.2.2.2.1 q hq
  rw [show -(q.1 : Int) - 10 = z by omega] at e1
  rw [List.map_cons, cV_ro (by omega) e1] at hk
  rw [ho] at hown
  rw [q2] at e2
  exact va_ldcS hx hb hown e2 hd hk
theorem so_strV (C : Cx D kA ro RM id A p s m args meth c) {bp : Nat} {ls : Lc_} {st : List Vl_} {w : Wd_} {M : Mm_} {cn : Cn_} {q : Int} {i : Nat} (ho : ownOf id = 13) (hi : i = 9) (q1 : -19 ≤ q) (q2 : q ≤ -10) (hd : decode (byOf id) bp = .ok (.getfield i, 3)) (h : Wb l D kA ro RM id A p e s m args below meth c n0 ad0 Z (bp + 3) ls ((2, q - 20) :: st) w M cn) : Wb l D kA ro RM id A p e s m args below meth c n0 ad0 Z bp ls ((2, q) :: st) w M cn := by
  obtain ⟨hx, hb, hr, hlk, hml, hown, hnm, hts, hen, hK, hA⟩ := C
  intro ad H locs lsA a1 a2 a3 a4 a5 a6 a7
  subst hi
  have hk := h ad H locs lsA a1 a2 a3 a4 a5 (okS_cons (v := (2, q - 20)) (by show q - 20 < (w.length : Int); omega) (okS_tl a6)) a7
  obtain ⟨ak, av, e1, e2, -, -, e3, -⟩ := hen.2.2.2.2.1 q q1 q2
  rw [List.map_cons, cV_ro (by omega) e2] at hk
  rw [List.map_cons, cV_ro (by omega) e1]
  rw [ho] at hown
  exact vk_getf hx hb e3 a3.2.2.1 hown (hts _ fj_value) (fun _ h9 => h9) hd hk
theorem so_strC (C : Cx D kA ro RM id A p s m args meth c) {bp : Nat} {ls : Lc_} {st : List Vl_} {w : Wd_} {M : Mm_} {cn : Cn_} {q : Int} {i : Nat} (ho : ownOf id = 13) (hi : i = 15) (q1 : -19 ≤ q) (q2 : q ≤ -10) (hd : decode (byOf id) bp = .ok (.getfield i, 3)) (h : Wb l D kA ro RM id A p e s m args below meth c n0 ad0 Z (bp + 3) ls ((0, M q 1) :: st) w M cn) : Wb l D kA ro RM id A p e s m args below meth c n0 ad0 Z bp ls ((2, q) :: st) w M cn := by
  obtain ⟨hx, hb, hr, hlk, hml, hown, hnm, hts, hen, hK, hA⟩ := C
  intro ad H locs lsA a1 a2 a3 a4 a5 a6 a7
  subst hi
  have hk := h ad H locs lsA a1 a2 a3 a4 a5 (okS_cons (v := (0, M q 1)) (a3.2.2.2.2.2.1 q 1 (lg_ro (by omega))) (okS_tl a6)) a7
  obtain ⟨ak, av, e1, e2, -, e4, -, -⟩ := hen.2.2.2.2.1 q q1 q2
  rw [← a3.2.2.2.2.2.2 q 1 (by omega)] at e4
  rw [List.map_cons, cV_ro (by omega) e1]
  rw [ho] at hown
  exact vk_getf hx hb e4 a3.2.2.1 hown (hts _ fj_coder) (fun _ h9 => h9) hd hk
end SN6
