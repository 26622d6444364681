section SN3
variable {l : Launch} {D : va_G} {kA : Nat → ClassId} {ro : Int → Option Nat} {RM : Mm_} {id : Nat} {A : Nat → Prop} {p : Program} {e : Env} {s : State} {m : MethodId} {args : Array Value} {below : List Frame} {meth : Method} {c : Code} {n0 : Nat} {ad0 : Nat → Nat} {Z : State → Prop}
theorem so_iadd (C : Cx D kA ro RM id A p s m args meth c) {bp : Nat} {ls : Lc_} {st : List Vl_} {w : Wd_} {M : Mm_} {cn : Cn_} {x y : Int} (hi : inI (x + y)) (hd : decode (byOf id) bp = .ok (.iadd, 1)) (h : Wb l D kA ro RM id A p e s m args below meth c n0 ad0 Z (bp + 1) ls ((0, x + y) :: st) w M cn) : Wb l D kA ro RM id A p e s m args below meth c n0 ad0 Z bp ls ((0, y) :: (0, x) :: st) w M cn := by
  obtain ⟨hx, hb, hr, hlk, hml, hown, hnm, hts, hen, hK, hA⟩ := C
  intro ad H locs lsA a1 a2 a3 a4 a5 a6 a7
  have hk := h ad H locs lsA a1 a2 a3 a4 a5 (okS_cons (v := (0, x + y)) hi (okS_tl (okS_tl a6))) a7
  have ox : okV w (0, x) := okS_hd (okS_tl a6)
  have oy : okV w (0, y) := okS_hd a6
  change W _ _ _ _ _ _ _ _ _ _ _ _ _ _ _ (F0 m (bp + 1) lsA (.int (Int32.ofInt (x + y)) :: st.map (cV ro ad))) at hk
  rw [Int32.ofInt_add] at hk
  exact lv_iadd hx hb hd hk
theorem so_isub (C : Cx D kA ro RM id A p s m args meth c) {bp : Nat} {ls : Lc_} {st : List Vl_} {w : Wd_} {M : Mm_} {cn : Cn_} {x y : Int} (hi : inI (x - y)) (hd : decode (byOf id) bp = .ok (.isub, 1)) (h : Wb l D kA ro RM id A p e s m args below meth c n0 ad0 Z (bp + 1) ls ((0, x - y) :: st) w M cn) : Wb l D kA ro RM id A p e s m args below meth c n0 ad0 Z bp ls ((0, y) :: (0, x) :: st) w M cn := by
  obtain ⟨hx, hb, hr, hlk, hml, hown, hnm, hts, hen, hK, hA⟩ := C
  intro ad H locs lsA a1 a2 a3 a4 a5 a6 a7
  have hk := h ad H locs lsA a1 a2 a3 a4 a5 (okS_cons (v := (0, x - y)) hi (okS_tl (okS_tl a6))) a7
  have ox : okV w (0, x) := okS_hd (okS_tl a6)
  have oy : okV w (0, y) := okS_hd a6
  change W _ _ _ _ _ _ _ _ _ _ _ _ _ _ _ (F0 m (bp + 1) lsA (.int (Int32.ofInt (x - y)) :: st.map (cV ro ad))) at hk
  rw [Int32.ofInt_sub] at hk
  exact lv_isub hx hb hd hk
theorem so_imul (C : Cx D kA ro RM id A p s m args meth c) {bp : Nat} {ls : Lc_} {st : List Vl_} {w : Wd_} {M : Mm_} {cn : Cn_} {x y : Int} (hi : inI (x * y)) (hd : decode (byOf id) bp = .ok (.imul, 1)) (h : Wb l D kA ro RM id A p e s m args below meth c n0 ad0 Z (bp + 1) ls ((0, x * y) :: st) w M cn) : Wb l D kA ro RM id A p e s m args below meth c n0 ad0 Z bp ls ((0, y) :: (0, x) :: st) w M cn := by
  obtain ⟨hx, hb, hr, hlk, hml, hown, hnm, hts, hen, hK, hA⟩ := C
  intro ad H locs lsA a1 a2 a3 a4 a5 a6 a7
  have hk := h ad H locs lsA a1 a2 a3 a4 a5 (okS_cons (v := (0, x * y)) hi (okS_tl (okS_tl a6))) a7
  have ox : okV w (0, x) := okS_hd (okS_tl a6)
  have oy : okV w (0, y) := okS_hd a6
  change W _ _ _ _ _ _ _ _ _ _ _ _ _ _ _ (F0 m (bp + 1) lsA (.int (Int32.ofInt (x * y)) :: st.map (cV ro ad))) at hk
  rw [Int32.ofInt_mul] at hk
  exact lv_imul hx hb hd hk
theorem so_ladd (C : Cx D kA ro RM id A p s m args meth c) {bp : Nat} {ls : Lc_} {st : List Vl_} {w : Wd_} {M : Mm_} {cn : Cn_} {x y : Int} (hi : inL (x + y)) (hd : decode (byOf id) bp = .ok (.ladd, 1)) (h : Wb l D kA ro RM id A p e s m args below meth c n0 ad0 Z (bp + 1) ls ((1, x + y) :: st) w M cn) : Wb l D kA ro RM id A p e s m args below meth c n0 ad0 Z bp ls ((1, y) :: (1, x) :: st) w M cn := by
  obtain ⟨hx, hb, hr, hlk, hml, hown, hnm, hts, hen, hK, hA⟩ := C
  intro ad H locs lsA a1 a2 a3 a4 a5 a6 a7
  have hk := h ad H locs lsA a1 a2 a3 a4 a5 (okS_cons (v := (1, x + y)) hi (okS_tl (okS_tl a6))) a7
  have ox : okV w (1, x) := okS_hd (okS_tl a6)
  have oy : okV w (1, y) := okS_hd a6
  change W _ _ _ _ _ _ _ _ _ _ _ _ _ _ _ (F0 m (bp + 1) lsA (.long (Int64.ofInt (x + y)) :: st.map (cV ro ad))) at hk
  rw [Int64.ofInt_add] at hk
  exact lv_ladd hx hb hd hk
theorem so_lsub (C : Cx D kA ro RM id A p s m args meth c) {bp : Nat} {ls : Lc_} {st : List Vl_} {w : Wd_} {M : Mm_} {cn : Cn_} {x y : Int} (hi : inL (x - y)) (hd : decode (byOf id) bp = .ok (.lsub, 1)) (h : Wb l D kA ro RM id A p e s m args below meth c n0 ad0 Z (bp + 1) ls ((1, x - y) :: st) w M cn) : Wb l D kA ro RM id A p e s m args below meth c n0 ad0 Z bp ls ((1, y) :: (1, x) :: st) w M cn := by
  obtain ⟨hx, hb, hr, hlk, hml, hown, hnm, hts, hen, hK, hA⟩ := C
  intro ad H locs lsA a1 a2 a3 a4 a5 a6 a7
  have hk := h ad H locs lsA a1 a2 a3 a4 a5 (okS_cons (v := (1, x - y)) hi (okS_tl (okS_tl a6))) a7
  have ox : okV w (1, x) := okS_hd (okS_tl a6)
  have oy : okV w (1, y) := okS_hd a6
  change W _ _ _ _ _ _ _ _ _ _ _ _ _ _ _ (F0 m (bp + 1) lsA (.long (Int64.ofInt (x - y)) :: st.map (cV ro ad))) at hk
  rw [Int64.ofInt_sub] at hk
  exact lv_lsub hx hb hd hk
theorem so_lmul (C : Cx D kA ro RM id A p s m args meth c) {bp : Nat} {ls : Lc_} {st : List Vl_} {w : Wd_} {M : Mm_} {cn : Cn_} {x y : Int} (hi : inL (x * y)) (hd : decode (byOf id) bp = .ok (.lmul, 1)) (h : Wb l D kA ro RM id A p e s m args below meth c n0 ad0 Z (bp + 1) ls ((1, x * y) :: st) w M cn) : Wb l D kA ro RM id A p e s m args below meth c n0 ad0 Z bp ls ((1, y) :: (1, x) :: st) w M cn := by
  obtain ⟨hx, hb, hr, hlk, hml, hown, hnm, hts, hen, hK, hA⟩ := C
  intro ad H locs lsA a1 a2 a3 a4 a5 a6 a7
  have hk := h ad H locs lsA a1 a2 a3 a4 a5 (okS_cons (v := (1, x * y)) hi (okS_tl (okS_tl a6))) a7
  have ox : okV w (1, x) := okS_hd (okS_tl a6)
  have oy : okV w (1, y) := okS_hd a6
  change W _ _ _ _ _ _ _ _ _ _ _ _ _ _ _ (F0 m (bp + 1) lsA (.long (Int64.ofInt (x * y)) :: st.map (cV ro ad))) at hk
  rw [Int64.ofInt_mul] at hk
  exact lv_lmul hx hb hd hk
theorem so_idiv (C : Cx D kA ro RM id A p s m args meth c) {bp : Nat} {ls : Lc_} {st : List Vl_} {w : Wd_} {M : Mm_} {cn : Cn_} {x y : Int} (h0 : 0 ≤ x ∧ 0 < y) (hd : decode (byOf id) bp = .ok (.idiv, 1)) (h : Wb l D kA ro RM id A p e s m args below meth c n0 ad0 Z (bp + 1) ls ((0, x / y) :: st) w M cn) : Wb l D kA ro RM id A p e s m args below meth c n0 ad0 Z bp ls ((0, y) :: (0, x) :: st) w M cn := by
  obtain ⟨hx, hb, hr, hlk, hml, hown, hnm, hts, hen, hK, hA⟩ := C
  intro ad H locs lsA a1 a2 a3 a4 a5 a6 a7
  have hk := h ad H locs lsA a1 a2 a3 a4 a5 (okS_cons (v := (0, x / y)) (of_div_in (okS_hd (okS_tl a6)) h0) (okS_tl (okS_tl a6))) a7
  have ox : okV w (0, x) := okS_hd (okS_tl a6)
  have oy : okV w (0, y) := okS_hd a6
  change W _ _ _ _ _ _ _ _ _ _ _ _ _ _ _ (F0 m (bp + 1) lsA (.int (Int32.ofInt (x / y)) :: st.map (cV ro ad))) at hk
  rw [← of_div ox oy h0] at hk
  exact lv_idiv hx hb hd (of_ne0 oy h0.2) hk
theorem so_irem (C : Cx D kA ro RM id A p s m args meth c) {bp : Nat} {ls : Lc_} {st : List Vl_} {w : Wd_} {M : Mm_} {cn : Cn_} {x y : Int} (h0 : 0 ≤ x ∧ 0 < y) (hd : decode (byOf id) bp = .ok (.irem, 1)) (h : Wb l D kA ro RM id A p e s m args below meth c n0 ad0 Z (bp + 1) ls ((0, x % y) :: st) w M cn) : Wb l D kA ro RM id A p e s m args below meth c n0 ad0 Z bp ls ((0, y) :: (0, x) :: st) w M cn := by
  obtain ⟨hx, hb, hr, hlk, hml, hown, hnm, hts, hen, hK, hA⟩ := C
  intro ad H locs lsA a1 a2 a3 a4 a5 a6 a7
  have hk := h ad H locs lsA a1 a2 a3 a4 a5 (okS_cons (v := (0, x % y)) (of_rem_in (okS_hd a6) h0) (okS_tl (okS_tl a6))) a7
  have ox : okV w (0, x) := okS_hd (okS_tl a6)
  have oy : okV w (0, y) := okS_hd a6
  change W _ _ _ _ _ _ _ _ _ _ _ _ _ _ _ (F0 m (bp + 1) lsA (.int (Int32.ofInt (x % y)) :: st.map (cV ro ad))) at hk
  rw [← of_rem ox oy h0] at hk
  exact lv_irem hx hb hd (of_ne0 oy h0.2) hk
theorem so_iand (C : Cx D kA ro RM id A p s m args meth c) {bp : Nat} {ls : Lc_} {st : List Vl_} {w : Wd_} {M : Mm_} {cn : Cn_} {x y : Int} (hd : decode (byOf id) bp = .ok (.iand, 1)) (h : Wb l D kA ro RM id A p e s m args below meth c n0 ad0 Z (bp + 1) ls ((0, andI x y) :: st) w M cn) : Wb l D kA ro RM id A p e s m args below meth c n0 ad0 Z bp ls ((0, y) :: (0, x) :: st) w M cn := by
  obtain ⟨hx, hb, hr, hlk, hml, hown, hnm, hts, hen, hK, hA⟩ := C
  intro ad H locs lsA a1 a2 a3 a4 a5 a6 a7
  have hk := h ad H locs lsA a1 a2 a3 a4 a5 (okS_cons (v := (0, andI x y)) (inI_to _) (okS_tl (okS_tl a6))) a7
  have ox : okV w (0, x) := okS_hd (okS_tl a6)
  have oy : okV w (0, y) := okS_hd a6
  change W _ _ _ _ _ _ _ _ _ _ _ _ _ _ _ (F0 m (bp + 1) lsA (.int (Int32.ofInt (andI x y)) :: st.map (cV ro ad))) at hk
  rw [show Int32.ofInt (andI x y) = _ from of32_to _] at hk
  exact lv_iand hx hb hd hk
theorem so_ior (C : Cx D kA ro RM id A p s m args meth c) {bp : Nat} {ls : Lc_} {st : List Vl_} {w : Wd_} {M : Mm_} {cn : Cn_} {x y : Int} (hd : decode (byOf id) bp = .ok (.ior, 1)) (h : Wb l D kA ro RM id A p e s m args below meth c n0 ad0 Z (bp + 1) ls ((0, orI x y) :: st) w M cn) : Wb l D kA ro RM id A p e s m args below meth c n0 ad0 Z bp ls ((0, y) :: (0, x) :: st) w M cn := by
  obtain ⟨hx, hb, hr, hlk, hml, hown, hnm, hts, hen, hK, hA⟩ := C
  intro ad H locs lsA a1 a2 a3 a4 a5 a6 a7
  have hk := h ad H locs lsA a1 a2 a3 a4 a5 (okS_cons (v := (0, orI x y)) (inI_to _) (okS_tl (okS_tl a6))) a7
  have ox : okV w (0, x) := okS_hd (okS_tl a6)
  have oy : okV w (0, y) := okS_hd a6
  change W _ _ _ _ _ _ _ _ _ _ _ _ _ _ _ (F0 m (bp + 1) lsA (.int (Int32.ofInt (orI x y)) :: st.map (cV ro ad))) at hk
  rw [show Int32.ofInt (orI x y) = _ from of32_to _] at hk
  exact lv_ior hx hb hd hk
theorem so_ixor (C : Cx D kA ro RM id A p s m args meth c) {bp : Nat} {ls : Lc_} {st : List Vl_} {w : Wd_} {M : Mm_} {cn : Cn_} {x y : Int} (hd : decode (byOf id) bp = .ok (.ixor, 1)) (h : Wb l D kA ro RM id A p e s m args below meth c n0 ad0 Z (bp + 1) ls ((0, xorI x y) :: st) w M cn) : Wb l D kA ro RM id A p e s m args below meth c n0 ad0 Z bp ls ((0, y) :: (0, x) :: st) w M cn := by
  obtain ⟨hx, hb, hr, hlk, hml, hown, hnm, hts, hen, hK, hA⟩ := C
  intro ad H locs lsA a1 a2 a3 a4 a5 a6 a7
  have hk := h ad H locs lsA a1 a2 a3 a4 a5 (okS_cons (v := (0, xorI x y)) (inI_to _) (okS_tl (okS_tl a6))) a7
  have ox : okV w (0, x) := okS_hd (okS_tl a6)
  have oy : okV w (0, y) := okS_hd a6
  change W _ _ _ _ _ _ _ _ _ _ _ _ _ _ _ (F0 m (bp + 1) lsA (.int (Int32.ofInt (xorI x y)) :: st.map (cV ro ad))) at hk
  rw [show Int32.ofInt (xorI x y) = _ from of32_to _] at hk
  exact lv_ixor hx hb hd hk
theorem so_ishl (C : Cx D kA ro RM id A p s m args meth c) {bp : Nat} {ls : Lc_} {st : List Vl_} {w : Wd_} {M : Mm_} {cn : Cn_} {x y : Int} (hd : decode (byOf id) bp = .ok (.ishl, 1)) (h : Wb l D kA ro RM id A p e s m args below meth c n0 ad0 Z (bp + 1) ls ((0, shlI x y) :: st) w M cn) : Wb l D kA ro RM id A p e s m args below meth c n0 ad0 Z bp ls ((0, y) :: (0, x) :: st) w M cn := by
  obtain ⟨hx, hb, hr, hlk, hml, hown, hnm, hts, hen, hK, hA⟩ := C
  intro ad H locs lsA a1 a2 a3 a4 a5 a6 a7
  have hk := h ad H locs lsA a1 a2 a3 a4 a5 (okS_cons (v := (0, shlI x y)) (inI_to _) (okS_tl (okS_tl a6))) a7
  have ox : okV w (0, x) := okS_hd (okS_tl a6)
  have oy : okV w (0, y) := okS_hd a6
  change W _ _ _ _ _ _ _ _ _ _ _ _ _ _ _ (F0 m (bp + 1) lsA (.int (Int32.ofInt (shlI x y)) :: st.map (cV ro ad))) at hk
  rw [show Int32.ofInt (shlI x y) = _ from of32_to _] at hk
  exact lv_ishl hx hb hd hk
theorem so_ishr (C : Cx D kA ro RM id A p s m args meth c) {bp : Nat} {ls : Lc_} {st : List Vl_} {w : Wd_} {M : Mm_} {cn : Cn_} {x y : Int} (hd : decode (byOf id) bp = .ok (.ishr, 1)) (h : Wb l D kA ro RM id A p e s m args below meth c n0 ad0 Z (bp + 1) ls ((0, shrI x y) :: st) w M cn) : Wb l D kA ro RM id A p e s m args below meth c n0 ad0 Z bp ls ((0, y) :: (0, x) :: st) w M cn := by
  obtain ⟨hx, hb, hr, hlk, hml, hown, hnm, hts, hen, hK, hA⟩ := C
  intro ad H locs lsA a1 a2 a3 a4 a5 a6 a7
  have hk := h ad H locs lsA a1 a2 a3 a4 a5 (okS_cons (v := (0, shrI x y)) (inI_to _) (okS_tl (okS_tl a6))) a7
  have ox : okV w (0, x) := okS_hd (okS_tl a6)
  have oy : okV w (0, y) := okS_hd a6
  change W _ _ _ _ _ _ _ _ _ _ _ _ _ _ _ (F0 m (bp + 1) lsA (.int (Int32.ofInt (shrI x y)) :: st.map (cV ro ad))) at hk
  rw [show Int32.ofInt (shrI x y) = _ from of32_to _] at hk
  exact lv_ishr hx hb hd hk
theorem so_iushr (C : Cx D kA ro RM id A p s m args meth c) {bp : Nat} {ls : Lc_} {st : List Vl_} {w : Wd_} {M : Mm_} {cn : Cn_} {x y : Int} (hd : decode (byOf id) bp = .ok (.iushr, 1)) (h : Wb l D kA ro RM id A p e s m args below meth c n0 ad0 Z (bp + 1) ls ((0, ushrI x y) :: st) w M cn) : Wb l D kA ro RM id A p e s m args below meth c n0 ad0 Z bp ls ((0, y) :: (0, x) :: st) w M cn := by
  obtain ⟨hx, hb, hr, hlk, hml, hown, hnm, hts, hen, hK, hA⟩ := C
  intro ad H locs lsA a1 a2 a3 a4 a5 a6 a7
  have hk := h ad H locs lsA a1 a2 a3 a4 a5 (okS_cons (v := (0, ushrI x y)) (inI_to _) (okS_tl (okS_tl a6))) a7
  have ox : okV w (0, x) := okS_hd (okS_tl a6)
  have oy : okV w (0, y) := okS_hd a6
  exact lv_iushr hx hb hd (of32_to _).symm hk
theorem so_land (C : Cx D kA ro RM id A p s m args meth c) {bp : Nat} {ls : Lc_} {st : List Vl_} {w : Wd_} {M : Mm_} {cn : Cn_} {x y : Int} (hd : decode (byOf id) bp = .ok (.land, 1)) (h : Wb l D kA ro RM id A p e s m args below meth c n0 ad0 Z (bp + 1) ls ((1, andL x y) :: st) w M cn) : Wb l D kA ro RM id A p e s m args below meth c n0 ad0 Z bp ls ((1, y) :: (1, x) :: st) w M cn := by
  obtain ⟨hx, hb, hr, hlk, hml, hown, hnm, hts, hen, hK, hA⟩ := C
  intro ad H locs lsA a1 a2 a3 a4 a5 a6 a7
  have hk := h ad H locs lsA a1 a2 a3 a4 a5 (okS_cons (v := (1, andL x y)) (inL_to _) (okS_tl (okS_tl a6))) a7
  have ox : okV w (1, x) := okS_hd (okS_tl a6)
  have oy : okV w (1, y) := okS_hd a6
  change W _ _ _ _ _ _ _ _ _ _ _ _ _ _ _ (F0 m (bp + 1) lsA (.long (Int64.ofInt (andL x y)) :: st.map (cV ro ad))) at hk
  rw [show Int64.ofInt (andL x y) = _ from of64_to _] at hk
  exact lv_land hx hb hd hk
theorem so_lor (C : Cx D kA ro RM id A p s m args meth c) {bp : Nat} {ls : Lc_} {st : List Vl_} {w : Wd_} {M : Mm_} {cn : Cn_} {x y : Int} (hd : decode (byOf id) bp = .ok (.lor, 1)) (h : Wb l D kA ro RM id A p e s m args below meth c n0 ad0 Z (bp + 1) ls ((1, orL x y) :: st) w M cn) : Wb l D kA ro RM id A p e s m args below meth c n0 ad0 Z bp ls ((1, y) :: (1, x) :: st) w M cn := by
  obtain ⟨hx, hb, hr, hlk, hml, hown, hnm, hts, hen, hK, hA⟩ := C
  intro ad H locs lsA a1 a2 a3 a4 a5 a6 a7
  have hk := h ad H locs lsA a1 a2 a3 a4 a5 (okS_cons (v := (1, orL x y)) (inL_to _) (okS_tl (okS_tl a6))) a7
  have ox : okV w (1, x) := okS_hd (okS_tl a6)
  have oy : okV w (1, y) := okS_hd a6
  change W _ _ _ _ _ _ _ _ _ _ _ _ _ _ _ (F0 m (bp + 1) lsA (.long (Int64.ofInt (orL x y)) :: st.map (cV ro ad))) at hk
  rw [show Int64.ofInt (orL x y) = _ from of64_to _] at hk
  exact lv_lor hx hb hd hk
theorem so_lxor (C : Cx D kA ro RM id A p s m args meth c) {bp : Nat} {ls : Lc_} {st : List Vl_} {w : Wd_} {M : Mm_} {cn : Cn_} {x y : Int} (hd : decode (byOf id) bp = .ok (.lxor, 1)) (h : Wb l D kA ro RM id A p e s m args below meth c n0 ad0 Z (bp + 1) ls ((1, xorL x y) :: st) w M cn) : Wb l D kA ro RM id A p e s m args below meth c n0 ad0 Z bp ls ((1, y) :: (1, x) :: st) w M cn := by
  obtain ⟨hx, hb, hr, hlk, hml, hown, hnm, hts, hen, hK, hA⟩ := C
  intro ad H locs lsA a1 a2 a3 a4 a5 a6 a7
  have hk := h ad H locs lsA a1 a2 a3 a4 a5 (okS_cons (v := (1, xorL x y)) (inL_to _) (okS_tl (okS_tl a6))) a7
  have ox : okV w (1, x) := okS_hd (okS_tl a6)
  have oy : okV w (1, y) := okS_hd a6
  change W _ _ _ _ _ _ _ _ _ _ _ _ _ _ _ (F0 m (bp + 1) lsA (.long (Int64.ofInt (xorL x y)) :: st.map (cV ro ad))) at hk
  rw [show Int64.ofInt (xorL x y) = _ from of64_to _] at hk
  exact lv_lxor hx hb hd hk
theorem so_lshl (C : Cx D kA ro RM id A p s m args meth c) {bp : Nat} {ls : Lc_} {st : List Vl_} {w : Wd_} {M : Mm_} {cn : Cn_} {x y : Int} (hd : decode (byOf id) bp = .ok (.lshl, 1)) (h : Wb l D kA ro RM id A p e s m args below meth c n0 ad0 Z (bp + 1) ls ((1, shlL x y) :: st) w M cn) : Wb l D kA ro RM id A p e s m args below meth c n0 ad0 Z bp ls ((0, y) :: (1, x) :: st) w M cn := by
  obtain ⟨hx, hb, hr, hlk, hml, hown, hnm, hts, hen, hK, hA⟩ := C
  intro ad H locs lsA a1 a2 a3 a4 a5 a6 a7
  have hk := h ad H locs lsA a1 a2 a3 a4 a5 (okS_cons (v := (1, shlL x y)) (inL_to _) (okS_tl (okS_tl a6))) a7
  have ox : okV w (1, x) := okS_hd (okS_tl a6)
  have oy : okV w (0, y) := okS_hd a6
  exact lv_lshl hx hb hd (of64_to _).symm hk
theorem so_lshr (C : Cx D kA ro RM id A p s m args meth c) {bp : Nat} {ls : Lc_} {st : List Vl_} {w : Wd_} {M : Mm_} {cn : Cn_} {x y : Int} (hd : decode (byOf id) bp = .ok (.lshr, 1)) (h : Wb l D kA ro RM id A p e s m args below meth c n0 ad0 Z (bp + 1) ls ((1, shrL x y) :: st) w M cn) : Wb l D kA ro RM id A p e s m args below meth c n0 ad0 Z bp ls ((0, y) :: (1, x) :: st) w M cn := by
  obtain ⟨hx, hb, hr, hlk, hml, hown, hnm, hts, hen, hK, hA⟩ := C
  intro ad H locs lsA a1 a2 a3 a4 a5 a6 a7
  have hk := h ad H locs lsA a1 a2 a3 a4 a5 (okS_cons (v := (1, shrL x y)) (inL_to _) (okS_tl (okS_tl a6))) a7
  have ox : okV w (1, x) := okS_hd (okS_tl a6)
  have oy : okV w (0, y) := okS_hd a6
  exact lv_lshr hx hb hd (of64_to _).symm hk
theorem so_lushr (C : Cx D kA ro RM id A p s m args meth c) {bp : Nat} {ls : Lc_} {st : List Vl_} {w : Wd_} {M : Mm_} {cn : Cn_} {x y : Int} (hd : decode (byOf id) bp = .ok (.lushr, 1)) (h : Wb l D kA ro RM id A p e s m args below meth c n0 ad0 Z (bp + 1) ls ((1, ushrL x y) :: st) w M cn) : Wb l D kA ro RM id A p e s m args below meth c n0 ad0 Z bp ls ((0, y) :: (1, x) :: st) w M cn := by
  obtain ⟨hx, hb, hr, hlk, hml, hown, hnm, hts, hen, hK, hA⟩ := C
  intro ad H locs lsA a1 a2 a3 a4 a5 a6 a7
  have hk := h ad H locs lsA a1 a2 a3 a4 a5 (okS_cons (v := (1, ushrL x y)) (inL_to _) (okS_tl (okS_tl a6))) a7
  have ox : okV w (1, x) := okS_hd (okS_tl a6)
  have oy : okV w (0, y) := okS_hd a6
  exact lv_lushr hx hb hd (of64_to _).symm hk
theorem so_i2l (C : Cx D kA ro RM id A p s m args meth c) {bp : Nat} {ls : Lc_} {st : List Vl_} {w : Wd_} {M : Mm_} {cn : Cn_} {x : Int} (hd : decode (byOf id) bp = .ok (.i2l, 1)) (h : Wb l D kA ro RM id A p e s m args below meth c n0 ad0 Z (bp + 1) ls ((1, x) :: st) w M cn) : Wb l D kA ro RM id A p e s m args below meth c n0 ad0 Z bp ls ((0, x) :: st) w M cn := by
  obtain ⟨hx, hb, hr, hlk, hml, hown, hnm, hts, hen, hK, hA⟩ := C
  intro ad H locs lsA a1 a2 a3 a4 a5 a6 a7
  have ox : okV w (0, x) := okS_hd a6
  exact lv_i2l hx hb hd (of_i2l ox) (h ad H locs lsA a1 a2 a3 a4 a5 (okS_cons (v := (1, x)) (inI_L ox) (okS_tl a6)) a7)
theorem so_l2i (C : Cx D kA ro RM id A p s m args meth c) {bp : Nat} {ls : Lc_} {st : List Vl_} {w : Wd_} {M : Mm_} {cn : Cn_} {x : Int} (hd : decode (byOf id) bp = .ok (.l2i, 1)) (h : Wb l D kA ro RM id A p e s m args below meth c n0 ad0 Z (bp + 1) ls ((0, l2iI x) :: st) w M cn) : Wb l D kA ro RM id A p e s m args below meth c n0 ad0 Z bp ls ((1, x) :: st) w M cn := by
  obtain ⟨hx, hb, hr, hlk, hml, hown, hnm, hts, hen, hK, hA⟩ := C
  intro ad H locs lsA a1 a2 a3 a4 a5 a6 a7
  have ox : okV w (1, x) := okS_hd a6
  exact lv_l2i hx hb hd (of32_to _).symm (h ad H locs lsA a1 a2 a3 a4 a5 (okS_cons (v := (0, l2iI x)) (inI_to _) (okS_tl a6)) a7)
theorem so_i2c (C : Cx D kA ro RM id A p s m args meth c) {bp : Nat} {ls : Lc_} {st : List Vl_} {w : Wd_} {M : Mm_} {cn : Cn_} {x : Int} (hd : decode (byOf id) bp = .ok (.i2c, 1)) (h : Wb l D kA ro RM id A p e s m args below meth c n0 ad0 Z (bp + 1) ls ((0, i2cI x) :: st) w M cn) : Wb l D kA ro RM id A p e s m args below meth c n0 ad0 Z bp ls ((0, x) :: st) w M cn := by
  obtain ⟨hx, hb, hr, hlk, hml, hown, hnm, hts, hen, hK, hA⟩ := C
  intro ad H locs lsA a1 a2 a3 a4 a5 a6 a7
  have ox : okV w (0, x) := okS_hd a6
  exact lv_i2c hx hb hd of_i2c (h ad H locs lsA a1 a2 a3 a4 a5 (okS_cons (v := (0, i2cI x)) (i2c_in x) (okS_tl a6)) a7)
theorem so_lcmp (C : Cx D kA ro RM id A p s m args meth c) {bp : Nat} {ls : Lc_} {st : List Vl_} {w : Wd_} {M : Mm_} {cn : Cn_} {x y : Int} (hd : decode (byOf id) bp = .ok (.lcmp, 1)) (h : Wb l D kA ro RM id A p e s m args below meth c n0 ad0 Z (bp + 1) ls ((0, cmpL x y) :: st) w M cn) : Wb l D kA ro RM id A p e s m args below meth c n0 ad0 Z bp ls ((1, y) :: (1, x) :: st) w M cn := by
  obtain ⟨hx, hb, hr, hlk, hml, hown, hnm, hts, hen, hK, hA⟩ := C
  intro ad H locs lsA a1 a2 a3 a4 a5 a6 a7
  have hk := h ad H locs lsA a1 a2 a3 a4 a5 (okS_cons (v := (0, cmpL x y)) (cmp_in x y) (okS_tl (okS_tl a6))) a7
  have ox : okV w (1, x) := okS_hd (okS_tl a6)
  have oy : okV w (1, y) := okS_hd a6
  change W _ _ _ _ _ _ _ _ _ _ _ _ _ _ _ (F0 m (bp + 1) lsA (.int (Int32.ofInt (cmpL x y)) :: st.map (cV ro ad))) at hk
  rw [← of_cmp ox oy] at hk
  exact W.lcmp hx hb hd hk
theorem so_iinc (C : Cx D kA ro RM id A p s m args meth c) {bp : Nat} {ls : Lc_} {st : List Vl_} {w : Wd_} {M : Mm_} {cn : Cn_} {i : Nat} {x z : Int} (hl : ls[i]? = some (some (0, x))) (hn : i < mxL id) (hi : inI (x + z)) (hd : decode (byOf id) bp = .ok (.iinc i z, 3)) (h : Wb l D kA ro RM id A p e s m args below meth c n0 ad0 Z (bp + 3) (setL ls i (0, x + z)) st w M cn) : Wb l D kA ro RM id A p e s m args below meth c n0 ad0 Z bp ls st w M cn := by
  obtain ⟨hx, hb, hr, hlk, hml, hown, hnm, hts, hen, hK, hA⟩ := C
  intro ad H locs lsA a1 a2 a3 a4 a5 a6 a7
  have hmem : (i, cV ro ad (0, x)) ∈ cL ro ad ls := mem_cL.mpr ⟨(0, x), hl, rfl⟩
  obtain ⟨k0, hk0⟩ := List.getElem?_of_mem hmem
  refine lv_iinc (v := Int32.ofInt (x + z)) hx hb hd a4.has hk0 (Int32.ofInt_add x z).symm hn rfl (fun ls2 hl2 => h ad H locs ls2 a1 a2 a3 (LH.of hl2 (by rw [lth_set]; exact a4.2.1) (fun j v hv => ?_)) (okL_set a5 hi) a6 a7)
  rcases set_at hv with ⟨e1, e2⟩ | ⟨e1, e2, e3⟩
  · rw [e1, e2]; exact List.mem_cons_self
  · refine List.mem_cons_of_mem _ (List.mem_filter.mpr ⟨mem_cL.mpr ⟨v, e2, rfl⟩, ?_⟩)
    have e5 : ¬ (j + 1 = i ∧ (cV ro ad v).category = 2) := fun q => e3 ⟨q.1, by have := q.2; rw [cV_cat] at this; unfold catV at this; split at this <;> omega⟩
    simp only [Bool.and_eq_true, Bool.not_eq_true', beq_eq_false_iff_ne, ne_eq, Bool.and_eq_false_imp, beq_iff_eq]
    exact ⟨e1, fun q1 q2 => e5 ⟨q1, q2⟩⟩
theorem so_icmp_eq (C : Cx D kA ro RM id A p s m args meth c) {bp : Nat} {ls : Lc_} {st : List Vl_} {w : Wd_} {M : Mm_} {cn : Cn_} {x y f : Int} {t : Nat} (ht : (bp : Int) + f = (t : Int)) (hd : decode (byOf id) bp = .ok (.if_icmp .eq f, 3)) (h1 : cnd .eq x y → Wb l D kA ro RM id A p e s m args below meth c n0 ad0 Z t ls st w M cn) (h2 : ¬ cnd .eq x y → Wb l D kA ro RM id A p e s m args below meth c n0 ad0 Z (bp + 3) ls st w M cn) : Wb l D kA ro RM id A p e s m args below meth c n0 ad0 Z bp ls ((0, y) :: (0, x) :: st) w M cn := by
  obtain ⟨hx, hb, hr, hlk, hml, hown, hnm, hts, hen, hK, hA⟩ := C
  intro ad H locs lsA a1 a2 a3 a4 a5 a6 a7
  have ox : inI x := okS_hd (okS_tl a6)
  have oy : inI y := okS_hd a6
  have ht2 := fun q => h1 q ad H locs lsA a1 a2 a3 a4 a5 (okS_tl (okS_tl a6)) a7
  have hf2 := fun q => h2 q ad H locs lsA a1 a2 a3 a4 a5 (okS_tl (okS_tl a6)) a7
  exact lv_icmp_eq hx hb hd ht (fun q => ht2 ((i32_eq ox oy).mp q)) (fun q => hf2 (fun q2 => q ((i32_eq ox oy).mpr q2)))
theorem so_if_eq (C : Cx D kA ro RM id A p s m args meth c) {bp : Nat} {ls : Lc_} {st : List Vl_} {w : Wd_} {M : Mm_} {cn : Cn_} {x f : Int} {t : Nat} (ht : (bp : Int) + f = (t : Int)) (hd : decode (byOf id) bp = .ok (.ifCond .eq f, 3)) (h1 : cnd .eq x 0 → Wb l D kA ro RM id A p e s m args below meth c n0 ad0 Z t ls st w M cn) (h2 : ¬ cnd .eq x 0 → Wb l D kA ro RM id A p e s m args below meth c n0 ad0 Z (bp + 3) ls st w M cn) : Wb l D kA ro RM id A p e s m args below meth c n0 ad0 Z bp ls ((0, x) :: st) w M cn := by
  obtain ⟨hx, hb, hr, hlk, hml, hown, hnm, hts, hen, hK, hA⟩ := C
  intro ad H locs lsA a1 a2 a3 a4 a5 a6 a7
  have ox : inI x := okS_hd a6
  have ht2 := fun q => h1 q ad H locs lsA a1 a2 a3 a4 a5 (okS_tl a6) a7
  have hf2 := fun q => h2 q ad H locs lsA a1 a2 a3 a4 a5 (okS_tl a6) a7
  exact lv_if_eq hx hb hd ht (fun q => ht2 ((i32_eq ox in0).mp q)) (fun q => hf2 (fun q2 => q ((i32_eq ox in0).mpr q2)))
theorem so_icmp_ne (C : Cx D kA ro RM id A p s m args meth c) {bp : Nat} {ls : Lc_} {st : List Vl_} {w : Wd_} {M : Mm_} {cn : Cn_} {x y f : Int} {t : Nat} (ht : (bp : Int) + f = (t : Int)) (hd : decode (byOf id) bp = .ok (.if_icmp .ne f, 3)) (h1 : cnd .ne x y → Wb l D kA ro RM id A p e s m args below meth c n0 ad0 Z t ls st w M cn) (h2 : ¬ cnd .ne x y → Wb l D kA ro RM id A p e s m args below meth c n0 ad0 Z (bp + 3) ls st w M cn) : Wb l D kA ro RM id A p e s m args below meth c n0 ad0 Z bp ls ((0, y) :: (0, x) :: st) w M cn := by
  obtain ⟨hx, hb, hr, hlk, hml, hown, hnm, hts, hen, hK, hA⟩ := C
  intro ad H locs lsA a1 a2 a3 a4 a5 a6 a7
  have ox : inI x := okS_hd (okS_tl a6)
  have oy : inI y := okS_hd a6
  have ht2 := fun q => h1 q ad H locs lsA a1 a2 a3 a4 a5 (okS_tl (okS_tl a6)) a7
  have hf2 := fun q => h2 q ad H locs lsA a1 a2 a3 a4 a5 (okS_tl (okS_tl a6)) a7
  exact lv_icmp_ne hx hb hd ht (fun q => ht2 (fun q2 => q ((i32_eq ox oy).mpr q2))) (fun q => hf2 (fun q2 => q2 ((i32_eq ox oy).mp q)))
theorem so_if_ne (C : Cx D kA ro RM id A p s m args meth c) {bp : Nat} {ls : Lc_} {st : List Vl_} {w : Wd_} {M : Mm_} {cn : Cn_} {x f : Int} {t : Nat} (ht : (bp : Int) + f = (t : Int)) (hd : decode (byOf id) bp = .ok (.ifCond .ne f, 3)) (h1 : cnd .ne x 0 → Wb l D kA ro RM id A p e s m args below meth c n0 ad0 Z t ls st w M cn) (h2 : ¬ cnd .ne x 0 → Wb l D kA ro RM id A p e s m args below meth c n0 ad0 Z (bp + 3) ls st w M cn) : Wb l D kA ro RM id A p e s m args below meth c n0 ad0 Z bp ls ((0, x) :: st) w M cn := by
  obtain ⟨hx, hb, hr, hlk, hml, hown, hnm, hts, hen, hK, hA⟩ := C
  intro ad H locs lsA a1 a2 a3 a4 a5 a6 a7
  have ox : inI x := okS_hd a6
  have ht2 := fun q => h1 q ad H locs lsA a1 a2 a3 a4 a5 (okS_tl a6) a7
  have hf2 := fun q => h2 q ad H locs lsA a1 a2 a3 a4 a5 (okS_tl a6) a7
  exact lv_if_ne hx hb hd ht (fun q => ht2 (fun q2 => q ((i32_eq ox in0).mpr q2))) (fun q => hf2 (fun q2 => q2 ((i32_eq ox in0).mp q)))
theorem so_icmp_lt (C : Cx D kA ro RM id A p s m args meth c) {bp : Nat} {ls : Lc_} {st : List Vl_} {w : Wd_} {M : Mm_} {cn : Cn_} {x y f : Int} {t : Nat} (ht : (bp : Int) + f = (t : Int)) (hd : decode (byOf id) bp = .ok (.if_icmp .lt f, 3)) (h1 : cnd .lt x y → Wb l D kA ro RM id A p e s m args below meth c n0 ad0 Z t ls st w M cn) (h2 : ¬ cnd .lt x y → Wb l D kA ro RM id A p e s m args below meth c n0 ad0 Z (bp + 3) ls st w M cn) : Wb l D kA ro RM id A p e s m args below meth c n0 ad0 Z bp ls ((0, y) :: (0, x) :: st) w M cn := by
  obtain ⟨hx, hb, hr, hlk, hml, hown, hnm, hts, hen, hK, hA⟩ := C
  intro ad H locs lsA a1 a2 a3 a4 a5 a6 a7
  have ox : inI x := okS_hd (okS_tl a6)
  have oy : inI y := okS_hd a6
  have ht2 := fun q => h1 q ad H locs lsA a1 a2 a3 a4 a5 (okS_tl (okS_tl a6)) a7
  have hf2 := fun q => h2 q ad H locs lsA a1 a2 a3 a4 a5 (okS_tl (okS_tl a6)) a7
  exact lv_icmp_lt hx hb hd ht (fun q => ht2 ((i32_lt ox oy).mp q)) (fun q => hf2 (fun q2 => q ((i32_lt ox oy).mpr q2)))
theorem so_if_lt (C : Cx D kA ro RM id A p s m args meth c) {bp : Nat} {ls : Lc_} {st : List Vl_} {w : Wd_} {M : Mm_} {cn : Cn_} {x f : Int} {t : Nat} (ht : (bp : Int) + f = (t : Int)) (hd : decode (byOf id) bp = .ok (.ifCond .lt f, 3)) (h1 : cnd .lt x 0 → Wb l D kA ro RM id A p e s m args below meth c n0 ad0 Z t ls st w M cn) (h2 : ¬ cnd .lt x 0 → Wb l D kA ro RM id A p e s m args below meth c n0 ad0 Z (bp + 3) ls st w M cn) : Wb l D kA ro RM id A p e s m args below meth c n0 ad0 Z bp ls ((0, x) :: st) w M cn := by
  obtain ⟨hx, hb, hr, hlk, hml, hown, hnm, hts, hen, hK, hA⟩ := C
  intro ad H locs lsA a1 a2 a3 a4 a5 a6 a7
  have ox : inI x := okS_hd a6
  have ht2 := fun q => h1 q ad H locs lsA a1 a2 a3 a4 a5 (okS_tl a6) a7
  have hf2 := fun q => h2 q ad H locs lsA a1 a2 a3 a4 a5 (okS_tl a6) a7
  exact lv_if_lt hx hb hd ht (fun q => ht2 ((i32_lt ox in0).mp q)) (fun q => hf2 (fun q2 => q ((i32_lt ox in0).mpr q2)))
theorem so_icmp_ge (C : Cx D kA ro RM id A p s m args meth c) {bp : Nat} {ls : Lc_} {st : List Vl_} {w : Wd_} {M : Mm_} {cn : Cn_} {x y f : Int} {t : Nat} (ht : (bp : Int) + f = (t : Int)) (hd : decode (byOf id) bp = .ok (.if_icmp .ge f, 3)) (h1 : cnd .ge x y → Wb l D kA ro RM id A p e s m args below meth c n0 ad0 Z t ls st w M cn) (h2 : ¬ cnd .ge x y → Wb l D kA ro RM id A p e s m args below meth c n0 ad0 Z (bp + 3) ls st w M cn) : Wb l D kA ro RM id A p e s m args below meth c n0 ad0 Z bp ls ((0, y) :: (0, x) :: st) w M cn := by
  obtain ⟨hx, hb, hr, hlk, hml, hown, hnm, hts, hen, hK, hA⟩ := C
  intro ad H locs lsA a1 a2 a3 a4 a5 a6 a7
  have ox : inI x := okS_hd (okS_tl a6)
  have oy : inI y := okS_hd a6
  have ht2 := fun q => h1 q ad H locs lsA a1 a2 a3 a4 a5 (okS_tl (okS_tl a6)) a7
  have hf2 := fun q => h2 q ad H locs lsA a1 a2 a3 a4 a5 (okS_tl (okS_tl a6)) a7
  exact lv_icmp_ge hx hb hd ht (fun q => ht2 ((i32_le oy ox).mp q)) (fun q => hf2 (fun q2 => q ((i32_le oy ox).mpr q2)))
theorem so_if_ge (C : Cx D kA ro RM id A p s m args meth c) {bp : Nat} {ls : Lc_} {st : List Vl_} {w : Wd_} {M : Mm_} {cn : Cn_} {x f : Int} {t : Nat} (ht : (bp : Int) + f = (t : Int)) (hd : decode (byOf id) bp = .ok (.ifCond .ge f, 3)) (h1 : cnd .ge x 0 → Wb l D kA ro RM id A p e s m args below meth c n0 ad0 Z t ls st w M cn) (h2 : ¬ cnd .ge x 0 → Wb l D kA ro RM id A p e s m args below meth c n0 ad0 Z (bp + 3) ls st w M cn) : Wb l D kA ro RM id A p e s m args below meth c n0 ad0 Z bp ls ((0, x) :: st) w M cn := by
  obtain ⟨hx, hb, hr, hlk, hml, hown, hnm, hts, hen, hK, hA⟩ := C
  intro ad H locs lsA a1 a2 a3 a4 a5 a6 a7
  have ox : inI x := okS_hd a6
  have ht2 := fun q => h1 q ad H locs lsA a1 a2 a3 a4 a5 (okS_tl a6) a7
  have hf2 := fun q => h2 q ad H locs lsA a1 a2 a3 a4 a5 (okS_tl a6) a7
  exact lv_if_ge hx hb hd ht (fun q => ht2 ((i32_le in0 ox).mp q)) (fun q => hf2 (fun q2 => q ((i32_le in0 ox).mpr q2)))
theorem so_icmp_gt (C : Cx D kA ro RM id A p s m args meth c) {bp : Nat} {ls : Lc_} {st : List Vl_} {w : Wd_} {M : Mm_} {cn : Cn_} {x y f : Int} {t : Nat} (ht : (bp : Int) + f = (t : Int)) (hd : decode (byOf id) bp = .ok (.if_icmp .gt f, 3)) (h1 : cnd .gt x y → Wb l D kA ro RM id A p e s m args below meth c n0 ad0 Z t ls st w M cn) (h2 : ¬ cnd .gt x y → Wb l D kA ro RM id A p e s m args below meth c n0 ad0 Z (bp + 3) ls st w M cn) : Wb l D kA ro RM id A p e s m args below meth c n0 ad0 Z bp ls ((0, y) :: (0, x) :: st) w M cn := by
  obtain ⟨hx, hb, hr, hlk, hml, hown, hnm, hts, hen, hK, hA⟩ := C
  intro ad H locs lsA a1 a2 a3 a4 a5 a6 a7
  have ox : inI x := okS_hd (okS_tl a6)
  have oy : inI y := okS_hd a6
  have ht2 := fun q => h1 q ad H locs lsA a1 a2 a3 a4 a5 (okS_tl (okS_tl a6)) a7
  have hf2 := fun q => h2 q ad H locs lsA a1 a2 a3 a4 a5 (okS_tl (okS_tl a6)) a7
  exact lv_icmp_gt hx hb hd ht (fun q => ht2 ((i32_lt oy ox).mp q)) (fun q => hf2 (fun q2 => q ((i32_lt oy ox).mpr q2)))
theorem so_if_gt (C : Cx D kA ro RM id A p s m args meth c) {bp : Nat} {ls : Lc_} {st : List Vl_} {w : Wd_} {M : Mm_} {cn : Cn_} {x f : Int} {t : Nat} (ht : (bp : Int) + f = (t : Int)) (hd : decode (byOf id) bp = .ok (.ifCond .gt f, 3)) (h1 : cnd .gt x 0 → Wb l D kA ro RM id A p e s m args below meth c n0 ad0 Z t ls st w M cn) (h2 : ¬ cnd .gt x 0 → Wb l D kA ro RM id A p e s m args below meth c n0 ad0 Z (bp + 3) ls st w M cn) : Wb l D kA ro RM id A p e s m args below meth c n0 ad0 Z bp ls ((0, x) :: st) w M cn := by
  obtain ⟨hx, hb, hr, hlk, hml, hown, hnm, hts, hen, hK, hA⟩ := C
  intro ad H locs lsA a1 a2 a3 a4 a5 a6 a7
  have ox : inI x := okS_hd a6
  have ht2 := fun q => h1 q ad H locs lsA a1 a2 a3 a4 a5 (okS_tl a6) a7
  have hf2 := fun q => h2 q ad H locs lsA a1 a2 a3 a4 a5 (okS_tl a6) a7
  exact lv_if_gt hx hb hd ht (fun q => ht2 ((i32_lt in0 ox).mp q)) (fun q => hf2 (fun q2 => q ((i32_lt in0 ox).mpr q2)))
theorem so_icmp_le (C : Cx D kA ro RM id A p s m args meth c) {bp : Nat} {ls : Lc_} {st : List Vl_} {w : Wd_} {M : Mm_} {cn : Cn_} {x y f : Int} {t : Nat} (ht : (bp : Int) + f = (t : Int)) (hd : decode (byOf id) bp = .ok (.if_icmp .le f, 3)) (h1 : cnd .le x y → Wb l D kA ro RM id A p e s m args below meth c n0 ad0 Z t ls st w M cn) (h2 : ¬ cnd .le x y → Wb l D kA ro RM id A p e s m args below meth c n0 ad0 Z (bp + 3) ls st w M cn) : Wb l D kA ro RM id A p e s m args below meth c n0 ad0 Z bp ls ((0, y) :: (0, x) :: st) w M cn := by
  obtain ⟨hx, hb, hr, hlk, hml, hown, hnm, hts, hen, hK, hA⟩ := C
  intro ad H locs lsA a1 a2 a3 a4 a5 a6 a7
  have ox : inI x := okS_hd (okS_tl a6)
  have oy : inI y := okS_hd a6
  have ht2 := fun q => h1 q ad H locs lsA a1 a2 a3 a4 a5 (okS_tl (okS_tl a6)) a7
  have hf2 := fun q => h2 q ad H locs lsA a1 a2 a3 a4 a5 (okS_tl (okS_tl a6)) a7
  exact lv_icmp_le hx hb hd ht (fun q => ht2 ((i32_le ox oy).mp q)) (fun q => hf2 (fun q2 => q ((i32_le ox oy).mpr q2)))
theorem so_if_le (C : Cx D kA ro RM id A p s m args meth c) {bp : Nat} {ls : Lc_} {st : List Vl_} {w : Wd_} {M : Mm_} {cn : Cn_} {x f : Int} {t : Nat} (ht : (bp : Int) + f = (t : Int)) (hd : decode (byOf id) bp = .ok (.ifCond .le f, 3)) (h1 : cnd .le x 0 → Wb l D kA ro RM id A p e s m args below meth c n0 ad0 Z t ls st w M cn) (h2 : ¬ cnd .le x 0 → Wb l D kA ro RM id A p e s m args below meth c n0 ad0 Z (bp + 3) ls st w M cn) : Wb l D kA ro RM id A p e s m args below meth c n0 ad0 Z bp ls ((0, x) :: st) w M cn := by
  obtain ⟨hx, hb, hr, hlk, hml, hown, hnm, hts, hen, hK, hA⟩ := C
  intro ad H locs lsA a1 a2 a3 a4 a5 a6 a7
  have ox : inI x := okS_hd a6
  have ht2 := fun q => h1 q ad H locs lsA a1 a2 a3 a4 a5 (okS_tl a6) a7
  have hf2 := fun q => h2 q ad H locs lsA a1 a2 a3 a4 a5 (okS_tl a6) a7
  exact lv_if_le hx hb hd ht (fun q => ht2 ((i32_le ox in0).mp q)) (fun q => hf2 (fun q2 => q ((i32_le ox in0).mpr q2)))
theorem so_goto (C : Cx D kA ro RM id A p s m args meth c) {bp : Nat} {ls : Lc_} {st : List Vl_} {w : Wd_} {M : Mm_} {cn : Cn_} {f : Int} {t : Nat} (ht : (bp : Int) + f = (t : Int)) (hd : decode (byOf id) bp = .ok (.goto f, 3)) (h : Wb l D kA ro RM id A p e s m args below meth c n0 ad0 Z t ls st w M cn) : Wb l D kA ro RM id A p e s m args below meth c n0 ad0 Z bp ls st w M cn := by
  obtain ⟨hx, hb, hr, hlk, hml, hown, hnm, hts, hen, hK, hA⟩ := C
  intro ad H locs lsA a1 a2 a3 a4 a5 a6 a7
  exact lv_goto hx hb hd ht (h ad H locs lsA a1 a2 a3 a4 a5 a6 a7)
theorem so_tswOut (C : Cx D kA ro RM id A p s m args meth c) {bp : Nat} {ls : Lc_} {st : List Vl_} {w : Wd_} {M : Mm_} {cn : Cn_} {x d lo hi : Int} {fs : Array Int} {len t : Nat} (ht : (bp : Int) + d = (t : Int)) (ho : x < lo ∨ hi < x) (hd : decode (byOf id) bp = .ok (.tableswitch d lo hi fs, len)) (h : Wb l D kA ro RM id A p e s m args below meth c n0 ad0 Z t ls st w M cn) : Wb l D kA ro RM id A p e s m args below meth c n0 ad0 Z bp ls ((0, x) :: st) w M cn := by
  obtain ⟨hx, hb, hr, hlk, hml, hown, hnm, hts, hen, hK, hA⟩ := C
  intro ad H locs lsA a1 a2 a3 a4 a5 a6 a7
  have ox : inI x := okS_hd a6
  exact lv_tableOut hx hb hd (by rw [inI_of32 ox]; exact ho) ht (h ad H locs lsA a1 a2 a3 a4 a5 (okS_tl a6) a7)
theorem so_tswIn (C : Cx D kA ro RM id A p s m args meth c) {bp : Nat} {ls : Lc_} {st : List Vl_} {w : Wd_} {M : Mm_} {cn : Cn_} {x d lo hi f : Int} {fs : Array Int} {len t : Nat} (ht : (bp : Int) + f = (t : Int)) (ho : ¬ (x < lo ∨ hi < x)) (hf : fs[(x - lo).toNat]? = some f) (hd : decode (byOf id) bp = .ok (.tableswitch d lo hi fs, len)) (h : Wb l D kA ro RM id A p e s m args below meth c n0 ad0 Z t ls st w M cn) : Wb l D kA ro RM id A p e s m args below meth c n0 ad0 Z bp ls ((0, x) :: st) w M cn := by
  obtain ⟨hx, hb, hr, hlk, hml, hown, hnm, hts, hen, hK, hA⟩ := C
  intro ad H locs lsA a1 a2 a3 a4 a5 a6 a7
  have ox : inI x := okS_hd a6
  exact lv_tableIn hx hb hd (by rw [inI_of32 ox]; exact fun q => ho (Or.inl q)) (by rw [inI_of32 ox]; exact fun q => ho (Or.inr q)) (by rw [inI_of32 ox]; exact hf) ht (h ad H locs lsA a1 a2 a3 a4 a5 (okS_tl a6) a7)
theorem so_dup (C : Cx D kA ro RM id A p s m args meth c) {bp : Nat} {ls : Lc_} {st : List Vl_} {w : Wd_} {M : Mm_} {cn : Cn_} {v : Vl_} (hv : ¬ v.1 = 1) (hd : decode (byOf id) bp = .ok (.dup, 1)) (h : Wb l D kA ro RM id A p e s m args below meth c n0 ad0 Z (bp + 1) ls (v :: v :: st) w M cn) : Wb l D kA ro RM id A p e s m args below meth c n0 ad0 Z bp ls (v :: st) w M cn := by
  obtain ⟨hx, hb, hr, hlk, hml, hown, hnm, hts, hen, hK, hA⟩ := C
  intro ad H locs lsA a1 a2 a3 a4 a5 a6 a7
  exact lv_dup hx hb hd (by rw [cV_cat]; unfold catV; rw [if_neg hv]) (h ad H locs lsA a1 a2 a3 a4 a5 (okS_cons (okS_hd a6) a6) a7)
theorem so_pop (C : Cx D kA ro RM id A p s m args meth c) {bp : Nat} {ls : Lc_} {st : List Vl_} {w : Wd_} {M : Mm_} {cn : Cn_} {v : Vl_} (hv : ¬ v.1 = 1) (hd : decode (byOf id) bp = .ok (.pop, 1)) (h : Wb l D kA ro RM id A p e s m args below meth c n0 ad0 Z (bp + 1) ls st w M cn) : Wb l D kA ro RM id A p e s m args below meth c n0 ad0 Z bp ls (v :: st) w M cn := by
  obtain ⟨hx, hb, hr, hlk, hml, hown, hnm, hts, hen, hK, hA⟩ := C
  intro ad H locs lsA a1 a2 a3 a4 a5 a6 a7
  exact lv_pop hx hb hd (by rw [cV_cat]; unfold catV; rw [if_neg hv]) (h ad H locs lsA a1 a2 a3 a4 a5 (okS_tl a6) a7)
theorem so_dup2a (C : Cx D kA ro RM id A p s m args meth c) {bp : Nat} {ls : Lc_} {st : List Vl_} {w : Wd_} {M : Mm_} {cn : Cn_} {v : Vl_} (hv : v.1 = 1) (hd : decode (byOf id) bp = .ok (.dup2, 1)) (h : Wb l D kA ro RM id A p e s m args below meth c n0 ad0 Z (bp + 1) ls (v :: v :: st) w M cn) : Wb l D kA ro RM id A p e s m args below meth c n0 ad0 Z bp ls (v :: st) w M cn := by
  obtain ⟨hx, hb, hr, hlk, hml, hown, hnm, hts, hen, hK, hA⟩ := C
  intro ad H locs lsA a1 a2 a3 a4 a5 a6 a7
  exact lv_dup2_2 hx hb hd (by rw [cV_cat]; unfold catV; rw [if_pos hv]) (h ad H locs lsA a1 a2 a3 a4 a5 (okS_cons (okS_hd a6) a6) a7)
theorem so_dup2b (C : Cx D kA ro RM id A p s m args meth c) {bp : Nat} {ls : Lc_} {st : List Vl_} {w : Wd_} {M : Mm_} {cn : Cn_} {v u : Vl_} (hv : ¬ v.1 = 1) (hu : ¬ u.1 = 1) (hd : decode (byOf id) bp = .ok (.dup2, 1)) (h : Wb l D kA ro RM id A p e s m args below meth c n0 ad0 Z (bp + 1) ls (v :: u :: v :: u :: st) w M cn) : Wb l D kA ro RM id A p e s m args below meth c n0 ad0 Z bp ls (v :: u :: st) w M cn := by
  obtain ⟨hx, hb, hr, hlk, hml, hown, hnm, hts, hen, hK, hA⟩ := C
  intro ad H locs lsA a1 a2 a3 a4 a5 a6 a7
  exact lv_dup2_11 hx hb hd (by rw [cV_cat]; unfold catV; rw [if_neg hv]) (by rw [cV_cat]; unfold catV; rw [if_neg hu]) (h ad H locs lsA a1 a2 a3 a4 a5 (okS_cons (okS_hd a6) (okS_cons (okS_hd (okS_tl a6)) a6)) a7)
theorem so_mmax (C : Cx D kA ro RM id A p s m args meth c) {bp : Nat} {ls : Lc_} {st : List Vl_} {w : Wd_} {M : Mm_} {cn : Cn_} {x y : Int} {i : Nat} (hL : (ownOf id, i) ∈ maxL) (h8 : catS st ≤ 8) (hf1 : 1 ≤ (rmT_ id).1) (hf2 : 32 ≤ (rmT_ id).2.1) (hd : decode (byOf id) bp = .ok (.invokestatic i, 3)) (h : Wb l D kA ro RM id A p e s m args below meth c n0 ad0 Z (bp + 3) ls ((0, maxI x y) :: st) w M cn) : Wb l D kA ro RM id A p e s m args below meth c n0 ad0 Z bp ls ((0, y) :: (0, x) :: st) w M cn := by
  obtain ⟨hx, hb, hr, hlk, hml, hown, hnm, hts, hen, hK, hA⟩ := C
  intro ad H locs lsA a1 a2 a3 a4 a5 a6 a7
  have ox : inI x := okS_hd (okS_tl a6)
  have oy : inI y := okS_hd a6
  have om : inI (maxI x y) := by unfold maxI; split <;> assumption
  have hk := h ad H locs lsA a1 a2 a3 a4 a5 (okS_cons (v := (0, maxI x y)) om (okS_tl (okS_tl a6))) a7
  change W _ _ _ _ _ _ _ _ _ _ _ _ _ _ _ (F0 m (bp + 3) lsA (.int (Int32.ofInt (maxI x y)) :: st.map (cV ro ad))) at hk
  have ev : Int32.ofInt (maxI x y) = if Int32.ofInt x < Int32.ofInt y then Int32.ofInt y else Int32.ofInt x := by
    unfold maxI
    by_cases q : x < y
    · rw [if_pos q, if_pos ((i32_lt ox oy).mpr q)]
    · rw [if_neg q, if_neg (fun q2 => q ((i32_lt ox oy).mp q2))]
  rw [ev] at hk
  have hcs : ((st.map (cV ro ad)).map fun v => v.category).sum ≤ 8 := by rw [List.map_map]; exact Nat.le_trans (Nat.le_of_eq (congrArg List.sum (List.map_congr_left fun v _ => cV_cat ro ad v))) h8
  exact va_mmax hx hb (by rw [hml]; exact a4.1.symm) hown (hts _ (maxL_ok _ hL)) (hts _ max_s) (hts _ math_i) (hts _ max_c) hf1 (by show _ ≤ (rmT_ id).2.1; omega) a7.1 a7.2 hd hk
theorem so_mmin (C : Cx D kA ro RM id A p s m args meth c) {bp : Nat} {ls : Lc_} {st : List Vl_} {w : Wd_} {M : Mm_} {cn : Cn_} {x y : Int} {i : Nat} (hL : (ownOf id, i) ∈ minL) (h8 : catS st ≤ 8) (hf1 : 1 ≤ (rmT_ id).1) (hf2 : 32 ≤ (rmT_ id).2.1) (hd : decode (byOf id) bp = .ok (.invokestatic i, 3)) (h : Wb l D kA ro RM id A p e s m args below meth c n0 ad0 Z (bp + 3) ls ((0, minI x y) :: st) w M cn) : Wb l D kA ro RM id A p e s m args below meth c n0 ad0 Z bp ls ((0, y) :: (0, x) :: st) w M cn := by
  obtain ⟨hx, hb, hr, hlk, hml, hown, hnm, hts, hen, hK, hA⟩ := C
  intro ad H locs lsA a1 a2 a3 a4 a5 a6 a7
  have ox : inI x := okS_hd (okS_tl a6)
  have oy : inI y := okS_hd a6
  have om : inI (minI x y) := by unfold minI; split <;> assumption
  have hk := h ad H locs lsA a1 a2 a3 a4 a5 (okS_cons (v := (0, minI x y)) om (okS_tl (okS_tl a6))) a7
  change W _ _ _ _ _ _ _ _ _ _ _ _ _ _ _ (F0 m (bp + 3) lsA (.int (Int32.ofInt (minI x y)) :: st.map (cV ro ad))) at hk
  have ev : Int32.ofInt (minI x y) = if Int32.ofInt y < Int32.ofInt x then Int32.ofInt y else Int32.ofInt x := by
    unfold minI
    by_cases q : y < x
    · rw [if_pos q, if_pos ((i32_lt oy ox).mpr q)]
    · rw [if_neg q, if_neg (fun q2 => q ((i32_lt oy ox).mp q2))]
  rw [ev] at hk
  have hcs : ((st.map (cV ro ad)).map fun v => v.category).sum ≤ 8 := by rw [List.map_map]; exact Nat.le_trans (Nat.le_of_eq (congrArg List.sum (List.map_congr_left fun v _ => cV_cat ro ad v))) h8
  exact va_mmin hx hb (by rw [hml]; exact a4.1.symm) hown (hts _ (minL_ok _ hL)) (hts _ min_s) (hts _ math_i) (hts _ min_c) hf1 (by show _ ≤ (rmT_ id).2.1; omega) a7.1 a7.2 hd hk
end SN3
