section SN2
variable {l : Launch} {D : va_G} {kA : Nat → ClassId} {ro : Int → Option Nat} {RM : Mm_} {id : Nat} {A : Nat → Prop} {p : Program} {e : Env} {s : State} {m : MethodId} {args : Array Value} {below : List Frame} {meth : Method} {c : Code} {n0 : Nat} {ad0 : Nat → Nat} {Z : State → Prop}
/-- the judgement at a byte -/
def Wb (l : Launch) (D : va_G) (kA : Nat → ClassId) (ro : Int → Option Nat) (RM : Mm_) (id : Nat) (A : Nat → Prop) (p : Program) (e : Env) (s : State) (m : MethodId) (args : Array Value) (below : List Frame) (meth : Method) (c : Code) (n0 : Nat) (ad0 : Nat → Nat) (Z : State → Prop) (bp : Nat) (ls : Lc_) (st : List Vl_) (w : Wd_) (M : Mm_) (cn : Cn_) : Prop :=
  ∀ (ad : Nat → Nat) (H : Heap) (locs : List Loc) (lsA : Array Slot), n0 ≤ w.length → (∀ i, i < n0 → ad i = ad0 i) → Rl D kA ro RM A ad s.heap w M H locs → LH ro ad lsA (mxL id) ls → okL w ls → okS w st → cn.1 ≤ mcOf id ∧ cn.2 ≤ msOf id →
    W p l e (rmOf id) s m args below meth c H locs cn.1 cn.2 Z (F0 m bp lsA (st.map (cV ro ad)))
theorem Wat.b {pc : Nat} {ls : Lc_} {st : List Vl_} {w : Wd_} {M : Mm_} {cn : Cn_} (h : Wat l D kA ro RM id A p e s m args below meth c n0 ad0 Z pc ls st w M cn) {e1 : In_} {t : Nat} (h1 : (codeOf id)[pc]? = some e1) (h2 : e1.2.1 = t) : Wb l D kA ro RM id A p e s m args below meth c n0 ad0 Z t ls st w M cn :=
  fun ad H locs lsA a1 a2 a3 a4 a5 a6 a7 => by rw [← h2]; exact h ad H locs lsA e1 a1 a2 a3 a4 a5 a6 a7 h1
theorem Wat.of {pc : Nat} {ls : Lc_} {st : List Vl_} {w : Wd_} {M : Mm_} {cn : Cn_} (h : ∀ e1 : In_, (codeOf id)[pc]? = some e1 → Wb l D kA ro RM id A p e s m args below meth c n0 ad0 Z e1.2.1 ls st w M cn) : Wat l D kA ro RM id A p e s m args below meth c n0 ad0 Z pc ls st w M cn :=
  fun ad H locs lsA e1 a1 a2 a3 a4 a5 a6 a7 h1 => h e1 h1 ad H locs lsA a1 a2 a3 a4 a5 a6 a7
theorem of8 {z : Int} (h1 : -128 ≤ z) (h2 : z < 128) : (Int8.ofInt z).toInt32 = Int32.ofInt z := by
  apply Int32.toInt_inj.mp
  rw [Int8.toInt_toInt32, inI_of32 (by unfold inI; omega), Int8.toInt_ofInt]
  show Int.bmod z 256 = z
  rw [Int.bmod_def]
  split <;> omega
theorem of16 {z : Int} (h1 : -32768 ≤ z) (h2 : z < 32768) : (Int16.ofInt z).toInt32 = Int32.ofInt z := by
  apply Int32.toInt_inj.mp
  rw [Int16.toInt_toInt32, inI_of32 (by unfold inI; omega), Int16.toInt_ofInt]
  show Int.bmod z 65536 = z
  rw [Int.bmod_def]
  split <;> omega
theorem of_i2l {x : Int} (h : inI x) : (Int32.ofInt x).toInt64 = Int64.ofInt x := by
  apply Int64.toInt_inj.mp
  rw [Int32.toInt_toInt64, inI_of32 h, inL_of64 (inI_L h)]
theorem of_div {x y : Int} (hx : inI x) (hy : inI y) (h0 : 0 ≤ x ∧ 0 < y) : Int32.ofInt x / Int32.ofInt y = Int32.ofInt (x / y) := by
  apply Int32.toInt_inj.mp
  have hq : inI (x / y) := by
    have h1 := Int.ediv_nonneg h0.1 (Int.le_of_lt h0.2)
    have h2 := Int.ediv_le_self y h0.1
    unfold inI at hx ⊢
    omega
  rw [Int32.toInt_div, inI_of32 hx, inI_of32 hy, inI_of32 hq, Int.tdiv_eq_ediv_of_nonneg h0.1]
  unfold inI at hq
  show Int.bmod (x / y) 4294967296 = x / y
  rw [Int.bmod_def]
  generalize x / y = q at *
  split <;> omega
theorem of_div_in {x y : Int} (hx : inI x) (h0 : 0 ≤ x ∧ 0 < y) : inI (x / y) := by
  have h1 := Int.ediv_nonneg h0.1 (Int.le_of_lt h0.2)
  have h2 := Int.ediv_le_self y h0.1
  unfold inI at hx ⊢
  omega
theorem of_rem_in {x y : Int} (hy : inI y) (h0 : 0 ≤ x ∧ 0 < y) : inI (x % y) := by
  have h1 := Int.emod_nonneg x (show y ≠ 0 by omega)
  have h2 := Int.emod_lt_of_pos x h0.2
  unfold inI at hy ⊢
  omega
theorem of_rem {x y : Int} (hx : inI x) (hy : inI y) (h0 : 0 ≤ x ∧ 0 < y) : Int32.ofInt x - Int32.ofInt x / Int32.ofInt y * Int32.ofInt y = Int32.ofInt (x % y) := by
  rw [of_div hx hy h0, ← Int32.ofInt_mul, ← Int32.ofInt_sub, Int.emod_def, Int.mul_comm]
theorem of_ne0 {y : Int} (hy : inI y) (h0 : 0 < y) : ¬ Int32.ofInt y = 0 := fun h => by
  have := congrArg Int32.toInt h
  rw [inI_of32 hy] at this
  have e : (0 : Int32).toInt = 0 := rfl
  omega
theorem of_i2c {x : Int} : ((Int32.ofInt x).toUInt32 % 65536).toInt32 = Int32.ofInt (i2cI x) := by
  rw [pk_char]
  have e : (Int32.ofInt x).toBitVec.toNat = (x % 4294967296).toNat := by
    show (BitVec.ofInt 32 x).toNat = _
    rw [BitVec.toNat_ofInt]
    rfl
  rw [e]
  unfold i2cI nI
  rw [show (x % 65536) = (((x % 4294967296).toNat % 65536 : Nat) : Int) by omega]
  exact (Int32.ofInt_eq_ofNat).symm
theorem i2c_in (x : Int) : inI (i2cI x) := by unfold inI i2cI; omega
theorem of_cmp {x y : Int} (hx : inL x) (hy : inL y) : lg_cmp (Int64.ofInt x) (Int64.ofInt y) = Int32.ofInt (cmpL x y) := by
  have e1 : (Int64.ofInt x > Int64.ofInt y) ↔ y < x := by
    show Int64.ofInt y < Int64.ofInt x ↔ _
    rw [Int64.lt_iff_toInt_lt, inL_of64 hx, inL_of64 hy]
  have e2 : (Int64.ofInt x = Int64.ofInt y) ↔ x = y := by
    rw [← Int64.toInt_inj, inL_of64 hx, inL_of64 hy]
  unfold lg_cmp cmpL
  by_cases h1 : y < x
  · rw [if_pos (e1.mpr h1), if_neg (show ¬ x < y by omega), if_neg (show ¬ x = y by omega)]
    rfl
  · rw [if_neg (fun q => h1 (e1.mp q))]
    by_cases h2 : x = y
    · rw [if_pos (e2.mpr h2), if_neg (show ¬ x < y by omega), if_pos h2]
      rfl
    · rw [if_neg (fun q => h2 (e2.mp q)), if_pos (show x < y by omega)]
      rfl
theorem cmp_in (x y : Int) : inI (cmpL x y) := by
  unfold cmpL inI
  split
  · omega
  · split <;> omega
theorem i32_lt {x y : Int} (hx : inI x) (hy : inI y) : Int32.ofInt x < Int32.ofInt y ↔ x < y := by rw [Int32.lt_iff_toInt_lt, inI_of32 hx, inI_of32 hy]
theorem i32_le {x y : Int} (hx : inI x) (hy : inI y) : Int32.ofInt x ≤ Int32.ofInt y ↔ x ≤ y := by rw [Int32.le_iff_toInt_le, inI_of32 hx, inI_of32 hy]
theorem i32_eq {x y : Int} (hx : inI x) (hy : inI y) : Int32.ofInt x = Int32.ofInt y ↔ x = y := by rw [← Int32.toInt_inj, inI_of32 hx, inI_of32 hy]
theorem in0 : inI 0 := by unfold inI; omega
theorem so_iconst (C : Cx D kA ro RM id A p s m args meth c) {bp : Nat} {ls : Lc_} {st : List Vl_} {w : Wd_} {M : Mm_} {cn : Cn_} {z : Int} (hz : inI z) (hd : decode (byOf id) bp = .ok (.iconst z, 1)) (h : Wb l D kA ro RM id A p e s m args below meth c n0 ad0 Z (bp + 1) ls ((0, z) :: st) w M cn) : Wb l D kA ro RM id A p e s m args below meth c n0 ad0 Z bp ls st w M cn := by
  obtain ⟨hx, hb, hr, hlk, hml, hown, hnm, hts, hen, hK, hA⟩ := C
  intro ad H locs lsA a1 a2 a3 a4 a5 a6 a7
  exact lv_iconst hx hb hd rfl (h ad H locs lsA a1 a2 a3 a4 a5 (okS_cons hz a6) a7)
theorem so_bipush (C : Cx D kA ro RM id A p s m args meth c) {bp : Nat} {ls : Lc_} {st : List Vl_} {w : Wd_} {M : Mm_} {cn : Cn_} {z : Int} (z1 : -128 ≤ z) (z2 : z < 128) (hd : decode (byOf id) bp = .ok (.bipush z, 2)) (h : Wb l D kA ro RM id A p e s m args below meth c n0 ad0 Z (bp + 2) ls ((0, z) :: st) w M cn) : Wb l D kA ro RM id A p e s m args below meth c n0 ad0 Z bp ls st w M cn := by
  obtain ⟨hx, hb, hr, hlk, hml, hown, hnm, hts, hen, hK, hA⟩ := C
  intro ad H locs lsA a1 a2 a3 a4 a5 a6 a7
  exact lv_bipush hx hb hd (of8 z1 z2) (h ad H locs lsA a1 a2 a3 a4 a5 (okS_cons (show inI _ by unfold inI; omega) a6) a7)
theorem so_sipush (C : Cx D kA ro RM id A p s m args meth c) {bp : Nat} {ls : Lc_} {st : List Vl_} {w : Wd_} {M : Mm_} {cn : Cn_} {z : Int} (z1 : -32768 ≤ z) (z2 : z < 32768) (hd : decode (byOf id) bp = .ok (.sipush z, 3)) (h : Wb l D kA ro RM id A p e s m args below meth c n0 ad0 Z (bp + 3) ls ((0, z) :: st) w M cn) : Wb l D kA ro RM id A p e s m args below meth c n0 ad0 Z bp ls st w M cn := by
  obtain ⟨hx, hb, hr, hlk, hml, hown, hnm, hts, hen, hK, hA⟩ := C
  intro ad H locs lsA a1 a2 a3 a4 a5 a6 a7
  exact lv_sipush hx hb hd (of16 z1 z2) (h ad H locs lsA a1 a2 a3 a4 a5 (okS_cons (show inI _ by unfold inI; omega) a6) a7)
theorem so_lconst (C : Cx D kA ro RM id A p s m args meth c) {bp : Nat} {ls : Lc_} {st : List Vl_} {w : Wd_} {M : Mm_} {cn : Cn_} {i : Fin 2} (hd : decode (byOf id) bp = .ok (.lconst i, 1)) (h : Wb l D kA ro RM id A p e s m args below meth c n0 ad0 Z (bp + 1) ls ((1, (i.val : Int)) :: st) w M cn) : Wb l D kA ro RM id A p e s m args below meth c n0 ad0 Z bp ls st w M cn := by
  obtain ⟨hx, hb, hr, hlk, hml, hown, hnm, hts, hen, hK, hA⟩ := C
  intro ad H locs lsA a1 a2 a3 a4 a5 a6 a7
  exact lv_lconst hx hb hd (Int64.ofInt_eq_ofNat).symm (h ad H locs lsA a1 a2 a3 a4 a5 (okS_cons (show inL _ by unfold inL; omega) a6) a7)
theorem so_ldcw (C : Cx D kA ro RM id A p s m args meth c) {bp : Nat} {ls : Lc_} {st : List Vl_} {w : Wd_} {M : Mm_} {cn : Cn_} {i : Nat} {z : Int} (hc : (ownOf id, i, z) ∈ kiL) (hz : inI z) (hd : decode (byOf id) bp = .ok (.ldc_w i, 3)) (h : Wb l D kA ro RM id A p e s m args below meth c n0 ad0 Z (bp + 3) ls ((0, z) :: st) w M cn) : Wb l D kA ro RM id A p e s m args below meth c n0 ad0 Z bp ls st w M cn := by
  obtain ⟨hx, hb, hr, hlk, hml, hown, hnm, hts, hen, hK, hA⟩ := C
  intro ad H locs lsA a1 a2 a3 a4 a5 a6 a7
  exact lv_ldcw hx hb hown (hts _ (kiL_ok _ hc)) hd (h ad H locs lsA a1 a2 a3 a4 a5 (okS_cons hz a6) a7)
theorem so_ldc2 (C : Cx D kA ro RM id A p s m args meth c) {bp : Nat} {ls : Lc_} {st : List Vl_} {w : Wd_} {M : Mm_} {cn : Cn_} {i : Nat} {z : Int} (hc : (ownOf id, i, z) ∈ klL) (hz : inL z) (hd : decode (byOf id) bp = .ok (.ldc2_w i, 3)) (h : Wb l D kA ro RM id A p e s m args below meth c n0 ad0 Z (bp + 3) ls ((1, z) :: st) w M cn) : Wb l D kA ro RM id A p e s m args below meth c n0 ad0 Z bp ls st w M cn := by
  obtain ⟨hx, hb, hr, hlk, hml, hown, hnm, hts, hen, hK, hA⟩ := C
  intro ad H locs lsA a1 a2 a3 a4 a5 a6 a7
  exact lv_ldc2 hx hb hown (hts _ (klL_ok _ hc)) hd (h ad H locs lsA a1 a2 a3 a4 a5 (okS_cons hz a6) a7)
theorem so_iload (C : Cx D kA ro RM id A p s m args meth c) {bp : Nat} {ls : Lc_} {st : List Vl_} {w : Wd_} {M : Mm_} {cn : Cn_} {i : Nat} {x : Int} (hl : ls[i]? = some (some (0, x))) (hd : decode (byOf id) bp = .ok (.iload i, 2)) (h : Wb l D kA ro RM id A p e s m args below meth c n0 ad0 Z (bp + 2) ls ((0, x) :: st) w M cn) : Wb l D kA ro RM id A p e s m args below meth c n0 ad0 Z bp ls st w M cn := by
  obtain ⟨hx, hb, hr, hlk, hml, hown, hnm, hts, hen, hK, hA⟩ := C
  intro ad H locs lsA a1 a2 a3 a4 a5 a6 a7
  exact lv_iload hx hb hd (a4.2.2.2 _ _ hl) (h ad H locs lsA a1 a2 a3 a4 a5 (okS_cons (a5 _ _ hl) a6) a7)
theorem so_iloadn (C : Cx D kA ro RM id A p s m args meth c) {bp : Nat} {ls : Lc_} {st : List Vl_} {w : Wd_} {M : Mm_} {cn : Cn_} {i : Fin 4} {x : Int} (hl : ls[i.val]? = some (some (0, x))) (hd : decode (byOf id) bp = .ok (.iload_n i, 1)) (h : Wb l D kA ro RM id A p e s m args below meth c n0 ad0 Z (bp + 1) ls ((0, x) :: st) w M cn) : Wb l D kA ro RM id A p e s m args below meth c n0 ad0 Z bp ls st w M cn := by
  obtain ⟨hx, hb, hr, hlk, hml, hown, hnm, hts, hen, hK, hA⟩ := C
  intro ad H locs lsA a1 a2 a3 a4 a5 a6 a7
  exact lv_iload_n hx hb hd rfl (a4.2.2.2 _ _ hl) (h ad H locs lsA a1 a2 a3 a4 a5 (okS_cons (a5 _ _ hl) a6) a7)
theorem so_lload (C : Cx D kA ro RM id A p s m args meth c) {bp : Nat} {ls : Lc_} {st : List Vl_} {w : Wd_} {M : Mm_} {cn : Cn_} {i : Nat} {x : Int} (hl : ls[i]? = some (some (1, x))) (hd : decode (byOf id) bp = .ok (.lload i, 2)) (h : Wb l D kA ro RM id A p e s m args below meth c n0 ad0 Z (bp + 2) ls ((1, x) :: st) w M cn) : Wb l D kA ro RM id A p e s m args below meth c n0 ad0 Z bp ls st w M cn := by
  obtain ⟨hx, hb, hr, hlk, hml, hown, hnm, hts, hen, hK, hA⟩ := C
  intro ad H locs lsA a1 a2 a3 a4 a5 a6 a7
  exact lv_lload hx hb hd (a4.2.2.2 _ _ hl) (h ad H locs lsA a1 a2 a3 a4 a5 (okS_cons (a5 _ _ hl) a6) a7)
theorem so_lloadn (C : Cx D kA ro RM id A p s m args meth c) {bp : Nat} {ls : Lc_} {st : List Vl_} {w : Wd_} {M : Mm_} {cn : Cn_} {i : Fin 4} {x : Int} (hl : ls[i.val]? = some (some (1, x))) (hd : decode (byOf id) bp = .ok (.lload_n i, 1)) (h : Wb l D kA ro RM id A p e s m args below meth c n0 ad0 Z (bp + 1) ls ((1, x) :: st) w M cn) : Wb l D kA ro RM id A p e s m args below meth c n0 ad0 Z bp ls st w M cn := by
  obtain ⟨hx, hb, hr, hlk, hml, hown, hnm, hts, hen, hK, hA⟩ := C
  intro ad H locs lsA a1 a2 a3 a4 a5 a6 a7
  exact lv_lload_n hx hb hd rfl (a4.2.2.2 _ _ hl) (h ad H locs lsA a1 a2 a3 a4 a5 (okS_cons (a5 _ _ hl) a6) a7)
theorem so_aload (C : Cx D kA ro RM id A p s m args meth c) {bp : Nat} {ls : Lc_} {st : List Vl_} {w : Wd_} {M : Mm_} {cn : Cn_} {i : Nat} {x : Int} (hl : ls[i]? = some (some (2, x))) (hd : decode (byOf id) bp = .ok (.aload i, 2)) (h : Wb l D kA ro RM id A p e s m args below meth c n0 ad0 Z (bp + 2) ls ((2, x) :: st) w M cn) : Wb l D kA ro RM id A p e s m args below meth c n0 ad0 Z bp ls st w M cn := by
  obtain ⟨hx, hb, hr, hlk, hml, hown, hnm, hts, hen, hK, hA⟩ := C
  intro ad H locs lsA a1 a2 a3 a4 a5 a6 a7
  have hk := h ad H locs lsA a1 a2 a3 a4 a5 (okS_cons (a5 _ _ hl) a6) a7
  have hs := a4.2.2.2 _ _ hl
  change W _ _ _ _ _ _ _ _ _ _ _ _ _ _ _ (F0 m _ lsA (va_rf (adr ro ad x) :: st.map (cV ro ad))) at hk
  change lsA[_]? = some (Slot.val (va_rf (adr ro ad x))) at hs
  cases hv : adr ro ad x with
  | none => rw [hv] at hk hs; exact lv_aloadN hx hb hd hs hk
  | some q => rw [hv] at hk hs; exact lv_aload hx hb hd hs hk
theorem so_aloadn (C : Cx D kA ro RM id A p s m args meth c) {bp : Nat} {ls : Lc_} {st : List Vl_} {w : Wd_} {M : Mm_} {cn : Cn_} {i : Fin 4} {x : Int} (hl : ls[i.val]? = some (some (2, x))) (hd : decode (byOf id) bp = .ok (.aload_n i, 1)) (h : Wb l D kA ro RM id A p e s m args below meth c n0 ad0 Z (bp + 1) ls ((2, x) :: st) w M cn) : Wb l D kA ro RM id A p e s m args below meth c n0 ad0 Z bp ls st w M cn := by
  obtain ⟨hx, hb, hr, hlk, hml, hown, hnm, hts, hen, hK, hA⟩ := C
  intro ad H locs lsA a1 a2 a3 a4 a5 a6 a7
  have hk := h ad H locs lsA a1 a2 a3 a4 a5 (okS_cons (a5 _ _ hl) a6) a7
  have hs := a4.2.2.2 _ _ hl
  change W _ _ _ _ _ _ _ _ _ _ _ _ _ _ _ (F0 m _ lsA (va_rf (adr ro ad x) :: st.map (cV ro ad))) at hk
  change lsA[_]? = some (Slot.val (va_rf (adr ro ad x))) at hs
  cases hv : adr ro ad x with
  | none => rw [hv] at hk hs; exact lv_aload_nN hx hb hd rfl hs hk
  | some q => rw [hv] at hk hs; exact lv_aload_n hx hb hd rfl hs hk
theorem so_istore (C : Cx D kA ro RM id A p s m args meth c) {bp : Nat} {ls : Lc_} {st : List Vl_} {w : Wd_} {M : Mm_} {cn : Cn_} {i : Nat} {x : Int} (hn : i < mxL id) (hd : decode (byOf id) bp = .ok (.istore i, 2)) (h : Wb l D kA ro RM id A p e s m args below meth c n0 ad0 Z (bp + 2) (setL ls i (0, x)) st w M cn) : Wb l D kA ro RM id A p e s m args below meth c n0 ad0 Z bp ls ((0, x) :: st) w M cn := by
  obtain ⟨hx, hb, hr, hlk, hml, hown, hnm, hts, hen, hK, hA⟩ := C
  intro ad H locs lsA a1 a2 a3 a4 a5 a6 a7
  have hk : ∀ ls2 : Array Slot, LH ro ad ls2 (mxL id) (setL ls i (0, x)) → _ := fun ls2 hl2 => h ad H locs ls2 a1 a2 a3 hl2 (okL_set a5 (okS_hd a6)) (okS_tl a6) a7
  refine lv_istore hx hb hd a4.has hn rfl (fun ls2 hl2 => hk ls2 (LH.of hl2 (by rw [lth_set]; exact a4.2.1) (fun j v hv => ?_)))
  rcases set_at hv with ⟨e1, e2⟩ | ⟨e1, e2, e3⟩
  · rw [e1, e2]; exact List.mem_cons_self
  · refine List.mem_cons_of_mem _ (List.mem_filter.mpr ⟨mem_cL.mpr ⟨v, e2, rfl⟩, ?_⟩)
    have e5 : ¬ (j + 1 = i ∧ (cV ro ad v).category = 2) := fun q => e3 ⟨q.1, by have := q.2; rw [cV_cat] at this; unfold catV at this; split at this <;> omega⟩
    simp only [Bool.and_eq_true, Bool.not_eq_true', beq_eq_false_iff_ne, ne_eq, Bool.and_eq_false_imp, beq_iff_eq]
    exact ⟨e1, fun q1 q2 => e5 ⟨q1, q2⟩⟩
theorem so_lstore (C : Cx D kA ro RM id A p s m args meth c) {bp : Nat} {ls : Lc_} {st : List Vl_} {w : Wd_} {M : Mm_} {cn : Cn_} {i : Nat} {x : Int} (hn : i + 1 < mxL id) (hd : decode (byOf id) bp = .ok (.lstore i, 2)) (h : Wb l D kA ro RM id A p e s m args below meth c n0 ad0 Z (bp + 2) (setL2 ls i (1, x)) st w M cn) : Wb l D kA ro RM id A p e s m args below meth c n0 ad0 Z bp ls ((1, x) :: st) w M cn := by
  obtain ⟨hx, hb, hr, hlk, hml, hown, hnm, hts, hen, hK, hA⟩ := C
  intro ad H locs lsA a1 a2 a3 a4 a5 a6 a7
  have hk : ∀ ls2 : Array Slot, LH ro ad ls2 (mxL id) (setL2 ls i (1, x)) → _ := fun ls2 hl2 => h ad H locs ls2 a1 a2 a3 hl2 (okL_set2 a5 (okS_hd a6)) (okS_tl a6) a7
  refine lv_lstore hx hb hd a4.has hn rfl (fun ls2 hl2 => hk ls2 (LH.of hl2 (by rw [lth_set2]; exact a4.2.1) (fun j v hv => ?_)))
  rcases set2_at hv with ⟨e1, e2⟩ | ⟨e1, e4, e2, e3⟩
  · rw [e1, e2]; exact List.mem_cons_self
  · refine List.mem_cons_of_mem _ (List.mem_filter.mpr ⟨mem_cL.mpr ⟨v, e2, rfl⟩, ?_⟩)
    have e5 : ¬ (j + 1 = i ∧ (cV ro ad v).category = 2) := fun q => e3 ⟨q.1, by have := q.2; rw [cV_cat] at this; unfold catV at this; split at this <;> omega⟩
    simp only [Bool.and_eq_true, Bool.not_eq_true', beq_eq_false_iff_ne, ne_eq, Bool.and_eq_false_imp, beq_iff_eq]
    exact ⟨e1, ⟨e4, fun q1 q2 => e5 ⟨q1, q2⟩⟩⟩
theorem so_astore (C : Cx D kA ro RM id A p s m args meth c) {bp : Nat} {ls : Lc_} {st : List Vl_} {w : Wd_} {M : Mm_} {cn : Cn_} {i : Nat} {x : Int} (hn : i < mxL id) (hd : decode (byOf id) bp = .ok (.astore i, 2)) (h : Wb l D kA ro RM id A p e s m args below meth c n0 ad0 Z (bp + 2) (setL ls i (2, x)) st w M cn) : Wb l D kA ro RM id A p e s m args below meth c n0 ad0 Z bp ls ((2, x) :: st) w M cn := by
  obtain ⟨hx, hb, hr, hlk, hml, hown, hnm, hts, hen, hK, hA⟩ := C
  intro ad H locs lsA a1 a2 a3 a4 a5 a6 a7
  have hk : ∀ ls2 : Array Slot, LH ro ad ls2 (mxL id) (setL ls i (2, x)) → _ := fun ls2 hl2 => h ad H locs ls2 a1 a2 a3 hl2 (okL_set a5 (okS_hd a6)) (okS_tl a6) a7
  change W _ _ _ _ _ _ _ _ _ _ _ _ _ _ _ (F0 m _ lsA (va_rf (adr ro ad x) :: st.map (cV ro ad)))
  have ecv : cV ro ad (2, x) = va_rf (adr ro ad x) := rfl
  cases hv0 : adr ro ad x with
  | none =>
    rw [hv0] at ecv
    refine lv_astoreN hx hb hd a4.has hn rfl (fun ls2 hl2 => hk ls2 (LH.of hl2 (by rw [lth_set]; exact a4.2.1) (fun j v hv => ?_)))
    rcases set_at hv with ⟨e1, e2⟩ | ⟨e1, e2, e3⟩
    · rw [e1, e2, ecv]; exact List.mem_cons_self
    · refine List.mem_cons_of_mem _ (List.mem_filter.mpr ⟨mem_cL.mpr ⟨v, e2, rfl⟩, ?_⟩)
      have e5 : ¬ (j + 1 = i ∧ (cV ro ad v).category = 2) := fun q => e3 ⟨q.1, by have := q.2; rw [cV_cat] at this; unfold catV at this; split at this <;> omega⟩
      simp only [Bool.and_eq_true, Bool.not_eq_true', beq_eq_false_iff_ne, ne_eq, Bool.and_eq_false_imp, beq_iff_eq]
      exact ⟨e1, fun q1 q2 => e5 ⟨q1, q2⟩⟩
  | some q =>
    rw [hv0] at ecv
    refine lv_astore hx hb hd a4.has hn rfl (fun ls2 hl2 => hk ls2 (LH.of hl2 (by rw [lth_set]; exact a4.2.1) (fun j v hv => ?_)))
    rcases set_at hv with ⟨e1, e2⟩ | ⟨e1, e2, e3⟩
    · rw [e1, e2, ecv]; exact List.mem_cons_self
    · refine List.mem_cons_of_mem _ (List.mem_filter.mpr ⟨mem_cL.mpr ⟨v, e2, rfl⟩, ?_⟩)
      have e5 : ¬ (j + 1 = i ∧ (cV ro ad v).category = 2) := fun q => e3 ⟨q.1, by have := q.2; rw [cV_cat] at this; unfold catV at this; split at this <;> omega⟩
      simp only [Bool.and_eq_true, Bool.not_eq_true', beq_eq_false_iff_ne, ne_eq, Bool.and_eq_false_imp, beq_iff_eq]
      exact ⟨e1, fun q1 q2 => e5 ⟨q1, q2⟩⟩
theorem so_istoren (C : Cx D kA ro RM id A p s m args meth c) {bp : Nat} {ls : Lc_} {st : List Vl_} {w : Wd_} {M : Mm_} {cn : Cn_} {i : Fin 4} {x : Int} (hn : i.val < mxL id) (hd : decode (byOf id) bp = .ok (.istore_n i, 1)) (h : Wb l D kA ro RM id A p e s m args below meth c n0 ad0 Z (bp + 1) (setL ls i.val (0, x)) st w M cn) : Wb l D kA ro RM id A p e s m args below meth c n0 ad0 Z bp ls ((0, x) :: st) w M cn := by
  obtain ⟨hx, hb, hr, hlk, hml, hown, hnm, hts, hen, hK, hA⟩ := C
  intro ad H locs lsA a1 a2 a3 a4 a5 a6 a7
  have hk : ∀ ls2 : Array Slot, LH ro ad ls2 (mxL id) (setL ls i.val (0, x)) → _ := fun ls2 hl2 => h ad H locs ls2 a1 a2 a3 hl2 (okL_set a5 (okS_hd a6)) (okS_tl a6) a7
  refine lv_istore_n hx hb hd rfl a4.has hn rfl (fun ls2 hl2 => hk ls2 (LH.of hl2 (by rw [lth_set]; exact a4.2.1) (fun j v hv => ?_)))
  rcases set_at hv with ⟨e1, e2⟩ | ⟨e1, e2, e3⟩
  · rw [e1, e2]; exact List.mem_cons_self
  · refine List.mem_cons_of_mem _ (List.mem_filter.mpr ⟨mem_cL.mpr ⟨v, e2, rfl⟩, ?_⟩)
    have e5 : ¬ (j + 1 = i.val ∧ (cV ro ad v).category = 2) := fun q => e3 ⟨q.1, by have := q.2; rw [cV_cat] at this; unfold catV at this; split at this <;> omega⟩
    simp only [Bool.and_eq_true, Bool.not_eq_true', beq_eq_false_iff_ne, ne_eq, Bool.and_eq_false_imp, beq_iff_eq]
    exact ⟨e1, fun q1 q2 => e5 ⟨q1, q2⟩⟩
theorem so_lstoren (C : Cx D kA ro RM id A p s m args meth c) {bp : Nat} {ls : Lc_} {st : List Vl_} {w : Wd_} {M : Mm_} {cn : Cn_} {i : Fin 4} {x : Int} (hn : i.val + 1 < mxL id) (hd : decode (byOf id) bp = .ok (.lstore_n i, 1)) (h : Wb l D kA ro RM id A p e s m args below meth c n0 ad0 Z (bp + 1) (setL2 ls i.val (1, x)) st w M cn) : Wb l D kA ro RM id A p e s m args below meth c n0 ad0 Z bp ls ((1, x) :: st) w M cn := by
  obtain ⟨hx, hb, hr, hlk, hml, hown, hnm, hts, hen, hK, hA⟩ := C
  intro ad H locs lsA a1 a2 a3 a4 a5 a6 a7
  have hk : ∀ ls2 : Array Slot, LH ro ad ls2 (mxL id) (setL2 ls i.val (1, x)) → _ := fun ls2 hl2 => h ad H locs ls2 a1 a2 a3 hl2 (okL_set2 a5 (okS_hd a6)) (okS_tl a6) a7
  refine lv_lstore_n hx hb hd rfl a4.has hn rfl (fun ls2 hl2 => hk ls2 (LH.of hl2 (by rw [lth_set2]; exact a4.2.1) (fun j v hv => ?_)))
  rcases set2_at hv with ⟨e1, e2⟩ | ⟨e1, e4, e2, e3⟩
  · rw [e1, e2]; exact List.mem_cons_self
  · refine List.mem_cons_of_mem _ (List.mem_filter.mpr ⟨mem_cL.mpr ⟨v, e2, rfl⟩, ?_⟩)
    have e5 : ¬ (j + 1 = i.val ∧ (cV ro ad v).category = 2) := fun q => e3 ⟨q.1, by have := q.2; rw [cV_cat] at this; unfold catV at this; split at this <;> omega⟩
    simp only [Bool.and_eq_true, Bool.not_eq_true', beq_eq_false_iff_ne, ne_eq, Bool.and_eq_false_imp, beq_iff_eq]
    exact ⟨e1, ⟨e4, fun q1 q2 => e5 ⟨q1, q2⟩⟩⟩
theorem so_astoren (C : Cx D kA ro RM id A p s m args meth c) {bp : Nat} {ls : Lc_} {st : List Vl_} {w : Wd_} {M : Mm_} {cn : Cn_} {i : Fin 4} {x : Int} (hn : i.val < mxL id) (hd : decode (byOf id) bp = .ok (.astore_n i, 1)) (h : Wb l D kA ro RM id A p e s m args below meth c n0 ad0 Z (bp + 1) (setL ls i.val (2, x)) st w M cn) : Wb l D kA ro RM id A p e s m args below meth c n0 ad0 Z bp ls ((2, x) :: st) w M cn := by
  obtain ⟨hx, hb, hr, hlk, hml, hown, hnm, hts, hen, hK, hA⟩ := C
  intro ad H locs lsA a1 a2 a3 a4 a5 a6 a7
  have hk : ∀ ls2 : Array Slot, LH ro ad ls2 (mxL id) (setL ls i.val (2, x)) → _ := fun ls2 hl2 => h ad H locs ls2 a1 a2 a3 hl2 (okL_set a5 (okS_hd a6)) (okS_tl a6) a7
  change W _ _ _ _ _ _ _ _ _ _ _ _ _ _ _ (F0 m _ lsA (va_rf (adr ro ad x) :: st.map (cV ro ad)))
  have ecv : cV ro ad (2, x) = va_rf (adr ro ad x) := rfl
  cases hv0 : adr ro ad x with
  | none =>
    rw [hv0] at ecv
    refine lv_astore_nN hx hb hd rfl a4.has hn rfl (fun ls2 hl2 => hk ls2 (LH.of hl2 (by rw [lth_set]; exact a4.2.1) (fun j v hv => ?_)))
    rcases set_at hv with ⟨e1, e2⟩ | ⟨e1, e2, e3⟩
    · rw [e1, e2, ecv]; exact List.mem_cons_self
    · refine List.mem_cons_of_mem _ (List.mem_filter.mpr ⟨mem_cL.mpr ⟨v, e2, rfl⟩, ?_⟩)
      have e5 : ¬ (j + 1 = i.val ∧ (cV ro ad v).category = 2) := fun q => e3 ⟨q.1, by have := q.2; rw [cV_cat] at this; unfold catV at this; split at this <;> omega⟩
      simp only [Bool.and_eq_true, Bool.not_eq_true', beq_eq_false_iff_ne, ne_eq, Bool.and_eq_false_imp, beq_iff_eq]
      exact ⟨e1, fun q1 q2 => e5 ⟨q1, q2⟩⟩
  | some q =>
    rw [hv0] at ecv
    refine lv_astore_n hx hb hd rfl a4.has hn rfl (fun ls2 hl2 => hk ls2 (LH.of hl2 (by rw [lth_set]; exact a4.2.1) (fun j v hv => ?_)))
    rcases set_at hv with ⟨e1, e2⟩ | ⟨e1, e2, e3⟩
    · rw [e1, e2, ecv]; exact List.mem_cons_self
    · refine List.mem_cons_of_mem _ (List.mem_filter.mpr ⟨mem_cL.mpr ⟨v, e2, rfl⟩, ?_⟩)
      have e5 : ¬ (j + 1 = i.val ∧ (cV ro ad v).category = 2) := fun q => e3 ⟨q.1, by have := q.2; rw [cV_cat] at this; unfold catV at this; split at this <;> omega⟩
      simp only [Bool.and_eq_true, Bool.not_eq_true', beq_eq_false_iff_ne, ne_eq, Bool.and_eq_false_imp, beq_iff_eq]
      exact ⟨e1, fun q1 q2 => e5 ⟨q1, q2⟩⟩
end SN2
