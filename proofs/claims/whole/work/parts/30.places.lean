/-! PLACES OF THE CELLS: texts and their words, rows of rows, strings -/
def TX (t : Int) : Prop := ∃ x : Int, (0 ≤ x ∧ x < 10) ∧ t = 3 + 2 * x
def TW (t : Int) : Prop := TX (t - 1)
def TA (t : Int) : Prop := t = 108 ∨ t = 109
def TS (t : Int) : Prop := -19 ≤ t ∧ t ≤ -10
def TV (t : Int) : Prop := -39 ≤ t ∧ t ≤ -30
def TR (b n t : Int) : Prop := ∃ y : Int, (0 ≤ y ∧ y < n) ∧ t = b + 1 + y
def mskL : List Bool → Lc_ → Lc_
  | _, [] => []
  | [], _ :: l => none :: mskL [] l
  | true :: m, v :: l => v :: mskL m l
  | false :: m, _ :: l => none :: mskL m l
theorem mskL_len : ∀ (m : List Bool) (l : Lc_), (mskL m l).length = l.length
  | _, [] => by cases ‹List Bool› <;> rfl
  | [], _ :: l => by show (mskL [] l).length + 1 = _; rw [mskL_len [] l]; rfl
  | true :: m, _ :: l => by show (mskL m l).length + 1 = _; rw [mskL_len m l]; rfl
  | false :: m, _ :: l => by show (mskL m l).length + 1 = _; rw [mskL_len m l]; rfl
theorem mskL_sub : ∀ (m : List Bool) (l : Lc_), lsub (mskL m l) l
  | m, [] => fun i v h => by cases m <;> cases i <;> cases h
  | [], _ :: l => fun i v h => by
    cases i with
    | zero => cases h
    | succ i => exact mskL_sub [] l i v h
  | true :: m, _ :: l => fun i v h => by
    cases i with
    | zero => exact h
    | succ i => exact mskL_sub m l i v h
  | false :: m, _ :: l => fun i v h => by
    cases i with
    | zero => cases h
    | succ i => exact mskL_sub m l i v h
theorem Clo.mk {P : Jg_} (hP : Clo P) {id pc : Nat} {ls : Lc_} {st : List Vl_} {w : Wd_} {M : Mm_} {cn : Cn_} {Q : Qp_} (m : List Bool) (h : P id pc (mskL m ls) st w M cn Q) : P id pc ls st w M cn Q := hP.2.1 _ _ _ _ _ _ _ _ _ (mskL_len m ls).symm (mskL_sub m ls) h
theorem cmp_lt (x y : Int) : cmpL x y < 0 ↔ x < y := by
  unfold cmpL
  split
  · omega
  · split <;> omega
theorem cmp_ge (x y : Int) : 0 ≤ cmpL x y ↔ y ≤ x := by
  unfold cmpL
  split
  · omega
  · split <;> omega
theorem cmp_gt (x y : Int) : 0 < cmpL x y ↔ y < x := by
  unfold cmpL
  split
  · omega
  · split <;> omega
theorem cmp_le (x y : Int) : cmpL x y ≤ 0 ↔ x ≤ y := by
  unfold cmpL
  split
  · omega
  · split <;> omega
theorem cmp_eq (x y : Int) : cmpL x y = 0 ↔ x = y := by
  unfold cmpL
  split
  · omega
  · split <;> omega
theorem cmp_ne (x y : Int) : ¬ cmpL x y = 0 ↔ ¬ x = y := not_congr (cmp_eq x y)
theorem tp0 {P : Jg_} {id pc : Nat} {ls : Lc_} {st : List Vl_} {w : Wd_} {M : Mm_} {cn : Cn_} {Q : Qp_} {e e' : Int} (h : e = e') (k : P id pc ls ((0, e') :: st) w M cn Q) : P id pc ls ((0, e) :: st) w M cn Q := by rw [h]; exact k
theorem tp1 {P : Jg_} {id pc : Nat} {ls : Lc_} {st : List Vl_} {w : Wd_} {M : Mm_} {cn : Cn_} {Q : Qp_} {e e' : Int} (h : e = e') (k : P id pc ls ((1, e') :: st) w M cn Q) : P id pc ls ((1, e) :: st) w M cn Q := by rw [h]; exact k
theorem upd_s (M : Mm_) (a i v : Int) : updM M a i v a i = v := if_pos ⟨rfl, rfl⟩
theorem upd_c {M : Mm_} {a b : Int} (h : b ≠ a) (i v j : Int) : updM M a i v b j = M b j := if_neg fun q => h q.1
theorem upd_i {M : Mm_} {i j : Int} (h : j ≠ i) (a v b : Int) : updM M a i v b j = M b j := if_neg fun q => h q.2
theorem upd_e (M : Mm_) (a i v b j : Int) : updM M a i v b j = if b = a ∧ j = i then v else M b j := rfl
theorem tx_bd {t : Int} (h : TX t) : 3 ≤ t ∧ t ≤ 21 := by obtain ⟨x, h, rfl⟩ := h; omega
theorem tw_bd {t : Int} (h : TW t) : 4 ≤ t ∧ t ≤ 22 := by have := tx_bd h; omega
theorem ta_bd {t : Int} (h : TA t) : 108 ≤ t ∧ t ≤ 109 := by rcases h with rfl | rfl <;> omega
theorem ts_bd {t : Int} (h : TS t) : -19 ≤ t ∧ t ≤ -10 := h
theorem tv_bd {t : Int} (h : TV t) : -39 ≤ t ∧ t ≤ -30 := h
theorem tx_tw {a b : Int} (h1 : TX a) (h2 : TW b) : a ≠ b := by
  obtain ⟨x, h, rfl⟩ := h1
  obtain ⟨y, h', e⟩ := h2
  omega
theorem tw_tx {a b : Int} (h1 : TW a) (h2 : TX b) : a ≠ b := fun e => tx_tw h2 h1 e.symm
theorem ten {x : Int} (h : 0 ≤ x ∧ x < 10) : x = 0 ∨ x = 1 ∨ x = 2 ∨ x = 3 ∨ x = 4 ∨ x = 5 ∨ x = 6 ∨ x = 7 ∨ x = 8 ∨ x = 9 := by omega
theorem tx_of {x : Int} (h : 0 ≤ x ∧ x < 10) : TX (3 + 2 * x) := ⟨x, h, rfl⟩
theorem tx_nn {t : Int} (h : TX t) : 0 ≤ t := by obtain ⟨x, h, rfl⟩ := h; omega
theorem tw_nn {t : Int} (h : TW t) : 0 ≤ t := by have := tx_nn h; omega
theorem tx_w {t : Int} (h : TX t) : TW (t + 1) := by unfold TW; rw [show t + 1 - 1 = t by omega]; exact h
theorem tx_ob {t : Int} (h : TX t) : obK WF t = some 0 := by
  obtain ⟨x, h, rfl⟩ := h
  rcases ten h with rfl | rfl | rfl | rfl | rfl | rfl | rfl | rfl | rfl | rfl <;> rfl
theorem tx_rf {t : Int} (h : TX t) : rfK WF t 0 = some (t + 1) := by
  obtain ⟨x, h, rfl⟩ := h
  rcases ten h with rfl | rfl | rfl | rfl | rfl | rfl | rfl | rfl | rfl | rfl <;> rfl
theorem tw_ar {t : Int} {M : Mm_} (h : TW t) : arK WF M t = some (1, 60) := by
  obtain ⟨x, h, e⟩ := h
  rw [show t = 4 + 2 * x by omega]
  rcases ten h with rfl | rfl | rfl | rfl | rfl | rfl | rfl | rfl | rfl | rfl <;> rfl
theorem rf_texts {x : Int} (h : 0 ≤ x ∧ x < 10) : rfK WF 2 x.toNat = some (3 + 2 * x) := by
  rcases ten h with rfl | rfl | rfl | rfl | rfl | rfl | rfl | rfl | rfl | rfl <;> rfl
theorem ta_nn {t : Int} (h : TA t) : 0 ≤ t := by rcases h with rfl | rfl <;> decide
theorem ta_ar {t : Int} {M : Mm_} (h : TA t) : arK WF M t = some (1, 60) := by rcases h with rfl | rfl <;> rfl
theorem ts_ob {t : Int} (h : TS t) : obK WF t = some 13 := by
  unfold TS at h
  unfold obK
  rw [if_pos (by omega), if_pos h]
theorem ts_rf {t : Int} (h : TS t) : rfK WF t 0 = some (t - 20) := by
  unfold TS at h
  unfold rfK
  rw [if_pos (by omega), if_pos ⟨h.1, h.2, rfl⟩]
theorem ts_v {t : Int} (h : TS t) : TV (t - 20) := by unfold TS at h; unfold TV; omega
theorem tv_neg {t : Int} (h : TV t) : t < 0 := by unfold TV at h; omega
theorem tv_ar {t : Int} {M : Mm_} (h : TV t) : arK WF M t = some (8, M t (-1)) := by
  unfold TV at h
  unfold arK roK
  rw [if_pos (by omega), if_neg (by omega), if_pos h]
theorem tr_of38 {y : Int} (h : 0 ≤ y ∧ y < 8) : TR 38 8 (39 + y) := ⟨y, h, by omega⟩
theorem tr_nn38 {t : Int} (h : TR 38 8 t) : 0 ≤ t := by obtain ⟨y, h, rfl⟩ := h; omega
theorem tr_bd38 {t : Int} (h : TR 38 8 t) : 39 ≤ t ∧ t ≤ 46 := by obtain ⟨y, h, rfl⟩ := h; omega
theorem rf_row38 {y : Int} (h : 0 ≤ y ∧ y < 8) : rfK WF 38 y.toNat = some (39 + y) := by
  rcases (show y = 0 ∨ y = 1 ∨ y = 2 ∨ y = 3 ∨ y = 4 ∨ y = 5 ∨ y = 6 ∨ y = 7 by omega) with rfl | rfl | rfl | rfl | rfl | rfl | rfl | rfl <;> rfl
theorem tr_ar38 {t : Int} {M : Mm_} (h : TR 38 8 t) : arK WF M t = some (1, 7) := by
  obtain ⟨y, h, rfl⟩ := h
  rcases (show y = 0 ∨ y = 1 ∨ y = 2 ∨ y = 3 ∨ y = 4 ∨ y = 5 ∨ y = 6 ∨ y = 7 by omega) with rfl | rfl | rfl | rfl | rfl | rfl | rfl | rfl <;> rfl
theorem tr_of48 {y : Int} (h : 0 ≤ y ∧ y < 10) : TR 48 10 (49 + y) := ⟨y, h, by omega⟩
theorem tr_nn48 {t : Int} (h : TR 48 10 t) : 0 ≤ t := by obtain ⟨y, h, rfl⟩ := h; omega
theorem tr_bd48 {t : Int} (h : TR 48 10 t) : 49 ≤ t ∧ t ≤ 58 := by obtain ⟨y, h, rfl⟩ := h; omega
theorem rf_row48 {y : Int} (h : 0 ≤ y ∧ y < 10) : rfK WF 48 y.toNat = some (49 + y) := by
  rcases (show y = 0 ∨ y = 1 ∨ y = 2 ∨ y = 3 ∨ y = 4 ∨ y = 5 ∨ y = 6 ∨ y = 7 ∨ y = 8 ∨ y = 9 by omega) with rfl | rfl | rfl | rfl | rfl | rfl | rfl | rfl | rfl | rfl <;> rfl
theorem tr_ar48 {t : Int} {M : Mm_} (h : TR 48 10 t) : arK WF M t = some (2, 60) := by
  obtain ⟨y, h, rfl⟩ := h
  rcases (show y = 0 ∨ y = 1 ∨ y = 2 ∨ y = 3 ∨ y = 4 ∨ y = 5 ∨ y = 6 ∨ y = 7 ∨ y = 8 ∨ y = 9 by omega) with rfl | rfl | rfl | rfl | rfl | rfl | rfl | rfl | rfl | rfl <;> rfl
theorem tr_of71 {y : Int} (h : 0 ≤ y ∧ y < 10) : TR 71 10 (72 + y) := ⟨y, h, by omega⟩
theorem tr_nn71 {t : Int} (h : TR 71 10 t) : 0 ≤ t := by obtain ⟨y, h, rfl⟩ := h; omega
theorem tr_bd71 {t : Int} (h : TR 71 10 t) : 72 ≤ t ∧ t ≤ 81 := by obtain ⟨y, h, rfl⟩ := h; omega
theorem rf_row71 {y : Int} (h : 0 ≤ y ∧ y < 10) : rfK WF 71 y.toNat = some (72 + y) := by
  rcases (show y = 0 ∨ y = 1 ∨ y = 2 ∨ y = 3 ∨ y = 4 ∨ y = 5 ∨ y = 6 ∨ y = 7 ∨ y = 8 ∨ y = 9 by omega) with rfl | rfl | rfl | rfl | rfl | rfl | rfl | rfl | rfl | rfl <;> rfl
theorem tr_ar71 {t : Int} {M : Mm_} (h : TR 71 10 t) : arK WF M t = some (1, 60) := by
  obtain ⟨y, h, rfl⟩ := h
  rcases (show y = 0 ∨ y = 1 ∨ y = 2 ∨ y = 3 ∨ y = 4 ∨ y = 5 ∨ y = 6 ∨ y = 7 ∨ y = 8 ∨ y = 9 by omega) with rfl | rfl | rfl | rfl | rfl | rfl | rfl | rfl | rfl | rfl <;> rfl
theorem tr_of82 {y : Int} (h : 0 ≤ y ∧ y < 10) : TR 82 10 (83 + y) := ⟨y, h, by omega⟩
theorem tr_nn82 {t : Int} (h : TR 82 10 t) : 0 ≤ t := by obtain ⟨y, h, rfl⟩ := h; omega
theorem tr_bd82 {t : Int} (h : TR 82 10 t) : 83 ≤ t ∧ t ≤ 92 := by obtain ⟨y, h, rfl⟩ := h; omega
theorem rf_row82 {y : Int} (h : 0 ≤ y ∧ y < 10) : rfK WF 82 y.toNat = some (83 + y) := by
  rcases (show y = 0 ∨ y = 1 ∨ y = 2 ∨ y = 3 ∨ y = 4 ∨ y = 5 ∨ y = 6 ∨ y = 7 ∨ y = 8 ∨ y = 9 by omega) with rfl | rfl | rfl | rfl | rfl | rfl | rfl | rfl | rfl | rfl <;> rfl
theorem tr_ar82 {t : Int} {M : Mm_} (h : TR 82 10 t) : arK WF M t = some (1, 60) := by
  obtain ⟨y, h, rfl⟩ := h
  rcases (show y = 0 ∨ y = 1 ∨ y = 2 ∨ y = 3 ∨ y = 4 ∨ y = 5 ∨ y = 6 ∨ y = 7 ∨ y = 8 ∨ y = 9 by omega) with rfl | rfl | rfl | rfl | rfl | rfl | rfl | rfl | rfl | rfl <;> rfl
theorem tr_of94 {y : Int} (h : 0 ≤ y ∧ y < 10) : TR 94 10 (95 + y) := ⟨y, h, by omega⟩
theorem tr_nn94 {t : Int} (h : TR 94 10 t) : 0 ≤ t := by obtain ⟨y, h, rfl⟩ := h; omega
theorem tr_bd94 {t : Int} (h : TR 94 10 t) : 95 ≤ t ∧ t ≤ 104 := by obtain ⟨y, h, rfl⟩ := h; omega
theorem rf_row94 {y : Int} (h : 0 ≤ y ∧ y < 10) : rfK WF 94 y.toNat = some (95 + y) := by
  rcases (show y = 0 ∨ y = 1 ∨ y = 2 ∨ y = 3 ∨ y = 4 ∨ y = 5 ∨ y = 6 ∨ y = 7 ∨ y = 8 ∨ y = 9 by omega) with rfl | rfl | rfl | rfl | rfl | rfl | rfl | rfl | rfl | rfl <;> rfl
theorem tr_ar94 {t : Int} {M : Mm_} (h : TR 94 10 t) : arK WF M t = some (2, 60) := by
  obtain ⟨y, h, rfl⟩ := h
  rcases (show y = 0 ∨ y = 1 ∨ y = 2 ∨ y = 3 ∨ y = 4 ∨ y = 5 ∨ y = 6 ∨ y = 7 ∨ y = 8 ∨ y = 9 by omega) with rfl | rfl | rfl | rfl | rfl | rfl | rfl | rfl | rfl | rfl <;> rfl
