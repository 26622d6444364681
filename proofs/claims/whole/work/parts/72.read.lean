/-! the reader of rules: what both do -/
def avF (f : Int → Bool) : Nat → Int → Int
  | 0, p => p
  | d + 1, p => if f p then avF f d (p + 1) else p
def av (f : Int → Bool) (n p : Int) : Int := avF f (n - p).toNat p
theorem av_ge {f : Int → Bool} {n p : Int} (h : n ≤ p) : av f n p = p := by
  unfold av
  rw [show (n - p).toNat = 0 by omega]
  rfl
theorem av_y {f : Int → Bool} {n p : Int} (h : p < n) (g : f p = true) : av f n p = av f n (p + 1) := by
  unfold av
  rw [show (n - p).toNat = (n - (p + 1)).toNat + 1 by omega]
  show (if f p then _ else _) = _
  rw [if_pos g]
theorem av_n {f : Int → Bool} {n p : Int} (g : f p = false) : av f n p = p := by
  unfold av
  cases (n - p).toNat with
  | zero => rfl
  | succ d =>
    show (if f p then _ else _) = _
    rw [if_neg (by rw [g]; decide)]
theorem avF_bd (f : Int → Bool) : ∀ (d : Nat) (p : Int), p ≤ avF f d p ∧ avF f d p ≤ p + d ∧ (∀ z, p ≤ z → z < avF f d p → f z = true) ∧ (avF f d p < p + d → f (avF f d p) = false)
  | 0, p => ⟨Int.le_refl _, by show p ≤ _; omega, fun z h1 h2 => by have : z < p := h2; omega, fun h => by have : p < p + (0 : Nat) := h; omega⟩
  | d + 1, p => by
    unfold avF
    by_cases h : f p = true
    · rw [if_pos h]
      obtain ⟨a1, a2, a3, a4⟩ := avF_bd f d (p + 1)
      refine ⟨by omega, by omega, fun z h1 h2 => ?_, fun g => a4 (by omega)⟩
      by_cases e : z = p
      · rw [e]
        exact h
      · exact a3 z (by omega) h2
    · rw [if_neg h]
      exact ⟨Int.le_refl _, by omega, fun z h1 h2 => by omega, fun _ => Bool.eq_false_iff.mpr h⟩
theorem av_bd (f : Int → Bool) {n p : Int} (h : p ≤ n) : p ≤ av f n p ∧ av f n p ≤ n ∧ (∀ z, p ≤ z → z < av f n p → f z = true) ∧ (av f n p < n → f (av f n p) = false) := by
  obtain ⟨a1, a2, a3, a4⟩ := avF_bd f (n - p).toNat p
  unfold av
  exact ⟨a1, by omega, a3, fun g => a4 (by omega)⟩
theorem av_i (f : Int → Bool) {n p : Int} (h : p ≤ n) : av f n (av f n p) = av f n p := by
  obtain ⟨a1, a2, a3, a4⟩ := av_bd f h
  by_cases e : av f n p < n
  · exact av_n (a4 e)
  · exact av_ge (by omega)
def isB (b : Int → Int) (z : Int) : Bool := decide (b z = 32)
def isL (b : Int → Int) (z : Int) : Bool := decide (97 ≤ b z ∧ b z ≤ 122)
def isD (b : Int → Int) (z : Int) : Bool := decide (48 ≤ b z ∧ b z ≤ 57)
def wd (i : Nat) : List Int := strB.getD i []
def spB (b : Int → Int) (i : Nat) (p e : Int) : Bool := decide (e - p = ((wd i).length : Int)) && !anyB (fun m => !decide (b (p + m) = (wd i).getD m.toNat 0)) (wd i).length
def KD (b : Int → Int) (p e : Int) : Int := if spB b 0 p e then 0 else if spB b 1 p e then 1 else if spB b 2 p e then 2 else if spB b 3 p e then 3 else if spB b 4 p e then 4 else if spB b 5 p e then 5 else if spB b 6 p e then 6 else if spB b 7 p e then 7 else -1
def nv (b : Int → Int) (q : Int) : Nat → Int
  | 0 => 0
  | m + 1 => nv b q m * 10 + b (q + m) - 48
/-- an argument: its fault, its number, the place behind it -/
def NUM (b : Int → Int) (n q lo hi fn : Int) : Int × Int × Int := if av (isD b) n q = q then (1, 0, q) else if 3 < av (isD b) n q - q then (2, 0, av (isD b) n q) else if nv b q (av (isD b) n q - q).toNat < lo ∨ hi < nv b q (av (isD b) n q - q).toNat then (fn, 0, av (isD b) n q) else (0, nv b q (av (isD b) n q - q).toNat, av (isD b) n q)
def YES (b : Int → Int) (n q : Int) : Int × Int × Int := if spB b 8 q (av (isL b) n q) then (0, 1, av (isL b) n q) else if spB b 9 q (av (isL b) n q) then (0, 0, av (isL b) n q) else (1, 0, av (isL b) n q)
def ARG (b : Int → Int) (n R kd q : Int) : Int × Int × Int := if kd = 2 ∨ kd = 3 then YES b n q else if kd = 7 then NUM b n q 0 (R - 1) 3 else NUM b n q (lowK kd) (higK kd) 2
/-- a clause: its fault, the fault's place, its kind, its number, the place behind it -/
def CL2 (b : Int → Int) (n q kd : Int) (a : Int × Int × Int) : Int × Int × Int × Int × Int := if a.1 = 0 then (if av (isB b) n a.2.2 < n ∧ b (av (isB b) n a.2.2) = 59 then (0, -1, kd, a.2.1, av (isB b) n a.2.2 + 1) else (1, av (isB b) n a.2.2, kd, a.2.1, av (isB b) n a.2.2)) else (a.1, q, kd, 0, q)
def CLS (b : Int → Int) (n R : Int) (tm : Bool) (p : Int) : Int × Int × Int × Int × Int := if KD b p (av (isL b) n p) = -1 then (1, p, -1, 0, p) else if tm then (4, p, -1, 0, p) else CL2 b n (av (isB b) n (av (isL b) n p)) (KD b p (av (isL b) n p)) (ARG b n R (KD b p (av (isL b) n p)) (av (isB b) n (av (isL b) n p)))
theorem KD_bd (b : Int → Int) (p e : Int) : -1 ≤ KD b p e ∧ KD b p e ≤ 7 := by
  unfold KD
  repeat' split
  all_goals omega
theorem x_ch : ∀ c : Nat, c < 256 → i2cI (andI (c : Int) 255) = c := by decide +kernel
theorem wd_ch : ∀ i, i < 10 → ((wd i).length ≤ 6 ∧ 2 ≤ (wd i).length) ∧ ∀ m, m < 6 → 0 ≤ (wd i).getD m 0 ∧ (wd i).getD m 0 < 256 := by decide +kernel
/-- the class's reader -/
def CS (M0 : Mm_) (n p f w st : Int) (tl : Int → Int) (M : Mm_) : Prop := (∀ c, c ≠ 32 → c ≠ 34 → M c = M0 c) ∧ M 32 3 = n ∧ M 32 4 = p ∧ M 32 5 = f ∧ M 32 6 = w ∧ M 32 2 = st ∧ ∀ j, M 34 j = tl j
section RR
variable {P : Jg_} {L : Nat} {xs : Nat → Int32} {M0 M : Mm_} {n p f w st : Int} {tl : Int → Int}
theorem CS.pl (h : CS M0 n p f w st tl M) (q : Int) : CS M0 n q f w st tl (updM M 32 4 q) := by
  obtain ⟨h1, h2, h3, h4, h5, h6, h7⟩ := h
  refine ⟨fun c c1 c2 => by rw [upd_r c1]; exact h1 c c1 c2, ?_, upd_s _ _ _ _, ?_, ?_, ?_, fun j => ?_⟩
  · rw [upd_i (by decide)]; exact h2
  · rw [upd_i (by decide)]; exact h4
  · rw [upd_i (by decide)]; exact h5
  · rw [upd_i (by decide)]; exact h6
  · rw [upd_c (by decide)]; exact h7 j
theorem CS.fw (h : CS M0 n p f w st tl M) (a c : Int) : CS M0 n p a c st tl (updM (updM M 32 5 a) 32 6 c) := by
  obtain ⟨h1, h2, h3, h4, h5, h6, h7⟩ := h
  refine ⟨fun c c1 c2 => by rw [upd_r c1, upd_r c1]; exact h1 c c1 c2, ?_, ?_, ?_, upd_s _ _ _ _, ?_, fun j => ?_⟩
  · rw [upd_i (by decide), upd_i (by decide)]; exact h2
  · rw [upd_i (by decide), upd_i (by decide)]; exact h3
  · rw [upd_i (by decide), upd_s]
  · rw [upd_i (by decide), upd_i (by decide)]; exact h6
  · rw [upd_c (by decide), upd_c (by decide)]; exact h7 j
theorem CS.sk (h : CS M0 n p f w st tl M) (a : Int) : CS M0 n p f w a tl (updM M 32 2 a) := by
  obtain ⟨h1, h2, h3, h4, h5, h6, h7⟩ := h
  refine ⟨fun c c1 c2 => by rw [upd_r c1]; exact h1 c c1 c2, ?_, ?_, ?_, ?_, upd_s _ _ _ _, fun j => ?_⟩
  · rw [upd_i (by decide)]; exact h2
  · rw [upd_i (by decide)]; exact h3
  · rw [upd_i (by decide)]; exact h4
  · rw [upd_i (by decide)]; exact h5
  · rw [upd_c (by decide)]; exact h7 j
theorem CS.td (h : CS M0 n p f w st tl M) (k v : Int) : CS M0 n p f w st (fun j => if j = k then v else tl j) (updM M 34 k v) := by
  obtain ⟨h1, h2, h3, h4, h5, h6, h7⟩ := h
  refine ⟨fun c c1 c2 => by rw [upd_r c2]; exact h1 c c1 c2, ?_, ?_, ?_, ?_, ?_, fun j => ?_⟩
  · rw [upd_c (by decide)]; exact h2
  · rw [upd_c (by decide)]; exact h3
  · rw [upd_c (by decide)]; exact h4
  · rw [upd_c (by decide)]; exact h5
  · rw [upd_c (by decide)]; exact h6
  · show _ = if j = k then v else tl j
    by_cases e : j = k
    · rw [e, upd_s, if_pos rfl]
    · rw [upd_i e, if_neg e]; exact h7 j
theorem s_skipC (hP : Clo P) {Q : Qp_} (hn : n ≤ 120) : ∀ (d : Nat) (p : Int) (M : Mm_), (n - p).toNat = d → 0 ≤ p → CS M0 n p f w st tl M → (∀ M', CS M0 n (av (isB (M0 33)) n p) f w st tl M' → Q none WF M') → P 74 0 [some (2, 32)] [] WF M (0, 0) Q := by
  intro d
  induction d with
  | zero =>
    intro p M hd hp h k
    obtain ⟨h1, h2, h3, -⟩ := id h
    refine t_RuleReader_skipBlanks_0 hP (fun _ => k M ?_) (fun q => by omega) (fun q => by omega)
    rw [av_ge (by omega)]
    exact h
  | succ d ih =>
    intro p M hd hp h k
    obtain ⟨h1, h2, h3, -⟩ := id h
    have b1 : M 33 = M0 33 := h1 33 (by decide) (by decide)
    refine t_RuleReader_skipBlanks_0 hP (fun q => by omega) (fun _ q => k M ?_) (fun _ q => ?_)
    · rw [h3, b1] at q
      rw [av_n (decide_eq_false q)]
      exact h
    · rw [h3, b1] at q
      rw [h3]
      refine ih (p + 1) _ (by omega) (by omega) (CS.pl h _) ?_
      rw [← av_y (f := isB (M0 33)) (by omega) (decide_eq_true q)]
      exact k
theorem s_eowC (hP : Clo P) {Q : Qp_} {x : Int} (hn : n ≤ 120) (h : CS M0 n p f w st tl M) (hx : 0 ≤ x) (k : Q (some (0, av (isL (M0 33)) n x)) WF M) : P 75 0 [some (2, 32), some (0, x), none] [] WF M (0, 0) Q := by
  obtain ⟨h1, h2, h3, -⟩ := id h
  have b1 : M 33 = M0 33 := h1 33 (by decide) (by decide)
  refine t_RuleReader_endOfWord_0 hP ?_
  have : ∀ (d : Nat) (x : Int), (n - x).toNat = d → 0 ≤ x → Q (some (0, av (isL (M0 33)) n x)) WF M → P 75 2 [some (2, 32), none, some (0, x)] [] WF M (0, 0) Q := by
    intro d
    induction d with
    | zero =>
      intro x hd hx k
      rw [av_ge (by omega)] at k
      exact t_RuleReader_endOfWord_2 hP (fun _ => k) (fun q => by omega) (fun q => by omega) (fun q => by omega)
    | succ d ih =>
      intro x hd hx k
      refine t_RuleReader_endOfWord_2 hP (fun q => by omega) (fun _ q => ?_) (fun _ _ q => ?_) (fun _ q1 q2 => ih (x + 1) (by omega) (by omega) ?_)
      · rw [b1] at q
        rw [av_n (decide_eq_false (by omega))] at k
        exact k
      · rw [b1] at q
        rw [av_n (decide_eq_false (by omega))] at k
        exact k
      · rw [b1] at q1 q2
        rw [av_y (f := isL (M0 33)) (by omega) (decide_eq_true (by omega))] at k
        exact k
  exact this _ x rfl hx k
theorem s_spC (hP : Clo P) {Q : Qp_} {i : Nat} {x e : Int} (hn : n ≤ 120) (hro : ∀ a, a < 0 → M0 a = RMx L xs a) (h : CS M0 n p f w st tl M) (hi : i < 10) (hx : 0 ≤ x ∧ x ≤ e ∧ e ≤ n) (r : Int) (hr : r = -10 - i) (k1 : spB (M0 33) i x e = true → Q (some (0, 1)) WF M) (k0 : spB (M0 33) i x e = false → Q (some (0, 0)) WF M) : P 83 0 [some (2, 32), some (0, x), some (0, e), some (2, r), none] [] WF M (0, 0) Q := by
  obtain ⟨h1, h2, h3, -⟩ := id h
  have b1 : M 33 = M0 33 := h1 33 (by decide) (by decide)
  have ts : TS r := by unfold TS; omega
  obtain ⟨⟨w1, w1'⟩, w2⟩ := wd_ch i hi
  have s1 : M r 1 = 0 := by
    rw [h1 r (by omega) (by omega), hro r (by omega)]
    unfold RMx
    rw [if_neg (by omega), if_neg (by omega), if_neg (by omega), if_neg (by omega), if_neg (by omega), if_neg (by omega)]
  have s2 : M (r - 20) (-1) = ((wd i).length : Int) := by
    rw [h1 (r - 20) (by omega) (by omega), hro (r - 20) (by omega)]
    unfold RMx
    rw [if_neg (by omega), if_pos rfl, if_neg (by omega), if_pos (by omega), show (-(r - 20) - 30).toNat = i by omega]
    rfl
  have s3 : ∀ m : Nat, M (r - 20) m = (wd i).getD m 0 := fun m => by
    rw [h1 (r - 20) (by omega) (by omega), hro (r - 20) (by omega)]
    unfold RMx
    rw [if_neg (by omega), if_neg (by omega), if_neg (by omega), if_neg (by omega), if_neg (by omega), if_pos (by omega), show (-(r - 20) - 30).toNat = i by omega, Int.toNat_natCast]
    rfl
  have sl : shrI (M (r - 20) (-1)) (M r 1) = ((wd i).length : Int) := by
    rw [s1, s2]
    have := shrI_n (a := (wd i).length) (k := 0) (by omega) (by omega)
    rw [Nat.pow_zero, Nat.div_one] at this
    exact this
  refine t_RuleReader_spells_0 hP ts (fun q => ?_) (fun q => k0 ?_)
  · rw [sl] at q
    refine lpN (n := (wd i).length) (f := fun m : Nat => anyB (fun m => !decide (M0 33 (x + m) = (wd i).getD m.toNat 0)) m = false → P 83 10 [some (2, 32), some (0, x), none, some (2, r), some (0, (m : Int))] [] WF M (0, 0) Q) ?_ ?_ 0 (Nat.zero_le _) rfl
    · intro g
      refine t_RuleReader_spells_10 hP ts (fun _ => k1 ?_) (fun q2 => by rw [sl] at q2; omega)
      unfold spB
      rw [decide_eq_true q, g]
      rfl
    · intro m hm ih g
      refine t_RuleReader_spells_10 hP ts (fun q2 => by rw [sl] at q2; omega) (fun _ => ?_) (s3 := fun _ => by omega) (s4 := fun _ => by omega)
      have cw := w2 m (by omega)
      have ch : i2cI (andI (M (r - 20) m) 255) = (wd i).getD m 0 := by
        rw [s3]
        obtain ⟨c, hc⟩ := Int.eq_ofNat_of_zero_le cw.1
        rw [hc]
        exact x_ch c (by omega)
      refine t_String_charAt_0 hP ts (fun q2 => absurd s1 q2) (fun _ q2 => by omega) (fun _ _ _ => ?_) (fun _ _ q2 => by omega) (s3 := fun _ _ _ => by rw [ch]; omega) (s4 := fun _ _ _ => by rw [ch]; omega)
      rw [ch]
      refine t_RuleReader_spells_23 hP ts (fun q2 => ih ?_) (fun q2 => k0 ?_)
      · show (anyB _ m || _) = false
        rw [g, Bool.false_or]
        rw [b1] at q2
        rw [Bool.not_eq_false', decide_eq_true_iff, Int.toNat_natCast]
        exact q2
      · rw [b1] at q2
        unfold spB
        rw [Bool.and_eq_false_iff]
        right
        rw [Bool.not_eq_false', anyB_iff]
        exact ⟨m, hm, by rw [Bool.not_eq_true', decide_eq_false_iff_not, Int.toNat_natCast]; exact q2⟩
  · rw [sl] at q
    unfold spB
    rw [decide_eq_false q, Bool.false_and]
theorem s_kindC (hP : Clo P) {Q : Qp_} {x e : Int} (hn : n ≤ 120) (hro : ∀ a, a < 0 → M0 a = RMx L xs a) (h : CS M0 n p f w st tl M) (hx : 0 ≤ x ∧ x ≤ e ∧ e ≤ n) (k : Q (some (0, KD (M0 33) x e)) WF M) : P 84 0 [some (2, 32), some (0, x), some (0, e)] [] WF M (0, 0) Q := by
  have one : (1 : Int) = 0 → False := by decide
  unfold KD at k
  refine t_RuleReader_kindOf_0 hP (s_spC hP hn hro h (i := 0) (by decide) hx _ (by decide) (fun g => t_RuleReader_kindOf_5 hP (fun q => absurd q one) (fun _ => ?_)) (fun g => t_RuleReader_kindOf_5 hP (fun _ => ?_) (fun q => absurd rfl q)))
  · rw [if_pos g] at k; exact k
  rw [if_neg (by rw [g]; decide)] at k
  clear g
  refine s_spC hP hn hro h (i := 1) (by decide) hx _ (by decide) (fun g => t_RuleReader_kindOf_13 hP (fun q => absurd q one) (fun _ => ?_)) (fun g => t_RuleReader_kindOf_13 hP (fun _ => ?_) (fun q => absurd rfl q))
  · rw [if_pos g] at k; exact k
  rw [if_neg (by rw [g]; decide)] at k
  clear g
  refine s_spC hP hn hro h (i := 2) (by decide) hx _ (by decide) (fun g => t_RuleReader_kindOf_21 hP (fun q => absurd q one) (fun _ => ?_)) (fun g => t_RuleReader_kindOf_21 hP (fun _ => ?_) (fun q => absurd rfl q))
  · rw [if_pos g] at k; exact k
  rw [if_neg (by rw [g]; decide)] at k
  clear g
  refine s_spC hP hn hro h (i := 3) (by decide) hx _ (by decide) (fun g => t_RuleReader_kindOf_29 hP (fun q => absurd q one) (fun _ => ?_)) (fun g => t_RuleReader_kindOf_29 hP (fun _ => ?_) (fun q => absurd rfl q))
  · rw [if_pos g] at k; exact k
  rw [if_neg (by rw [g]; decide)] at k
  clear g
  refine s_spC hP hn hro h (i := 4) (by decide) hx _ (by decide) (fun g => t_RuleReader_kindOf_37 hP (fun q => absurd q one) (fun _ => ?_)) (fun g => t_RuleReader_kindOf_37 hP (fun _ => ?_) (fun q => absurd rfl q))
  · rw [if_pos g] at k; exact k
  rw [if_neg (by rw [g]; decide)] at k
  clear g
  refine s_spC hP hn hro h (i := 5) (by decide) hx _ (by decide) (fun g => t_RuleReader_kindOf_45 hP (fun q => absurd q one) (fun _ => ?_)) (fun g => t_RuleReader_kindOf_45 hP (fun _ => ?_) (fun q => absurd rfl q))
  · rw [if_pos g] at k; exact k
  rw [if_neg (by rw [g]; decide)] at k
  clear g
  refine s_spC hP hn hro h (i := 6) (by decide) hx _ (by decide) (fun g => t_RuleReader_kindOf_53 hP (fun q => absurd q one) (fun _ => ?_)) (fun g => t_RuleReader_kindOf_53 hP (fun _ => ?_) (fun q => absurd rfl q))
  · rw [if_pos g] at k; exact k
  rw [if_neg (by rw [g]; decide)] at k
  clear g
  refine s_spC hP hn hro h (i := 7) (by decide) hx _ (by decide) (fun g => t_RuleReader_kindOf_61 hP (fun q => absurd q one) (fun _ => ?_)) (fun g => t_RuleReader_kindOf_61 hP (fun _ => ?_) (fun q => absurd rfl q))
  · rw [if_pos g] at k; exact k
  rw [if_neg (by rw [g]; decide)] at k
  exact k
end RR
