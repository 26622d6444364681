section SNB
variable {l : Launch} {D : va_G} {kA : Nat → ClassId} {ro : Int → Option Nat} {RM : Mm_} {id : Nat} {A : Nat → Prop} {p : Program} {e : Env} {s : State} {m : MethodId} {args : Array Value} {below : List Frame} {meth : Method} {c : Code} {n0 : Nat} {ad0 : Nat → Nat} {Z : State → Prop}
def RetOK (l : Launch) (D : va_G) (kA : Nat → ClassId) (ro : Int → Option Nat) (RM : Mm_) (id : Nat) (A : Nat → Prop) (p : Program) (e : Env) (s : State) (m : MethodId) (args : Array Value) (below : List Frame) (meth : Method) (c : Code) (n0 : Nat) (ad0 : Nat → Nat) (Z : State → Prop) (Q : Qp_) : Prop :=
  ∀ (bp : Nat) (ls : Lc_) (w : Wd_) (M : Mm_) (cn : Cn_),
    (∀ x : Int, decode (byOf id) bp = .ok (.ireturn, 1) → (∃ ty, retOf id = some ty ∧ narrow ty (.int (Int32.ofInt x)) = .int (Int32.ofInt x)) → Q (some (0, x)) w M → Wb l D kA ro RM id A p e s m args below meth c n0 ad0 Z bp ls [(0, x)] w M cn) ∧
    (∀ x : Int, decode (byOf id) bp = .ok (.lreturn, 1) → retOf id = some .long → Q (some (1, x)) w M → Wb l D kA ro RM id A p e s m args below meth c n0 ad0 Z bp ls [(1, x)] w M cn) ∧
    (decode (byOf id) bp = .ok (.return_, 1) → retOf id = none → Q none w M → Wb l D kA ro RM id A p e s m args below meth c n0 ad0 Z bp ls [] w M cn)
theorem ret_ok (C : Cx D kA ro RM id A p s m args meth c) {Q : Qp_} : RetOK l D kA ro RM id A p e s m args below meth c n0 ad0 (MQ below (QcP D kA ro RM A n0 ad0 Q) args s (mcOf id) (msOf id) A) Q := by
  obtain ⟨hx, hb, hr, hlk, hml, hown, hnm, hts, hen, hK, hA⟩ := C
  intro bp ls w M cn
  refine ⟨fun x hd ⟨ty, h1, h2⟩ hQ => ?_, fun x hd h1 hQ => ?_, fun hd h1 hQ => ?_⟩
  · intro ad H locs lsA a1 a2 a3 a4 a5 a6 a7
    refine W.widen (k := mcOf id) (n := msOf id) a7.1 a7.2 ?_
    exact W.zret (v := Int32.ofInt x) hx hb (hr.trans h1) h2 (fun t ht hW => ⟨⟨some (0, x), w, M, ad, rfl, hQ, fun y hy => by cases hy; exact okS_hd a6, a1, a2, by rw [ht]; exact a3.1, a3.2.1, va_K.moved hW.alike hK, a3.2.2.2⟩, a3.2.2.1.F ht⟩) a3.2.2.1.2.2 hd hlk
  · intro ad H locs lsA a1 a2 a3 a4 a5 a6 a7
    refine W.widen (k := mcOf id) (n := msOf id) a7.1 a7.2 ?_
    exact W.lret (v := Int64.ofInt x) hx hb (hr.trans h1) (fun t ht hW => ⟨⟨some (1, x), w, M, ad, rfl, hQ, fun y hy => by cases hy; exact okS_hd a6, a1, a2, by rw [ht]; exact a3.1, a3.2.1, va_K.moved hW.alike hK, a3.2.2.2⟩, a3.2.2.1.F ht⟩) a3.2.2.1.2.2 hd hlk
  · intro ad H locs lsA a1 a2 a3 a4 a5 a6 a7
    refine W.widen (k := mcOf id) (n := msOf id) a7.1 a7.2 ?_
    exact W.vret hx hb (hr.trans h1) (fun t ht hW => ⟨⟨none, w, M, ad, rfl, hQ, (fun y hy => by cases hy), a1, a2, by rw [ht]; exact a3.1, a3.2.1, va_K.moved hW.alike hK, a3.2.2.2⟩, a3.2.2.1.F ht⟩) a3.2.2.1.2.2 hd hlk
theorem nar2 {x : Int} (h : -128 ≤ x ∧ x < 128) : narrow .byte (.int (Int32.ofInt x)) = .int (Int32.ofInt x) := by
  have := pk_nb (Int32.ofInt x)
  have e : (Int32.ofInt x).toInt8.toInt32 = Int32.ofInt x := by
    apply Int32.toInt_inj.mp
    rw [Int8.toInt_toInt32, Int32.toInt_toInt8, inI_of32 (by unfold inI; omega)]
    show Int.bmod x 256 = x
    rw [Int.bmod_def]
    split <;> omega
  rw [e] at this
  exact this
theorem nar3 {x : Int} (h : 0 ≤ x ∧ x < 65536) : narrow .char (.int (Int32.ofInt x)) = .int (Int32.ofInt x) := by
  have := pk_nc (Int32.ofInt x)
  rw [of_i2c, show i2cI x = x by unfold i2cI; omega] at this
  exact this
theorem swc_el {x : Int} {k : Nat → Prop} : ∀ (tg : List Nat) (lo : Int) (j t : Nat), swc x k lo tg → tg[j]? = some t → x = lo + j → k t
  | [], _, j, _, _, h, _ => by cases j <;> cases h
  | t0 :: ts, lo, 0, t, hs, h, hx => by
    have h : some t0 = some t := h
    cases h
    exact hs.1 (by omega)
  | t0 :: ts, lo, j + 1, t, hs, h, hx => swc_el ts (lo + 1) j t hs.2 h (by omega)
theorem jmps_el {cd : List In_} {bp : Nat} : ∀ (tg : List Nat) (os : List Int) (j t : Nat), jmps cd bp tg os = true → tg[j]? = some t → ∃ f, os[j]? = some f ∧ jmp cd t ((bp : Int) + f) = true
  | [], _, j, _, _, h => by cases j <;> cases h
  | t0 :: ts, [], _, _, hj, _ => by cases hj
  | t0 :: ts, f0 :: fs, 0, t, hj, h => by
    have h : some t0 = some t := h
    cases h
    have hj : (jmp cd t0 ((bp : Int) + f0) && jmps cd bp ts fs) = true := hj
    exact ⟨f0, rfl, (Bool.and_eq_true _ _ ▸ hj).1⟩
  | t0 :: ts, f0 :: fs, j + 1, t, hj, h => by
    have hj : (jmp cd t0 ((bp : Int) + f0) && jmps cd bp ts fs) = true := hj
    exact jmps_el ts fs j t (Bool.and_eq_true _ _ ▸ hj).2 h
theorem jmps_len {cd : List In_} {bp : Nat} : ∀ (tg : List Nat) (os : List Int), jmps cd bp tg os = true → tg.length = os.length
  | [], [], _ => rfl
  | [], _ :: _, h => by cases h
  | _ :: _, [], h => by cases h
  | _ :: ts, f0 :: fs, h => by
    have h : (jmp cd _ ((bp : Int) + f0) && jmps cd bp ts fs) = true := h
    rw [List.length_cons, List.length_cons, jmps_len ts fs (Bool.and_eq_true _ _ ▸ h).2]
theorem Pm_mono : Mono (Pm l D kA ro RM) := by
  intro id pc ls st w M cn Q Q' hq h A p e s m args below meth c n0 ad0 C ad H locs lsA e0 a1 a2 a3 a4 a5 a6 a7 he
  intro T hT X
  obtain ⟨t, b1, o2, b2, b3, ⟨⟨v, w', M', ad', h1, h2, h3⟩, h4⟩, h5⟩ := h A p e s m args below meth c n0 ad0 C ad H locs lsA e0 a1 a2 a3 a4 a5 a6 a7 he T hT X
  exact ⟨t, b1, o2, b2, b3, ⟨⟨v, w', M', ad', h1, hq _ _ _ h2, h3⟩, h4⟩, h5⟩
set_option maxHeartbeats 4000000 in
theorem step_sound (C : Cx D kA ro RM id A p s m args meth c) {Q : Qp_} (hret : RetOK l D kA ro RM id A p e s m args below meth c n0 ad0 Z Q) {pc : Nat} {ls : Lc_} {st : List Vl_} {w : Wd_} {M : Mm_} {cn : Cn_} {e0 : In_} (ck : ckE id (ownOf id) (codeOf id) (byOf id) pc e0 = true) (h : st1 (cPof (Pm l D kA ro RM)) (Wat l D kA ro RM id A p e s m args below meth c n0 ad0 Z) Q e0 pc ls st w M cn) : Wb l D kA ro RM id A p e s m args below meth c n0 ad0 Z e0.2.1 ls st w M cn := by
  obtain ⟨ins, bp, a, b, z, tg⟩ := e0
  show Wb l D kA ro RM id A p e s m args below meth c n0 ad0 Z bp ls st w M cn
  cases ins
  all_goals try exact (h : False).elim
  all_goals simp only [st1] at h
  case iconst i =>
    simp only [ckE, Bool.and_eq_true, decide_eq_true_eq] at ck
    obtain ⟨⟨⟨cd, cn1⟩, cz⟩, cr⟩ := ck
    obtain ⟨e1, n1, n2⟩ := nxt_el cn1
    subst cz
    exact so_iconst C (rgI_el cr) (dk_el cd) (h.b n1 n2)
  case bipush i =>
    simp only [ckE, Bool.and_eq_true, decide_eq_true_eq] at ck
    obtain ⟨⟨⟨⟨cd, cn1⟩, cz⟩, c1⟩, c2⟩ := ck
    obtain ⟨e1, n1, n2⟩ := nxt_el cn1
    subst cz
    exact so_bipush C c1 c2 (dk_el cd) (h.b n1 n2)
  case sipush i =>
    simp only [ckE, Bool.and_eq_true, decide_eq_true_eq] at ck
    obtain ⟨⟨⟨⟨cd, cn1⟩, cz⟩, c1⟩, c2⟩ := ck
    obtain ⟨e1, n1, n2⟩ := nxt_el cn1
    subst cz
    exact so_sipush C c1 c2 (dk_el cd) (h.b n1 n2)
  case lconst i =>
    simp only [ckE, Bool.and_eq_true, decide_eq_true_eq] at ck
    obtain ⟨⟨cd, cn1⟩, cz⟩ := ck
    obtain ⟨e1, n1, n2⟩ := nxt_el cn1
    subst cz
    exact so_lconst C (dk_el cd) (h.b n1 n2)
  case ldc i =>
    simp only [ckE, Bool.and_eq_true, decide_eq_true_eq] at ck
    obtain ⟨⟨⟨⟨⟨⟨cd, cn1⟩, ca⟩, co⟩, c1⟩, c2⟩, cs⟩ := ck
    obtain ⟨e1, n1, n2⟩ := nxt_el cn1
    subst ca
    have hq : ∃ q ∈ srL, (q.1 : Int) = -z - 10 ∧ q.2.1 = i := by
      have hm := List.elem_iff.mp cs
      obtain ⟨q, hq, e1⟩ := List.mem_map.mp hm
      simp only [Prod.mk.injEq] at e1
      exact ⟨q, hq, e1.1, e1.2⟩
    exact so_ldcS C co c1 c2 hq (dk_el cd) (h.b n1 n2)
  case ldc_w i =>
    simp only [ckE, Bool.and_eq_true, decide_eq_true_eq] at ck
    obtain ⟨⟨⟨cd, cn1⟩, cz⟩, cr⟩ := ck
    obtain ⟨e1, n1, n2⟩ := nxt_el cn1
    exact so_ldcw C cz (rgI_el cr) (dk_el cd) (h.b n1 n2)
  case ldc2_w i =>
    simp only [ckE, Bool.and_eq_true, decide_eq_true_eq] at ck
    obtain ⟨⟨⟨cd, cn1⟩, cz⟩, cr⟩ := ck
    obtain ⟨e1, n1, n2⟩ := nxt_el cn1
    exact so_ldc2 C cz (rgL_el cr) (dk_el cd) (h.b n1 n2)
  case iload i =>
    simp only [ckE, Bool.and_eq_true, decide_eq_true_eq] at ck
    obtain ⟨⟨cd, cn1⟩, ca⟩ := ck
    obtain ⟨e1, n1, n2⟩ := nxt_el cn1
    subst ca
    obtain ⟨x, hl, hk⟩ := gl_el h
    exact so_iload C hl (dk_el cd) (hk.b n1 n2)
  case iload_n i =>
    simp only [ckE, Bool.and_eq_true, decide_eq_true_eq] at ck
    obtain ⟨⟨cd, cn1⟩, ca⟩ := ck
    obtain ⟨e1, n1, n2⟩ := nxt_el cn1
    subst ca
    obtain ⟨x, hl, hk⟩ := gl_el h
    exact so_iloadn C hl (dk_el cd) (hk.b n1 n2)
  case istore i =>
    simp only [ckE, Bool.and_eq_true, decide_eq_true_eq] at ck
    obtain ⟨⟨⟨cd, cn1⟩, ca⟩, cm⟩ := ck
    obtain ⟨e1, n1, n2⟩ := nxt_el cn1
    subst ca
    obtain ⟨x, r, rfl, hk⟩ := g1_el h
    exact so_istore C cm (dk_el cd) (hk.b n1 n2)
  case istore_n i =>
    simp only [ckE, Bool.and_eq_true, decide_eq_true_eq] at ck
    obtain ⟨⟨⟨cd, cn1⟩, ca⟩, cm⟩ := ck
    obtain ⟨e1, n1, n2⟩ := nxt_el cn1
    subst ca
    obtain ⟨x, r, rfl, hk⟩ := g1_el h
    exact so_istoren C cm (dk_el cd) (hk.b n1 n2)
  case lload i =>
    simp only [ckE, Bool.and_eq_true, decide_eq_true_eq] at ck
    obtain ⟨⟨cd, cn1⟩, ca⟩ := ck
    obtain ⟨e1, n1, n2⟩ := nxt_el cn1
    subst ca
    obtain ⟨x, hl, hk⟩ := gl_el h
    exact so_lload C hl (dk_el cd) (hk.b n1 n2)
  case lload_n i =>
    simp only [ckE, Bool.and_eq_true, decide_eq_true_eq] at ck
    obtain ⟨⟨cd, cn1⟩, ca⟩ := ck
    obtain ⟨e1, n1, n2⟩ := nxt_el cn1
    subst ca
    obtain ⟨x, hl, hk⟩ := gl_el h
    exact so_lloadn C hl (dk_el cd) (hk.b n1 n2)
  case lstore i =>
    simp only [ckE, Bool.and_eq_true, decide_eq_true_eq] at ck
    obtain ⟨⟨⟨cd, cn1⟩, ca⟩, cm⟩ := ck
    obtain ⟨e1, n1, n2⟩ := nxt_el cn1
    subst ca
    obtain ⟨x, r, rfl, hk⟩ := g1_el h
    exact so_lstore C cm (dk_el cd) (hk.b n1 n2)
  case lstore_n i =>
    simp only [ckE, Bool.and_eq_true, decide_eq_true_eq] at ck
    obtain ⟨⟨⟨cd, cn1⟩, ca⟩, cm⟩ := ck
    obtain ⟨e1, n1, n2⟩ := nxt_el cn1
    subst ca
    obtain ⟨x, r, rfl, hk⟩ := g1_el h
    exact so_lstoren C cm (dk_el cd) (hk.b n1 n2)
  case aload i =>
    simp only [ckE, Bool.and_eq_true, decide_eq_true_eq] at ck
    obtain ⟨⟨cd, cn1⟩, ca⟩ := ck
    obtain ⟨e1, n1, n2⟩ := nxt_el cn1
    subst ca
    obtain ⟨x, hl, hk⟩ := gl_el h
    exact so_aload C hl (dk_el cd) (hk.b n1 n2)
  case aload_n i =>
    simp only [ckE, Bool.and_eq_true, decide_eq_true_eq] at ck
    obtain ⟨⟨cd, cn1⟩, ca⟩ := ck
    obtain ⟨e1, n1, n2⟩ := nxt_el cn1
    subst ca
    obtain ⟨x, hl, hk⟩ := gl_el h
    exact so_aloadn C hl (dk_el cd) (hk.b n1 n2)
  case astore i =>
    simp only [ckE, Bool.and_eq_true, decide_eq_true_eq] at ck
    obtain ⟨⟨⟨cd, cn1⟩, ca⟩, cm⟩ := ck
    obtain ⟨e1, n1, n2⟩ := nxt_el cn1
    subst ca
    obtain ⟨x, r, rfl, hk⟩ := g1_el h
    exact so_astore C cm (dk_el cd) (hk.b n1 n2)
  case astore_n i =>
    simp only [ckE, Bool.and_eq_true, decide_eq_true_eq] at ck
    obtain ⟨⟨⟨cd, cn1⟩, ca⟩, cm⟩ := ck
    obtain ⟨e1, n1, n2⟩ := nxt_el cn1
    subst ca
    obtain ⟨x, r, rfl, hk⟩ := g1_el h
    exact so_astoren C cm (dk_el cd) (hk.b n1 n2)
  case iinc i n =>
    simp only [ckE, Bool.and_eq_true, decide_eq_true_eq] at ck
    obtain ⟨⟨⟨⟨⟨cd, cn1⟩, ca⟩, cz⟩, cm⟩, cr⟩ := ck
    obtain ⟨e1, n1, n2⟩ := nxt_el cn1
    subst ca
    subst cz
    obtain ⟨x, hl, hi, hk⟩ := gl_el h
    exact so_iinc C hl cm hi (dk_el cd) (hk.b n1 n2)
  case iadd =>
    simp only [ckE, Bool.and_eq_true, decide_eq_true_eq] at ck
    obtain ⟨cd, cn1⟩ := ck
    obtain ⟨e1, n1, n2⟩ := nxt_el cn1
    obtain ⟨y, r, rfl, h5⟩ := g1_el h
    obtain ⟨x, r, rfl, hi, hk⟩ := g1_el h5
    exact so_iadd C hi (dk_el cd) (hk.b n1 n2)
  case isub =>
    simp only [ckE, Bool.and_eq_true, decide_eq_true_eq] at ck
    obtain ⟨cd, cn1⟩ := ck
    obtain ⟨e1, n1, n2⟩ := nxt_el cn1
    obtain ⟨y, r, rfl, h5⟩ := g1_el h
    obtain ⟨x, r, rfl, hi, hk⟩ := g1_el h5
    exact so_isub C hi (dk_el cd) (hk.b n1 n2)
  case imul =>
    simp only [ckE, Bool.and_eq_true, decide_eq_true_eq] at ck
    obtain ⟨cd, cn1⟩ := ck
    obtain ⟨e1, n1, n2⟩ := nxt_el cn1
    obtain ⟨y, r, rfl, h5⟩ := g1_el h
    obtain ⟨x, r, rfl, hi, hk⟩ := g1_el h5
    exact so_imul C hi (dk_el cd) (hk.b n1 n2)
  case idiv =>
    simp only [ckE, Bool.and_eq_true, decide_eq_true_eq] at ck
    obtain ⟨cd, cn1⟩ := ck
    obtain ⟨e1, n1, n2⟩ := nxt_el cn1
    obtain ⟨y, r, rfl, h5⟩ := g1_el h
    obtain ⟨x, r, rfl, hi, hk⟩ := g1_el h5
    exact so_idiv C hi (dk_el cd) (hk.b n1 n2)
  case irem =>
    simp only [ckE, Bool.and_eq_true, decide_eq_true_eq] at ck
    obtain ⟨cd, cn1⟩ := ck
    obtain ⟨e1, n1, n2⟩ := nxt_el cn1
    obtain ⟨y, r, rfl, h5⟩ := g1_el h
    obtain ⟨x, r, rfl, hi, hk⟩ := g1_el h5
    exact so_irem C hi (dk_el cd) (hk.b n1 n2)
  case ladd =>
    simp only [ckE, Bool.and_eq_true, decide_eq_true_eq] at ck
    obtain ⟨cd, cn1⟩ := ck
    obtain ⟨e1, n1, n2⟩ := nxt_el cn1
    obtain ⟨y, r, rfl, h5⟩ := g1_el h
    obtain ⟨x, r, rfl, hi, hk⟩ := g1_el h5
    exact so_ladd C hi (dk_el cd) (hk.b n1 n2)
  case lsub =>
    simp only [ckE, Bool.and_eq_true, decide_eq_true_eq] at ck
    obtain ⟨cd, cn1⟩ := ck
    obtain ⟨e1, n1, n2⟩ := nxt_el cn1
    obtain ⟨y, r, rfl, h5⟩ := g1_el h
    obtain ⟨x, r, rfl, hi, hk⟩ := g1_el h5
    exact so_lsub C hi (dk_el cd) (hk.b n1 n2)
  case lmul =>
    simp only [ckE, Bool.and_eq_true, decide_eq_true_eq] at ck
    obtain ⟨cd, cn1⟩ := ck
    obtain ⟨e1, n1, n2⟩ := nxt_el cn1
    obtain ⟨y, r, rfl, h5⟩ := g1_el h
    obtain ⟨x, r, rfl, hi, hk⟩ := g1_el h5
    exact so_lmul C hi (dk_el cd) (hk.b n1 n2)
  case iand =>
    simp only [ckE, Bool.and_eq_true, decide_eq_true_eq] at ck
    obtain ⟨cd, cn1⟩ := ck
    obtain ⟨e1, n1, n2⟩ := nxt_el cn1
    obtain ⟨y, r, rfl, h5⟩ := g1_el h
    obtain ⟨x, r, rfl, hk⟩ := g1_el h5
    exact so_iand C (dk_el cd) (hk.b n1 n2)
  case ior =>
    simp only [ckE, Bool.and_eq_true, decide_eq_true_eq] at ck
    obtain ⟨cd, cn1⟩ := ck
    obtain ⟨e1, n1, n2⟩ := nxt_el cn1
    obtain ⟨y, r, rfl, h5⟩ := g1_el h
    obtain ⟨x, r, rfl, hk⟩ := g1_el h5
    exact so_ior C (dk_el cd) (hk.b n1 n2)
  case ixor =>
    simp only [ckE, Bool.and_eq_true, decide_eq_true_eq] at ck
    obtain ⟨cd, cn1⟩ := ck
    obtain ⟨e1, n1, n2⟩ := nxt_el cn1
    obtain ⟨y, r, rfl, h5⟩ := g1_el h
    obtain ⟨x, r, rfl, hk⟩ := g1_el h5
    exact so_ixor C (dk_el cd) (hk.b n1 n2)
  case ishl =>
    simp only [ckE, Bool.and_eq_true, decide_eq_true_eq] at ck
    obtain ⟨cd, cn1⟩ := ck
    obtain ⟨e1, n1, n2⟩ := nxt_el cn1
    obtain ⟨y, r, rfl, h5⟩ := g1_el h
    obtain ⟨x, r, rfl, hk⟩ := g1_el h5
    exact so_ishl C (dk_el cd) (hk.b n1 n2)
  case ishr =>
    simp only [ckE, Bool.and_eq_true, decide_eq_true_eq] at ck
    obtain ⟨cd, cn1⟩ := ck
    obtain ⟨e1, n1, n2⟩ := nxt_el cn1
    obtain ⟨y, r, rfl, h5⟩ := g1_el h
    obtain ⟨x, r, rfl, hk⟩ := g1_el h5
    exact so_ishr C (dk_el cd) (hk.b n1 n2)
  case iushr =>
    simp only [ckE, Bool.and_eq_true, decide_eq_true_eq] at ck
    obtain ⟨cd, cn1⟩ := ck
    obtain ⟨e1, n1, n2⟩ := nxt_el cn1
    obtain ⟨y, r, rfl, h5⟩ := g1_el h
    obtain ⟨x, r, rfl, hk⟩ := g1_el h5
    exact so_iushr C (dk_el cd) (hk.b n1 n2)
  case land =>
    simp only [ckE, Bool.and_eq_true, decide_eq_true_eq] at ck
    obtain ⟨cd, cn1⟩ := ck
    obtain ⟨e1, n1, n2⟩ := nxt_el cn1
    obtain ⟨y, r, rfl, h5⟩ := g1_el h
    obtain ⟨x, r, rfl, hk⟩ := g1_el h5
    exact so_land C (dk_el cd) (hk.b n1 n2)
  case lor =>
    simp only [ckE, Bool.and_eq_true, decide_eq_true_eq] at ck
    obtain ⟨cd, cn1⟩ := ck
    obtain ⟨e1, n1, n2⟩ := nxt_el cn1
    obtain ⟨y, r, rfl, h5⟩ := g1_el h
    obtain ⟨x, r, rfl, hk⟩ := g1_el h5
    exact so_lor C (dk_el cd) (hk.b n1 n2)
  case lxor =>
    simp only [ckE, Bool.and_eq_true, decide_eq_true_eq] at ck
    obtain ⟨cd, cn1⟩ := ck
    obtain ⟨e1, n1, n2⟩ := nxt_el cn1
    obtain ⟨y, r, rfl, h5⟩ := g1_el h
    obtain ⟨x, r, rfl, hk⟩ := g1_el h5
    exact so_lxor C (dk_el cd) (hk.b n1 n2)
  case lshl =>
    simp only [ckE, Bool.and_eq_true, decide_eq_true_eq] at ck
    obtain ⟨cd, cn1⟩ := ck
    obtain ⟨e1, n1, n2⟩ := nxt_el cn1
    obtain ⟨y, r, rfl, h5⟩ := g1_el h
    obtain ⟨x, r, rfl, hk⟩ := g1_el h5
    exact so_lshl C (dk_el cd) (hk.b n1 n2)
  case lshr =>
    simp only [ckE, Bool.and_eq_true, decide_eq_true_eq] at ck
    obtain ⟨cd, cn1⟩ := ck
    obtain ⟨e1, n1, n2⟩ := nxt_el cn1
    obtain ⟨y, r, rfl, h5⟩ := g1_el h
    obtain ⟨x, r, rfl, hk⟩ := g1_el h5
    exact so_lshr C (dk_el cd) (hk.b n1 n2)
  case lushr =>
    simp only [ckE, Bool.and_eq_true, decide_eq_true_eq] at ck
    obtain ⟨cd, cn1⟩ := ck
    obtain ⟨e1, n1, n2⟩ := nxt_el cn1
    obtain ⟨y, r, rfl, h5⟩ := g1_el h
    obtain ⟨x, r, rfl, hk⟩ := g1_el h5
    exact so_lushr C (dk_el cd) (hk.b n1 n2)
  case lcmp =>
    simp only [ckE, Bool.and_eq_true, decide_eq_true_eq] at ck
    obtain ⟨cd, cn1⟩ := ck
    obtain ⟨e1, n1, n2⟩ := nxt_el cn1
    obtain ⟨y, r, rfl, h5⟩ := g1_el h
    obtain ⟨x, r, rfl, hk⟩ := g1_el h5
    exact so_lcmp C (dk_el cd) (hk.b n1 n2)
  case i2l =>
    simp only [ckE, Bool.and_eq_true, decide_eq_true_eq] at ck
    obtain ⟨cd, cn1⟩ := ck
    obtain ⟨e1, n1, n2⟩ := nxt_el cn1
    obtain ⟨x, r, rfl, hk⟩ := g1_el h
    exact so_i2l C (dk_el cd) (hk.b n1 n2)
  case l2i =>
    simp only [ckE, Bool.and_eq_true, decide_eq_true_eq] at ck
    obtain ⟨cd, cn1⟩ := ck
    obtain ⟨e1, n1, n2⟩ := nxt_el cn1
    obtain ⟨x, r, rfl, hk⟩ := g1_el h
    exact so_l2i C (dk_el cd) (hk.b n1 n2)
  case i2c =>
    simp only [ckE, Bool.and_eq_true, decide_eq_true_eq] at ck
    obtain ⟨cd, cn1⟩ := ck
    obtain ⟨e1, n1, n2⟩ := nxt_el cn1
    obtain ⟨x, r, rfl, hk⟩ := g1_el h
    exact so_i2c C (dk_el cd) (hk.b n1 n2)
  case ifCond k f =>
    simp only [ckE, Bool.and_eq_true, decide_eq_true_eq] at ck
    obtain ⟨⟨cd, cn1⟩, cj⟩ := ck
    obtain ⟨e1, n1, n2⟩ := nxt_el cn1
    obtain ⟨e2, j1, j2⟩ := jmp_el cj
    obtain ⟨x, r, rfl, h1, h2⟩ := g1_el h
    cases k
    case eq => exact so_if_eq C j2 (dk_el cd) (fun q => (h1 q).b j1 rfl) (fun q => (h2 q).b n1 n2)
    case ne => exact so_if_ne C j2 (dk_el cd) (fun q => (h1 q).b j1 rfl) (fun q => (h2 q).b n1 n2)
    case lt => exact so_if_lt C j2 (dk_el cd) (fun q => (h1 q).b j1 rfl) (fun q => (h2 q).b n1 n2)
    case ge => exact so_if_ge C j2 (dk_el cd) (fun q => (h1 q).b j1 rfl) (fun q => (h2 q).b n1 n2)
    case gt => exact so_if_gt C j2 (dk_el cd) (fun q => (h1 q).b j1 rfl) (fun q => (h2 q).b n1 n2)
    case le => exact so_if_le C j2 (dk_el cd) (fun q => (h1 q).b j1 rfl) (fun q => (h2 q).b n1 n2)
  case if_icmp k f =>
    simp only [ckE, Bool.and_eq_true, decide_eq_true_eq] at ck
    obtain ⟨⟨cd, cn1⟩, cj⟩ := ck
    obtain ⟨e1, n1, n2⟩ := nxt_el cn1
    obtain ⟨e2, j1, j2⟩ := jmp_el cj
    obtain ⟨y, r, rfl, h5⟩ := g1_el h
    obtain ⟨x, r, rfl, h1, h2⟩ := g1_el h5
    cases k
    case eq => exact so_icmp_eq C j2 (dk_el cd) (fun q => (h1 q).b j1 rfl) (fun q => (h2 q).b n1 n2)
    case ne => exact so_icmp_ne C j2 (dk_el cd) (fun q => (h1 q).b j1 rfl) (fun q => (h2 q).b n1 n2)
    case lt => exact so_icmp_lt C j2 (dk_el cd) (fun q => (h1 q).b j1 rfl) (fun q => (h2 q).b n1 n2)
    case ge => exact so_icmp_ge C j2 (dk_el cd) (fun q => (h1 q).b j1 rfl) (fun q => (h2 q).b n1 n2)
    case gt => exact so_icmp_gt C j2 (dk_el cd) (fun q => (h1 q).b j1 rfl) (fun q => (h2 q).b n1 n2)
    case le => exact so_icmp_le C j2 (dk_el cd) (fun q => (h1 q).b j1 rfl) (fun q => (h2 q).b n1 n2)
  case goto f =>
    simp only [ckE, Bool.and_eq_true, decide_eq_true_eq] at ck
    obtain ⟨cd, cj⟩ := ck
    obtain ⟨e2, j1, j2⟩ := jmp_el cj
    exact so_goto C j2 (dk_el cd) (h.b j1 rfl)
  case tableswitch d lo hi fs =>
    simp only [ckE, Bool.and_eq_true, decide_eq_true_eq] at ck
    obtain ⟨⟨⟨⟨cd, cj⟩, cz⟩, cl⟩, cs⟩ := ck
    obtain ⟨x, r, rfl, h1, h2⟩ := g1_el h
    clear h
    subst cz
    obtain ⟨len, cd⟩ : ∃ len, decode (byOf id) bp = .ok (Instr.tableswitch d z hi fs, len) := by
      split at cd
      · rename_i i2 len hde
        exact ⟨len, by rw [hde, of_decide_eq_true cd]⟩
      · cases cd
    by_cases hx : x < z ∨ hi < x
    · obtain ⟨e2, j1, j2⟩ := jmp_el cj
      exact so_tswOut C j2 hx cd ((h1 (by omega)).b j1 rfl)
    · obtain ⟨t, ht⟩ : ∃ t, tg[(x - z).toNat]? = some t := ⟨tg[(x - z).toNat]'(by omega), List.getElem?_eq_getElem (by omega)⟩
      obtain ⟨f, f1, f2⟩ := jmps_el tg _ _ t cs ht
      obtain ⟨e2, j1, j2⟩ := jmp_el f2
      exact so_tswIn C j2 hx (by rw [← Array.getElem?_toList]; exact f1) cd ((swc_el tg z _ t h2 ht (by omega)).b j1 rfl)
  case dup =>
    simp only [ckE, Bool.and_eq_true, decide_eq_true_eq] at ck
    obtain ⟨cd, cn1⟩ := ck
    obtain ⟨e1, n1, n2⟩ := nxt_el cn1
    split at h
    · split at h
      · exact h.elim
      · rename_i hv
        exact so_dup C (fun g => by rw [g] at hv; cases hv) (dk_el cd) (h.b n1 n2)
    · exact h.elim
  case pop =>
    simp only [ckE, Bool.and_eq_true, decide_eq_true_eq] at ck
    obtain ⟨cd, cn1⟩ := ck
    obtain ⟨e1, n1, n2⟩ := nxt_el cn1
    split at h
    · split at h
      · exact h.elim
      · rename_i hv
        exact so_pop C (fun g => by rw [g] at hv; cases hv) (dk_el cd) (h.b n1 n2)
    · exact h.elim
  case dup2 =>
    simp only [ckE, Bool.and_eq_true, decide_eq_true_eq] at ck
    obtain ⟨cd, cn1⟩ := ck
    obtain ⟨e1, n1, n2⟩ := nxt_el cn1
    split at h
    · split at h
      · rename_i hv
        exact so_dup2a C (Nat.eq_of_beq_eq_true hv) (dk_el cd) (h.b n1 n2)
      · rename_i hv
        split at h
        · split at h
          · exact h.elim
          · rename_i hu
            exact so_dup2b C (fun g => by rw [g] at hv; cases hv) (fun g => by rw [g] at hu; cases hu) (dk_el cd) (h.b n1 n2)
        · exact h.elim
    · exact h.elim
  case iaload =>
    simp only [ckE, Bool.and_eq_true, decide_eq_true_eq] at ck
    obtain ⟨cd, cn1⟩ := ck
    obtain ⟨e1, n1, n2⟩ := nxt_el cn1
    obtain ⟨j, r, rfl, h5⟩ := g1_el h
    obtain ⟨q, r, rfl, n, hq, hj, hk⟩ := g1_el h5
    by_cases h0 : 0 ≤ q
    · exact so_iald C hq h0 hj (dk_el cd) (hk.b n1 n2)
    · exact so_iald_ro C hq (by omega) hj (dk_el cd) (hk.b n1 n2)
  case baload =>
    simp only [ckE, Bool.and_eq_true, decide_eq_true_eq] at ck
    obtain ⟨cd, cn1⟩ := ck
    obtain ⟨e1, n1, n2⟩ := nxt_el cn1
    obtain ⟨j, r, rfl, h5⟩ := g1_el h
    obtain ⟨q, r, rfl, n, hq, hj, hk⟩ := g1_el h5
    by_cases h0 : 0 ≤ q
    · rcases hq with hq | hq
      · exact so_zald C hq h0 hj (dk_el cd) (hk.b n1 n2)
      · intro ad H locs lsA a1 a2 a3 a4 a5 a6 a7
        obtain ⟨N, rs, hw, -, -⟩ := arK_el hq h0
        have := (a3.2.2.2.1 _ _ hw).2.2.2
        dsimp only at this
        omega
    · rcases hq with hq | hq
      · have := (arK_ro hq (by omega)).1
        omega
      · exact so_bald_ro C hq (by omega) hj (dk_el cd) (hk.b n1 n2)
  case laload =>
    simp only [ckE, Bool.and_eq_true, decide_eq_true_eq] at ck
    obtain ⟨cd, cn1⟩ := ck
    obtain ⟨e1, n1, n2⟩ := nxt_el cn1
    obtain ⟨j, r, rfl, h5⟩ := g1_el h
    obtain ⟨q, r, rfl, n, hq, hj, hk⟩ := g1_el h5
    by_cases h0 : 0 ≤ q
    · exact so_lald C hq h0 hj (dk_el cd) (hk.b n1 n2)
    · have := (arK_ro hq (by omega)).1
      omega
  case aaload =>
    simp only [ckE, Bool.and_eq_true, decide_eq_true_eq] at ck
    obtain ⟨cd, cn1⟩ := ck
    obtain ⟨e1, n1, n2⟩ := nxt_el cn1
    obtain ⟨j, r, rfl, h5⟩ := g1_el h
    obtain ⟨q, r, rfl, t, n, v, hq, t4, t6, hj, hv, hk⟩ := g1_el h5
    by_cases h0 : 0 ≤ q
    · exact so_aald C hq t4 t6 h0 hj hv (dk_el cd) (hk.b n1 n2)
    · have := (arK_ro hq (by omega)).1
      omega
  case iastore =>
    simp only [ckE, Bool.and_eq_true, decide_eq_true_eq] at ck
    obtain ⟨cd, cn1⟩ := ck
    obtain ⟨e1, n1, n2⟩ := nxt_el cn1
    obtain ⟨x, r, rfl, h5⟩ := g1_el h
    obtain ⟨j, r, rfl, h6⟩ := g1_el h5
    obtain ⟨q, r, rfl, n, hq, h0, hj, hk⟩ := g1_el h6
    exact so_iast C hq h0 hj (dk_el cd) (hk.b n1 n2)
  case lastore =>
    simp only [ckE, Bool.and_eq_true, decide_eq_true_eq] at ck
    obtain ⟨cd, cn1⟩ := ck
    obtain ⟨e1, n1, n2⟩ := nxt_el cn1
    obtain ⟨x, r, rfl, h5⟩ := g1_el h
    obtain ⟨j, r, rfl, h6⟩ := g1_el h5
    obtain ⟨q, r, rfl, n, hq, h0, hj, hk⟩ := g1_el h6
    exact so_last C hq h0 hj (dk_el cd) (hk.b n1 n2)
  case bastore =>
    simp only [ckE, Bool.and_eq_true, decide_eq_true_eq] at ck
    obtain ⟨cd, cn1⟩ := ck
    obtain ⟨e1, n1, n2⟩ := nxt_el cn1
    obtain ⟨x, r, rfl, h5⟩ := g1_el h
    obtain ⟨j, r, rfl, h6⟩ := g1_el h5
    obtain ⟨q, r, rfl, n, hq, h0, hj, hb1, hk⟩ := g1_el h6
    exact so_zast C hq h0 hj hb1 (dk_el cd) (hk.b n1 n2)
  case aastore =>
    simp only [ckE, Bool.and_eq_true, decide_eq_true_eq] at ck
    obtain ⟨⟨cd, cn1⟩, ca⟩ := ck
    obtain ⟨e1, n1, n2⟩ := nxt_el cn1
    obtain ⟨x, r, rfl, h5⟩ := g1_el h
    obtain ⟨j, r, rfl, h6⟩ := g1_el h5
    obtain ⟨q, r, rfl, n, hq, h0, x0, hob, hj, hk⟩ := g1_el h6
    subst ca
    exact so_aast C hq h0 x0 hob hj (dk_el cd) (hk.b n1 n2)
  case arraylength =>
    simp only [ckE, Bool.and_eq_true, decide_eq_true_eq] at ck
    obtain ⟨cd, cn1⟩ := ck
    obtain ⟨e1, n1, n2⟩ := nxt_el cn1
    obtain ⟨q, r, rfl, t, n, hq, hn, hk⟩ := g1_el h
    exact so_alen_ro C hq hn.1 hn.2 (dk_el cd) (hk.b n1 n2)
  case getstatic i =>
    simp only [ckE, Bool.and_eq_true, decide_eq_true_eq] at ck
    obtain ⟨⟨cd, cn1⟩, ck⟩ := ck
    obtain ⟨e1, n1, n2⟩ := nxt_el cn1
    split at ck
    · simp only [Bool.and_eq_true, decide_eq_true_eq] at ck
      obtain ⟨⟨⟨c1, c2⟩, c3⟩, c4⟩ := ck
      subst c3; subst c4
      exact so_gsC C c1 c2 (dk_el cd) (h.b n1 n2)
    · simp only [Bool.and_eq_true, decide_eq_true_eq] at ck
      obtain ⟨⟨⟨c1, c2⟩, c3⟩, c4⟩ := ck
      subst c3; subst c4
      exact so_gsF C c1 c2 (dk_el cd) (h.b n1 n2)
    · simp only [Bool.and_eq_true, decide_eq_true_eq] at ck
      obtain ⟨⟨⟨c1, c3⟩, c4⟩, c5⟩ := ck
      subst c3
      exact so_gsA C c1 c4 c5 (dk_el cd) (h.b n1 n2)
    · cases ck
  case getfield i =>
    simp only [ckE, Bool.and_eq_true, decide_eq_true_eq] at ck
    obtain ⟨⟨cd, cn1⟩, ck⟩ := ck
    obtain ⟨e1, n1, n2⟩ := nxt_el cn1
    obtain ⟨q, r, rfl, hob, h5⟩ := g1_el h
    clear h
    have h := h5
    clear h5
    split at ck
    · simp only [Bool.and_eq_true, decide_eq_true_eq] at ck
      obtain ⟨c1, ck⟩ := ck
      have hWI13 : ∀ {ls : Lc_} {st : List Vl_}, (-19 ≤ q ∧ q ≤ -10 → Wb l D kA ro RM id A p e s m args below meth c n0 ad0 Z bp ls st w M cn) → Wb l D kA ro RM id A p e s m args below meth c n0 ad0 Z bp ls st w M cn := fun g ad H locs lsA a1 a2 a3 a4 a5 a6 a7 => g (obK_13 (fun i x hx h0 => ((a3.2.2.2.1 i x hx).2.1 h0).1) hob) ad H locs lsA a1 a2 a3 a4 a5 a6 a7
      refine hWI13 fun hq => ?_
      split at ck
      · simp only [Bool.and_eq_true, decide_eq_true_eq] at ck
        obtain ⟨c2, c3⟩ := ck
        subst c3
        obtain ⟨v, hv, hk⟩ := h
        unfold rfK at hv
        rw [if_pos (by omega), if_pos ⟨hq.1, hq.2, rfl⟩] at hv
        cases hv
        exact so_strV C c1 c2 hq.1 hq.2 (dk_el cd) (hk.b n1 n2)
      · simp only [Bool.and_eq_true, decide_eq_true_eq] at ck
        obtain ⟨⟨c2, c3⟩, c4⟩ := ck
        subst c4; subst c3
        exact so_strC C c1 c2 hq.1 hq.2 (dk_el cd) (h.b n1 n2)
    · rename_i h13
      simp only [Bool.and_eq_true, decide_eq_true_eq] at ck
      obtain ⟨c1, c2⟩ := ck
      subst c2
      have h13 : a ≠ 13 := fun g => h13 g
      split at h
      · rename_i e3
        simp only [List.cons.injEq, and_true] at e3
        obtain ⟨v, hv, hk⟩ := h
        refine so_get C h13 hob c1 (v := (2, v)) (fun ad rs hw hwi => ?_) (dk_el cd) (hk.b n1 n2)
        obtain ⟨h0, -⟩ := obK_el hob h13
        have hrs : rs[b]? = some v := by unfold rfK at hv; rw [if_neg (by omega), hw] at hv; exact hv
        refine ⟨?_, (hwi.1 _ _ hw).1 v (List.mem_of_getElem? hrs)⟩
        unfold cF
        rw [e3, List.getD_eq_getElem?_getD, hrs]
        rfl
      · rename_i e3
        simp only [List.cons.injEq, and_true] at e3
        refine so_get C h13 hob c1 (v := (1, M q b)) (fun ad rs hw hwi => ⟨?_, hwi.2.1 q b⟩) (dk_el cd) (h.b n1 n2)
        unfold cF
        rw [e3]
        rfl
      · rename_i e2 e3
        have g2 : fTag a b ≠ 2 := fun g => e2 (by rw [g])
        have g1 : fTag a b ≠ 1 := fun g => e3 (by rw [g])
        refine so_get C h13 hob c1 (v := (0, M q b)) (fun ad rs hw hwi => ⟨?_, hwi.2.2.1 q b ?_⟩) (dk_el cd) (h.b n1 n2)
        · unfold cF
          split
          · rename_i g; exact absurd g g1
          · rename_i g; exact absurd g g2
          · rfl
        · rw [lg_obj (obK_el hob h13).1 hw]
          exact beq_eq_false_iff_ne.mpr g1
  case putfield i =>
    simp only [ckE, Bool.and_eq_true, decide_eq_true_eq] at ck
    obtain ⟨⟨⟨⟨cd, cn1⟩, c1⟩, c2⟩, c3⟩ := ck
    obtain ⟨e1, n1, n2⟩ := nxt_el cn1
    subst c2
    have hal : a ≠ 13 := by
      intro g
      simp only [fdOK, Bool.and_eq_true, decide_eq_true_eq] at c1
      rw [g] at c1
      exact absurd c1.2 (by decide)
    split at h
    · rename_i e3
      simp only [List.cons.injEq, and_true] at e3
      obtain ⟨x, r, rfl, h5⟩ := g1_el h
      obtain ⟨q, r, rfl, hob, h0, hk⟩ := g1_el h5
      exact so_putR C hal hob c1 c3 e3 (dk_el cd) (hk.b n1 n2)
    · rename_i e3
      simp only [List.cons.injEq, and_true] at e3
      obtain ⟨x, r, rfl, h5⟩ := g1_el h
      obtain ⟨q, r, rfl, hob, h0, hk⟩ := g1_el h5
      exact so_putL C hal hob c1 c3 e3 (dk_el cd) (hk.b n1 n2)
    · rename_i e3
      simp only [List.cons.injEq, and_true] at e3
      obtain ⟨x, r, rfl, h5⟩ := g1_el h
      obtain ⟨q, r, rfl, hob, h0, hx, hk⟩ := g1_el h5
      exact so_putI C hal hob c1 c3 (Or.inr ⟨e3, hx⟩) (dk_el cd) (hk.b n1 n2)
    · rename_i e2 e3 e4
      have g2 : fTag a b ≠ 2 := fun g => e2 (by rw [g])
      have g1 : fTag a b ≠ 1 := fun g => e3 (by rw [g])
      have g3 : fTag a b ≠ 3 := fun g => e4 (by rw [g])
      obtain ⟨x, r, rfl, h5⟩ := g1_el h
      obtain ⟨q, r, rfl, hob, h0, hk⟩ := g1_el h5
      have g0 : fTag a b = 0 := by
        have c1b := c1
        simp only [fdOK, Bool.and_eq_true, decide_eq_true_eq] at c1b
        have hc := ftyC_at c1b.2 c1b.1.2
        unfold ftyC at hc
        split at hc
        · assumption
        · exact absurd (by assumption) g1
        · exact absurd (by assumption) g3
        · exact absurd (by assumption) g2
        · cases hc
      exact so_putI C hal hob c1 c3 (Or.inl g0) (dk_el cd) (hk.b n1 n2)
  case new i =>
    simp only [ckE, Bool.and_eq_true, decide_eq_true_eq] at ck
    obtain ⟨⟨⟨⟨⟨cd, cn1⟩, cl⟩, cb⟩, ca⟩, ct⟩ := ck
    obtain ⟨e1, n1, n2⟩ := nxt_el cn1
    subst ct
    subst cb
    obtain ⟨hbd, hk⟩ := bud_iff.mp h
    exact so_new C cl ca hbd (dk_el cd) (hk.b n1 n2)
  case newarray t =>
    simp only [ckE, Bool.and_eq_true, decide_eq_true_eq] at ck
    obtain ⟨⟨⟨cd, cn1⟩, ct⟩, ck⟩ := ck
    obtain ⟨e1, n1, n2⟩ := nxt_el cn1
    subst ct
    obtain ⟨n, r, rfl, hn, h5⟩ := g1_el h
    obtain ⟨hbd, hk⟩ := bud_iff.mp h5
    split at ck
    · have ca := of_decide_eq_true ck
      subst ca
      exact so_newa_i C hn hbd (dk_el cd) (hk.b n1 n2)
    · have ca := of_decide_eq_true ck
      subst ca
      exact so_newa_l C hn hbd (dk_el cd) (hk.b n1 n2)
    · have ca := of_decide_eq_true ck
      subst ca
      exact so_newa_z C hn hbd (dk_el cd) (hk.b n1 n2)
    · cases ck
  case anewarray i =>
    simp only [ckE, Bool.and_eq_true, decide_eq_true_eq] at ck
    obtain ⟨⟨⟨cd, cn1⟩, cl⟩, ct⟩ := ck
    obtain ⟨e1, n1, n2⟩ := nxt_el cn1
    subst ct
    obtain ⟨n, r, rfl, hn, h5⟩ := g1_el h
    obtain ⟨hbd, hk⟩ := bud_iff.mp h5
    exact so_anewa C cl hn hbd (dk_el cd) (hk.b n1 n2)
  case multianewarray i dd =>
    simp only [ckE, Bool.and_eq_true, Bool.or_eq_true, decide_eq_true_eq] at ck
    obtain ⟨⟨⟨⟨⟨cd, cn1⟩, c2⟩, cl⟩, cab⟩, ct⟩ := ck
    obtain ⟨e1, n1, n2⟩ := nxt_el cn1
    subst ct
    obtain ⟨k, r, rfl, h5⟩ := g1_el h
    obtain ⟨n, r, rfl, hn, h6⟩ := g1_el h5
    obtain ⟨hbd, hk⟩ := bud_iff.mp h6
    rcases cab with ⟨ca, cb⟩ | ⟨ca, cb⟩
    · subst ca; subst cb
      exact so_mna_int C cl hn hbd (dk_el cd) (hk.b n1 n2)
    · subst ca; subst cb
      exact so_mna_long C cl hn hbd (dk_el cd) (hk.b n1 n2)
  case ireturn =>
    simp only [ckE, Bool.and_eq_true] at ck
    obtain ⟨cd, ck⟩ := ck
    split at h
    · rename_i v
      split at h
      · rename_i e3
        have e3 := Nat.eq_of_beq_eq_true e3
        obtain ⟨t, x⟩ := v
        dsimp only at e3 h
        subst e3
        refine (hret bp ls w M cn).1 x (dk_el cd) ?_ h.2
        have hh := h.1
        clear h
        match a, hh, ck with
        | 0, _, hc => exact ⟨_, of_decide_eq_true hc, rfl⟩
        | 1, h, hc => exact ⟨_, of_decide_eq_true hc, by rcases h with h | h <;> rw [h] <;> rfl⟩
        | 2, h, hc => exact ⟨_, of_decide_eq_true hc, nar2 h⟩
        | a + 3, h, hc => exact ⟨_, of_decide_eq_true hc, nar3 h⟩
      · exact h.elim
    · exact h.elim
  case lreturn =>
    simp only [ckE, Bool.and_eq_true, decide_eq_true_eq] at ck
    obtain ⟨cd, ck⟩ := ck
    split at h
    · rename_i v
      split at h
      · rename_i e3
        have e3 := Nat.eq_of_beq_eq_true e3
        obtain ⟨t, x⟩ := v
        dsimp only at e3 h
        subst e3
        exact (hret bp ls w M cn).2.1 x (dk_el cd) ck h
      · exact h.elim
    · exact h.elim
  case return_ =>
    simp only [ckE, Bool.and_eq_true, decide_eq_true_eq] at ck
    obtain ⟨cd, ck⟩ := ck
    split at h
    · exact (hret bp ls w M cn).2.2 (dk_el cd) ck h
    · exact h.elim
  case invokevirtual i =>
    split at h
    · rename_i n ci mc ms MC MS
      simp only [ckE, Bool.and_eq_true, Bool.or_eq_true, decide_eq_true_eq] at ck
      obtain ⟨⟨⟨⟨⟨⟨⟨cd, cn1⟩, ccl⟩, cn2⟩, cvt⟩, co⟩, c14⟩, cl⟩ := ck
      obtain ⟨e1, n1, n2⟩ := nxt_el cn1
      obtain ⟨k1, k2, k3, k4, k5, k6, k7⟩ := clOK_el ccl
      subst k1; subst k2; subst k4; subst k5
      subst cn2
      obtain ⟨hbd, h⟩ := bud_iff.mp h
      obtain ⟨⟨g1, g2, g3⟩, g4, -⟩ := callG_iff.mp h
      obtain ⟨q, as, hrv, hob, hk⟩ := g4 rfl
      have hal : as.length = npOf a := by
        have := congrArg List.length hrv
        rw [List.length_reverse, List.length_take, List.length_cons] at this
        omega
      rw [← hrv] at hk
      exact so_callv C ccl cvt co c14 cl hrv hal hob g2 g3 hbd (dk_el cd) (Pm_mono _ _ _ _ _ _ _ _ _ (fun v w' M' hv => hv.b n1 n2) hk)
    · exact h.elim
  case invokestatic i =>
    split at h
    · simp only [ckE, Bool.and_eq_true, decide_eq_true_eq] at ck
      obtain ⟨⟨⟨⟨cd, cn1⟩, cl⟩, c1⟩, c2⟩ := ck
      obtain ⟨e1, n1, n2⟩ := nxt_el cn1
      obtain ⟨y, r, rfl, h5⟩ := g1_el h
      obtain ⟨x, r, rfl, h6⟩ := g1_el h5
      clear h h5
      have h := h6
      clear h6
      split at h
      · rename_i g8
        exact so_mmax C cl (Nat.le_of_ble_eq_true g8) c2 c1 (dk_el cd) (h.b n1 n2)
      · exact h.elim
    · simp only [ckE, Bool.and_eq_true, decide_eq_true_eq] at ck
      obtain ⟨⟨⟨⟨cd, cn1⟩, cl⟩, c1⟩, c2⟩ := ck
      obtain ⟨e1, n1, n2⟩ := nxt_el cn1
      obtain ⟨y, r, rfl, h5⟩ := g1_el h
      obtain ⟨x, r, rfl, h6⟩ := g1_el h5
      clear h h5
      have h := h6
      clear h6
      split at h
      · rename_i g8
        exact so_mmin C cl (Nat.le_of_ble_eq_true g8) c2 c1 (dk_el cd) (h.b n1 n2)
      · exact h.elim
    · rename_i n mc ms MC MS
      simp only [ckE, Bool.and_eq_true, Bool.or_eq_true, decide_eq_true_eq] at ck
      obtain ⟨⟨⟨⟨⟨cd, cn1⟩, ccl⟩, cn2⟩, cst⟩, cl⟩ := ck
      obtain ⟨e1, n1, n2⟩ := nxt_el cn1
      obtain ⟨k1, k2, k3, k4, k5, k6, k7⟩ := clOK_el ccl
      subst k1; subst k2; subst k4; subst k5
      subst cn2
      obtain ⟨hbd, h⟩ := bud_iff.mp h
      obtain ⟨⟨g1, g2, g3⟩, -, g4⟩ := callG_iff.mp h
      have hk := g4 rfl
      exact so_calls C ccl cst cl g1 g2 g3 hbd (dk_el cd) (Pm_mono _ _ _ _ _ _ _ _ _ (fun v w' M' hv => hv.b n1 n2) hk)
    · exact h.elim
  case invokespecial i =>
    split at h
    · simp only [ckE, Bool.and_eq_true, decide_eq_true_eq] at ck
      obtain ⟨⟨⟨⟨cd, cn1⟩, cl⟩, c1⟩, c2⟩ := ck
      obtain ⟨e1, n1, n2⟩ := nxt_el cn1
      split at h
      · rename_i v
        split at h
        · rename_i e3
          have e3 := Nat.eq_of_beq_eq_true e3
          obtain ⟨t, x⟩ := v
          dsimp only at e3 h
          subst e3
          exact so_obj C cl h.1 c2 c1 (by unfold catS; simp) (dk_el cd) (h.2.b n1 n2)
        · exact h.elim
      · exact h.elim
    · rename_i n mc ms MC MS
      simp only [ckE, Bool.and_eq_true, Bool.or_eq_true, decide_eq_true_eq] at ck
      obtain ⟨⟨⟨⟨⟨⟨cd, cn1⟩, ccl⟩, cn2⟩, csp⟩, cl⟩, crt⟩ := ck
      obtain ⟨e1, n1, n2⟩ := nxt_el cn1
      obtain ⟨k1, k2, k3, k4, k5, k6, k7⟩ := clOK_el ccl
      subst k1; subst k2; subst k4; subst k5
      subst cn2
      obtain ⟨hbd, h⟩ := bud_iff.mp h
      obtain ⟨⟨g1, g2, g3⟩, g4, -⟩ := callG_iff.mp h
      obtain ⟨q, as, hrv, hq0, hk⟩ := g4 rfl
      have hal : as.length = npOf a := by
        have := congrArg List.length hrv
        rw [List.length_reverse, List.length_take, List.length_cons] at this
        omega
      rw [← hrv] at hk
      exact so_calli C ccl csp crt cl hrv hal hq0 g2 g3 hbd (dk_el cd) (Pm_mono _ _ _ _ _ _ _ _ _ (fun v w' M' hv => hv.b n1 n2) hk)
    · exact h.elim
end SNB
