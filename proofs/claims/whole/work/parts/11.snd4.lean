section SN4
variable {l : Launch} {D : va_G} {kA : Nat → ClassId} {ro : Int → Option Nat} {RM : Mm_} {id : Nat} {A : Nat → Prop} {p : Program} {e : Env} {s : State} {m : MethodId} {args : Array Value} {below : List Frame} {meth : Method} {c : Code} {n0 : Nat} {ad0 : Nat → Nat} {Z : State → Prop}
theorem cW_at {ad : Nat → Nat} {w : Wd_} {M : Mm_} {i : Nat} {x : Cl_} (h : w[i]? = some x) : (cW kA ro ad w M)[i]? = some (ad i, cC kA ro ad M i x) := by
  unfold cW
  rw [List.getElem?_mapIdx, h]
  rfl
theorem cC_cong {ad : Nat → Nat} {M M' : Mm_} {a : Int} {x : Cl_} (h : ∀ j, M a j = M' a j) : cC kA ro ad M a x = cC kA ro ad M' a x := by
  unfold cC cF
  simp only [h]
theorem obK_el {w : Wd_} {q : Int} {a : Nat} (h : obK w q = some a) (h13 : a ≠ 13) : 0 ≤ q ∧ ∃ rs, w[q.toNat]? = some (0, a, rs) := by
  unfold obK at h
  split at h
  · split at h
    · simp only [Option.some.injEq] at h
      exact absurd h.symm h13
    · cases h
  · rename_i h0
    refine ⟨by omega, ?_⟩
    split at h
    · rename_i c rs hw
      simp only [Option.some.injEq] at h
      rw [hw, h]
      exact ⟨rs, rfl⟩
    · cases h
theorem obK_13 {w : Wd_} {q : Int} (hw : ∀ (i : Nat) (c : Cl_), w[i]? = some c → c.1 = 0 → c.2.1 < cls_.length) (h : obK w q = some 13) : -19 ≤ q ∧ q ≤ -10 := by
  unfold obK at h
  split at h
  · split at h
    · assumption
    · cases h
  · split at h
    · rename_i c rs hq
      simp only [Option.some.injEq] at h
      have := hw _ _ hq rfl
      dsimp only at this
      rw [h] at this
      exact absurd this (by decide)
    · cases h
theorem arK_el {w : Wd_} {M : Mm_} {q n : Int} {t : Nat} (h : arK w M q = some (t, n)) (h0 : 0 ≤ q) : ∃ N rs, w[q.toNat]? = some (t, N, rs) ∧ n = (N : Int) ∧ t ≠ 0 := by
  unfold arK at h
  split at h
  · omega
  · split at h
    · cases h
    · rename_i t' N rs hne hq
      simp only [Option.some.injEq, Prod.mk.injEq] at h
      obtain ⟨rfl, rfl⟩ := h
      exact ⟨N, rs, hq, rfl, fun e => hne e⟩
    · cases h
theorem arK_ro {w : Wd_} {M : Mm_} {q n : Int} {t : Nat} (h : arK w M q = some (t, n)) (h0 : q < 0) : ((t = 1 ∧ -5 ≤ q ∧ q ≤ -2) ∨ (t = 8 ∧ -39 ≤ q ∧ q ≤ -30)) ∧ n = M q (-1) := by
  unfold arK roK at h
  rw [if_pos h0] at h
  split at h
  · simp only [Option.some.injEq, Prod.mk.injEq] at h
    exact ⟨Or.inl ⟨h.1.symm, by assumption⟩, h.2.symm⟩
  · split at h
    · simp only [Option.some.injEq, Prod.mk.injEq] at h
      exact ⟨Or.inr ⟨h.1.symm, by assumption⟩, h.2.symm⟩
    · cases h
theorem cV_ref {ad : Nat → Nat} {q : Int} (h : 0 ≤ q) : cV ro ad (2, q) = .ref (ad q.toNat) := by
  show va_rf (adr ro ad q) = _
  unfold adr
  rw [if_neg (by omega)]
  rfl
theorem cV_ro {ad : Nat → Nat} {q : Int} {t : Nat} (h : q < -1) (ht : ro q = some t) : cV ro ad (2, q) = .ref t := by
  show va_rf (adr ro ad q) = _
  unfold adr
  rw [if_pos (by omega), if_neg (by omega), ht]
  rfl
theorem lg_obj {w : Wd_} {q : Int} {a b : Nat} {rs : List Int} (h0 : 0 ≤ q) (h : w[q.toNat]? = some (0, a, rs)) : isLg w q b = (fTag a b == 1) := by
  unfold isLg
  rw [if_neg (by omega), h]
  simp
theorem lg_ar {w : Wd_} {q j : Int} {t N : Nat} {rs : List Int} (h0 : 0 ≤ q) (h : w[q.toNat]? = some (t, N, rs)) (h1 : t ≠ 0) (h2 : t ≠ 2) : isLg w q j = false := by
  unfold isLg
  rw [if_neg (by omega), h]
  split
  · rename_i e
    simp only [Option.some.injEq, Prod.mk.injEq] at e
    exact absurd e.1 h2
  · rename_i e
    simp only [Option.some.injEq, Prod.mk.injEq] at e
    exact absurd e.1 h1
  · rfl
theorem lg_ro {w : Wd_} {q j : Int} (h : q < 0) : isLg w q j = false := by
  unfold isLg
  rw [if_pos h]
theorem WI.upd {w : Wd_} {M : Mm_} {q i x : Int} (h : WI RM w M) (h0 : 0 ≤ q) (h1 : inL x) (h2 : isLg w q i = false → inI x) : WI RM w (updM M q i x) := by
  obtain ⟨a1, a2, a3, a4⟩ := h
  refine ⟨a1, fun a j => ?_, fun a j hl => ?_, fun a j hn => ?_⟩
  · unfold updM
    split
    · exact h1
    · exact a2 a j
  · unfold updM
    split
    · rename_i e
      rw [e.1, e.2] at hl
      exact h2 hl
    · exact a3 a j hl
  · unfold updM
    rw [if_neg (by omega)]
    exact a4 a j hn
/-- a field is read -/
theorem so_get (C : Cx D kA ro RM id A p s m args meth c) {bp : Nat} {ls : Lc_} {st : List Vl_} {w : Wd_} {M : Mm_} {cn : Cn_} {q : Int} {a b i : Nat} {v : Vl_} (h13 : a ≠ 13) (hob : obK w q = some a) (hf : fdOK (ownOf id) i a b = true) (hval : ∀ (ad : Nat → Nat) (rs : List Int), w[q.toNat]? = some (0, a, rs) → WI RM w M → cF ro ad M q a rs b = cV ro ad v ∧ okV w v) (hd : decode (byOf id) bp = .ok (.getfield i, 3)) (h : Wb l D kA ro RM id A p e s m args below meth c n0 ad0 Z (bp + 3) ls (v :: st) w M cn) : Wb l D kA ro RM id A p e s m args below meth c n0 ad0 Z bp ls ((2, q) :: st) w M cn := by
  obtain ⟨hx, hb, hr, hlk, hml, hown, hnm, hts, hen, hK, hA⟩ := C
  intro ad H locs lsA a1 a2 a3 a4 a5 a6 a7
  obtain ⟨h0, rs, hw⟩ := obK_el hob h13
  obtain ⟨hv, hok⟩ := hval ad rs hw a3.2.2.2
  have hk := h ad H locs lsA a1 a2 a3 a4 a5 (okS_cons hok (okS_tl a6)) a7
  simp only [fdOK, Bool.and_eq_true, Bool.or_eq_true, decide_eq_true_eq] at hf
  obtain ⟨⟨hl, hbn⟩, hal⟩ := hf
  obtain ⟨r, hr2⟩ : ∃ r, cls_[a]? = some r := ⟨cls_[a], List.getElem?_eq_getElem hal⟩
  obtain ⟨k1, k2, k3, k4, k5, k6, k7⟩ := ck_ok a r hr2
  have hfd : fdr a b = r.2.1 b := by
    unfold fdr
    rw [List.getD_eq_getElem?_getD, hr2]
    rfl
  have he := cW_at (kA := kA) (ro := ro) (ad := ad) (M := M) hw
  have eq0 : ((q.toNat : Nat) : Int) = q := Int.toNat_of_nonneg h0
  change _ = some (ad q.toNat, Sum.inr (a, (List.range (nF a)).map (cF ro ad M ((q.toNat : Nat) : Int) a rs))) at he
  rw [eq0] at he
  have hfv : ((List.range (nF a)).map (cF ro ad M q a rs))[b]? = some (cV ro ad v) := by
    rw [List.getElem?_map, List.getElem?_range hbn, ← hv]
    rfl
  rw [List.map_cons, cV_ref h0]
  rcases hl with hl | hl
  · have hlw := hts _ (flL_ok _ hl)
    dsimp only at hlw
    rw [hfd] at hlw
    exact va_get (C := r.1) (T := r.2.1) (N := r.2.2) hx hb hts k1 hown hK a3.1 q.toNat he hr2 b (by rw [k6]; exact hbn) hlw (fun _ h9 => h9) hfv hd hk
  · have hlw := va_Nw.use rfl (A := args) (hen.1 _ (fnL_ok _ hl))
    dsimp only at hlw
    rw [hfd] at hlw
    exact va_getN (C := r.1) (T := r.2.1) (N := r.2.2) hx hb hts k1 hown hK a3.1 q.toNat he hr2 b (by rw [k6]; exact hbn) hlw (fun _ h9 => h9) hfv hd hk
end SN4
