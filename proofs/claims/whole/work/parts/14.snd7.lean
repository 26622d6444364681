section SN7
variable {l : Launch} {D : va_G} {kA : Nat → ClassId} {ro : Int → Option Nat} {RM : Mm_} {id : Nat} {A : Nat → Prop} {p : Program} {e : Env} {s : State} {m : MethodId} {args : Array Value} {below : List Frame} {meth : Method} {c : Code} {n0 : Nat} {ad0 : Nat → Nat} {Z : State → Prop}
/-- addresses, with new ones behind -/
def adG (ad : Nat → Nat) (n : Nat) (qs : Nat → Nat) : Nat → Nat := fun i => if i < n then ad i else qs (i - n)
theorem adr_grow {ad qs : Nat → Nat} {n : Nat} {r : Int} (h : r < n) : adr ro (adG ad n qs) r = adr ro ad r := by
  unfold adr adG
  split
  · rfl
  · rw [if_pos (by omega)]
theorem cV_grow {ad qs : Nat → Nat} {w : Wd_} {v : Vl_} (h : okV w v) : cV ro (adG ad w.length qs) v = cV ro ad v := by
  obtain ⟨t, x⟩ := v
  match t with
  | 0 => rfl
  | 1 => rfl
  | t + 2 =>
    show va_rf (adr ro _ x) = va_rf (adr ro ad x)
    rw [adr_grow h]
theorem cR_grow {ad qs : Nat → Nat} {n : Nat} {rs : List Int} (h : ∀ r ∈ rs, r < n) : cR ro (adG ad n qs) rs = cR ro ad rs := by
  funext j
  unfold cR
  cases hr : rs[j]? with
  | none => rfl
  | some r => exact adr_grow (h r (List.mem_of_getElem? hr))
theorem cC_grow {ad qs : Nat → Nat} {n : Nat} {M M' : Mm_} {a : Int} {x : Cl_} (h : ∀ r ∈ x.2.2, r < n) (hM : ∀ j, M' a j = M a j) : cC kA ro (adG ad n qs) M' a x = cC kA ro ad M a x := by
  obtain ⟨t, N, rs⟩ := x
  have h1 := cR_grow (ro := ro) (ad := ad) (qs := qs) h
  dsimp only at h1 h
  have h2 : cF ro (adG ad n qs) M' a N rs = cF ro ad M a N rs := by
    funext k
    unfold cF
    rw [hM]
    have e : adr ro (adG ad n qs) (rs.getD k (-1)) = adr ro ad (rs.getD k (-1)) := by
      apply adr_grow
      rw [List.getD_eq_getElem?_getD]
      cases hr : rs[k]? with
      | none => show (-1 : Int) < n; omega
      | some r => exact h r (List.mem_of_getElem? hr)
    rw [e]
  have h3 : (fun j : Nat => Int32.ofInt (M' a j)) = fun j : Nat => Int32.ofInt (M a j) := funext fun j => by rw [hM]
  have h4 : (fun j : Nat => Int64.ofInt (M' a j)) = fun j : Nat => Int64.ofInt (M a j) := funext fun j => by rw [hM]
  match t with
  | 0 => exact congrArg (fun f => (Sum.inr (N, (List.range (nF N)).map f) : va_E)) h2
  | 1 => exact congrArg (fun f => (Sum.inl (kA 1, N, Sum.inl f) : va_E)) h3
  | 2 => exact congrArg (fun f => (Sum.inl (kA 2, N, Sum.inr (Sum.inl f)) : va_E)) h4
  | 3 => exact congrArg (fun f => (Sum.inl (kA 3, N, Sum.inl f) : va_E)) h3
  | 4 => exact congrArg (fun f => (Sum.inl (kA 4, N, Sum.inr (Sum.inr (Sum.inr (Sum.inr f)))) : va_E)) h1
  | 5 => exact congrArg (fun f => (Sum.inl (kA 5, N, Sum.inr (Sum.inr (Sum.inr (Sum.inr f)))) : va_E)) h1
  | t + 6 => exact congrArg (fun f => (Sum.inl (kA 6, N, Sum.inr (Sum.inr (Sum.inr (Sum.inr f)))) : va_E)) h1
theorem cW_grow {ad qs : Nat → Nat} {w cs : Wd_} {M M' : Mm_} (h : WI RM w M) (hM : ∀ (a : Int) j, a < w.length → M' a j = M a j) : cW kA ro (adG ad w.length qs) (w ++ cs) M' = cW kA ro ad w M ++ cs.mapIdx (fun k x => (qs k, cC kA ro (adG ad w.length qs) M' ((w.length + k : Nat) : Int) x)) := by
  apply List.ext_getElem?
  intro i
  rw [cW_get, List.getElem?_append, List.getElem?_append, cW_len]
  split
  · rename_i hi
    rw [cW_get, List.getElem?_eq_getElem hi]
    simp only [Option.map_some, Option.some.injEq, Prod.mk.injEq]
    exact ⟨if_pos hi, cC_grow (h.1 i _ (List.getElem?_eq_getElem hi)).1 (fun j => hM _ j (by omega))⟩
  · rename_i hi
    rw [List.getElem?_mapIdx]
    cases cs[i - w.length]? with
    | none => rfl
    | some x =>
      simp only [Option.map_some, Option.some.injEq, Prod.mk.injEq]
      exact ⟨if_neg hi, by rw [show w.length + (i - w.length) = i by omega]⟩
theorem okV_grow {w cs : Wd_} {v : Vl_} (h : okV w v) : okV (w ++ cs) v := by
  obtain ⟨t, x⟩ := v
  match t with
  | 0 => exact h
  | 1 => exact h
  | t + 2 =>
    show x < ((w ++ cs).length : Int)
    have h : x < (w.length : Int) := h
    rw [List.length_append]
    omega
theorem map_grow {ad qs : Nat → Nat} {w : Wd_} {st : List Vl_} (h : okS w st) : st.map (cV ro (adG ad w.length qs)) = st.map (cV ro ad) := List.map_congr_left fun v hv => cV_grow (h v hv)
theorem LH_grow {ad qs : Nat → Nat} {w : Wd_} {lsA : Array Slot} {n : Nat} {ls : Lc_} (h : LH ro ad lsA n ls) (hk : okL w ls) : LH ro (adG ad w.length qs) lsA n ls :=
  ⟨h.1, h.2.1, h.2.2.1, fun i v hv => by rw [cV_grow (hk i v hv)]; exact h.2.2.2 i v hv⟩
theorem lg_grow {w cs : Wd_} {a j : Int} (h : a < w.length) : isLg (w ++ cs) a j = isLg w a j := by
  unfold isLg
  split
  · rfl
  · rw [List.getElem?_append_left (by omega)]
theorem WI_grow {w cs : Wd_} {M M' : Mm_} (h : WI RM w M) (hM : ∀ (a : Int) j, a < w.length → M' a j = M a j) (hZ : ∀ (a : Int) j, (w.length : Int) ≤ a → M' a j = 0 ∨ M' a j = M a j) (hc : ∀ x ∈ cs, (∀ r ∈ x.2.2, r < ((w ++ cs).length : Int)) ∧ (x.1 = 0 → x.2.1 < cls_.length ∧ x.2.2.length = nF x.2.1) ∧ (4 ≤ x.1 → x.2.2.length = x.2.1) ∧ x.1 ≤ 6) : WI RM (w ++ cs) M' := by
  obtain ⟨a1, a2, a3, a4⟩ := h
  refine ⟨fun i x hx => ?_, fun a j => ?_, fun a j hl => ?_, fun a j hn => ?_⟩
  · rw [List.getElem?_append] at hx
    split at hx
    · obtain ⟨b1, b2⟩ := a1 i x hx
      exact ⟨fun r hr => by have := b1 r hr; rw [List.length_append]; omega, b2⟩
    · exact hc x (List.mem_of_getElem? hx)
  · by_cases ha : a < w.length
    · rw [hM a j ha]; exact a2 a j
    · rcases hZ a j (by omega) with g | g
      · rw [g]; unfold inL; omega
      · rw [g]; exact a2 a j
  · by_cases ha : a < w.length
    · rw [hM a j ha]; rw [lg_grow ha] at hl; exact a3 a j hl
    · rcases hZ a j (by omega) with g | g
      · rw [g]; exact in0
      · rw [g]
        refine a3 a j ?_
        unfold isLg
        rw [if_neg (by omega), List.getElem?_eq_none (by omega)]
  · rw [hM a j (by omega)]
    exact a4 a j hn
/-- the judgement with new cells behind -/
theorem Wb_grow {bp : Nat} {ls : Lc_} {st : List Vl_} {w cs : Wd_} {M M' : Mm_} {cn' : Cn_} {v : Vl_} (h : Wb l D kA ro RM id A p e s m args below meth c n0 ad0 Z bp ls (v :: st) (w ++ cs) M' cn') {ad qs : Nat → Nat} {H H1 : Heap} {locs : List Loc} {lsA : Array Slot} (a1 : n0 ≤ w.length) (a2 : ∀ i, i < n0 → ad i = ad0 i) (a3 : Rl D kA ro RM A ad s.heap w M H locs) (a4 : LH ro ad lsA (mxL id) ls) (a5 : okL w ls) (a6 : okS w st) (a7 : cn'.1 ≤ mcOf id ∧ cn'.2 ≤ msOf id)
    (hM : ∀ (a : Int) j, a < w.length → M' a j = M a j) (hZ : ∀ (a : Int) j, (w.length : Int) ≤ a → M' a j = 0 ∨ M' a j = M a j) (hc : ∀ x ∈ cs, (∀ r ∈ x.2.2, r < ((w ++ cs).length : Int)) ∧ (x.1 = 0 → x.2.1 < cls_.length ∧ x.2.2.length = nF x.2.1) ∧ (4 ≤ x.1 → x.2.2.length = x.2.1) ∧ x.1 ≤ 6) (hv : okV (w ++ cs) v)
    (hP : va_P D cls_ (cW kA ro ad w M ++ cs.mapIdx (fun k x => (qs k, cC kA ro (adG ad w.length qs) M' ((w.length + k : Nat) : Int) x))) H1) (hD : va_D A (cW kA ro ad w M ++ cs.mapIdx (fun k x => (qs k, cC kA ro (adG ad w.length qs) M' ((w.length + k : Nat) : Int) x)))) (hS : va_S A s.heap H1 locs) :
    W p l e (rmOf id) s m args below meth c H1 locs cn'.1 cn'.2 Z (F0 m bp lsA (cV ro (adG ad w.length qs) v :: st.map (cV ro ad))) := by
  have hg := cW_grow (kA := kA) (ro := ro) (ad := ad) (qs := qs) (cs := cs) a3.2.2.2 hM
  rw [← map_grow (ro := ro) (ad := ad) (qs := qs) a6]
  exact h (adG ad w.length qs) H1 locs lsA (by rw [List.length_append]; omega) (fun i hi => (if_pos (by omega)).trans (a2 i hi)) ⟨by rw [hg]; exact hP, by rw [hg]; exact hD, hS, WI_grow a3.2.2.2 hM hZ hc⟩ (LH_grow a4 a5) (fun i y hy => okV_grow (a5 i y hy)) (okS_cons hv (fun y hy => okV_grow (a6 y hy))) a7
theorem kA_of {U : State} {t : Nat} {cA : ClassId} (hK : va_K D cls_ (TY kA) U) (ht : 1 ≤ t ∧ t ≤ 6) (hf : U.vm.findClass ("[" ++ (tyOf t).toString) = some cA) : cA = kA t := by
  have key : ∀ (k : Nat) (ty : FieldType), (TY kA)[k]? = some (kA (k + 1), ty) → U.vm.findClass ("[" ++ ty.toString) = some cA → cA = kA (k + 1) := by
    intro k ty hk hf
    have h2 := (hK.2 k _ hk).2
    cases ty with
    | object C =>
      obtain ⟨k1, k2, h3, h4, h5, h6⟩ := h2
      exact Option.some.inj (hf.symm.trans h6)
    | _ =>
      have h2 : U.vm.findClass _ = some (kA (k + 1)) := h2
      exact Option.some.inj (hf.symm.trans h2)
  match t, ht with
  | 1, _ => exact key 0 _ rfl hf
  | 2, _ => exact key 1 _ rfl hf
  | 3, _ => exact key 2 _ rfl hf
  | 4, _ => exact key 3 _ rfl hf
  | 5, _ => exact key 4 _ rfl hf
  | 6, _ => exact key 5 _ rfl hf
theorem zeroM_or (M : Mm_) (n x j : Int) : zeroM M n x j = 0 ∨ zeroM M n x j = M x j := by
  unfold zeroM
  split
  · exact Or.inl rfl
  · exact Or.inr rfl
theorem so_new (C : Cx D kA ro RM id A p s m args meth c) {bp : Nat} {ls : Lc_} {st : List Vl_} {w : Wd_} {M : Mm_} {cn : Cn_} {i a : Nat} (hl : (ownOf id, i, a) ∈ clL) (hal : a < cls_.length) (hbud : cn.1 + 1 ≤ mcOf id ∧ cn.2 + nF a ≤ msOf id) (hd : decode (byOf id) bp = .ok (.new i, 3)) (h : Wb l D kA ro RM id A p e s m args below meth c n0 ad0 Z (bp + 3) ls ((2, (w.length : Int)) :: st) (w ++ [(0, a, List.replicate (nF a) (-1))]) (zeroM M w.length) (cn.1 + 1, cn.2 + nF a)) : Wb l D kA ro RM id A p e s m args below meth c n0 ad0 Z bp ls st w M cn := by
  obtain ⟨hx, hb, hr, hlk, hml, hown, hnm, hts, hen, hK, hA⟩ := C
  intro ad H locs lsA a1 a2 a3 a4 a5 a6 a7
  obtain ⟨r, hr2⟩ : ∃ r, cls_[a]? = some r := ⟨cls_[a], List.getElem?_eq_getElem hal⟩
  obtain ⟨k1, k2, k3, k4, k5, k6, k7⟩ := ck_ok a r hr2
  have hcl := hts _ (clL_ok _ hl)
  dsimp only at hcl
  rw [k7] at hcl
  have hM : ∀ (x : Int) j, x < w.length → zeroM M w.length x j = M x j := fun x j hx => if_neg (by omega)
  have hZ : ∀ (x : Int) j, (w.length : Int) ≤ x → zeroM M w.length x j = 0 ∨ zeroM M w.length x j = M x j := fun x j _ => zeroM_or ..
  generalize hfd : (List.range (nF a)).map (cF ro ad (zeroM M w.length) (w.length : Int) a (List.replicate (nF a) (-1))) = fs
  have hfs : ∀ j, j < r.2.2 → defaultValue (ftyOf a j) = vp_V fs j := by
    intro j hj
    rw [k6] at hj
    rw [← hfd]
    unfold vp_V
    rw [List.getD_eq_getElem?_getD, List.getElem?_map, List.getElem?_range hj]
    simp only [Option.map_some, Option.getD_some]
    have hc := ftyC_at hal hj
    unfold ftyC at hc
    unfold cF
    have hz : zeroM M w.length (w.length : Int) j = 0 := if_pos rfl
    rw [hz]
    split at hc
    · rename_i g; rw [g, of_decide_eq_true hc]; rfl
    · rename_i g; rw [g, of_decide_eq_true hc]; rfl
    · rename_i g; rw [g, of_decide_eq_true hc]; rfl
    · rename_i g
      rw [g, List.getD_eq_getElem?_getD, List.getElem?_replicate, if_pos hj]
      cases hty : ftyOf a j with
      | object _ => rfl
      | array _ => rfl
      | _ => rw [hty] at hc; cases hc
    · cases hc
  have hnew : ∀ q : Nat, ([(0, a, List.replicate (nF a) (-1))] : Wd_).mapIdx (fun k x => (q, cC kA ro (adG ad w.length (fun _ => q)) (zeroM M w.length) ((w.length + k : Nat) : Int) x)) = [(q, .inr (a, fs))] := by
    intro q
    rw [List.mapIdx_cons, List.mapIdx_nil, ← hfd]
    have e1 : cC kA ro (adG ad w.length (fun _ => q)) (zeroM M w.length) ((w.length + 0 : Nat) : Int) (0, a, List.replicate (nF a) (-1)) = cC kA ro ad (zeroM M w.length) ((w.length + 0 : Nat) : Int) (0, a, List.replicate (nF a) (-1)) := cC_grow (fun r hr => by have := List.eq_of_mem_replicate hr; omega) (fun _ => rfl)
    rw [e1]
    rfl
  refine va_new (C := r.1) (T := r.2.1) (N := r.2.2) (fs := fs) hx hb hts k1 (ftyOf a) k3 hown hcl (hts _ k4) (hts _ k5) hK a3.1 a3.2.1 a3.2.2.1 hA hr2 hfs hbud.1 (by rw [k6]; exact hbud.2) hd (fun q H1 p1 p2 p3 => ?_)
  have hcs : ∀ x ∈ ([(0, a, List.replicate (nF a) (-1))] : Wd_), (∀ r ∈ x.2.2, r < ((w ++ [(0, a, List.replicate (nF a) (-1))]).length : Int)) ∧ (x.1 = 0 → x.2.1 < cls_.length ∧ x.2.2.length = nF x.2.1) ∧ (4 ≤ x.1 → x.2.2.length = x.2.1) ∧ x.1 ≤ 6 := by
    intro x hx
    rw [List.mem_singleton] at hx
    subst hx
    exact ⟨fun r hr => by have := List.eq_of_mem_replicate hr; omega, fun _ => ⟨hal, List.length_replicate⟩, fun g => by dsimp only at g; omega, by dsimp only; omega⟩
  have := Wb_grow (qs := fun _ => q) h a1 a2 a3 a4 a5 a6 ⟨hbud.1, hbud.2⟩ hM hZ hcs (show (w.length : Int) < _ by rw [List.length_append]; simp; omega) (by rw [hnew]; exact p1) (by rw [hnew]; exact p2) p3
  rw [cV_ref (by omega)] at this
  rw [k6]
  have e2 : adG ad w.length (fun _ => q) ((w.length : Int).toNat) = q := if_neg (by omega)
  rw [e2] at this
  exact this
end SN7
