section SNC
variable {l : Launch} {D : va_G} {kA : Nat → ClassId} {ro : Int → Option Nat} {RM : Mm_}
theorem Pm_forg : Forg (Pm l D kA ro RM) := by
  intro id pc ls ls' st w M cn Q hl hs h A p e s m args below meth c n0 ad0 C ad H locs lsA e0 a1 a2 a3 a4 a5 a6 a7 he
  exact h A p e s m args below meth c n0 ad0 C ad H locs lsA e0 a1 a2 a3 (a4.forget hl hs) (fun i v hv => a5 i v (hs i v hv)) a6 a7 he
theorem Pm_step : Step (Pm l D kA ro RM) := by
  intro id pc ls st w M cn Q e0 he h A p e s m args below meth c n0 ad0 C
  refine Wat.of fun e1 he1 => ?_
  have e2 : e0 = e1 := Option.some.inj (he.symm.trans he1)
  subst e2
  exact step_sound C (ret_ok C) (ck_all id pc e0 he) (st1_mono (cPof_mono Pm_mono) (fun pc ls st w M cn hk => hk A p e s m args below meth c n0 ad0 C) e0 pc ls st w M cn h)
/-- THE PURE MACHINE'S JUDGEMENT HOLDS OF THE MACHINE -/
theorem Pm_clo : Clo (Pm l D kA ro RM) := ⟨Pm_mono, Pm_forg, Pm_step⟩
end SNC
