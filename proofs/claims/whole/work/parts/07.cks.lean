theorem ck0_0 : ckM 0 0 60 = true := by decide +kernel
theorem cke0 (pc : Nat) (e : In_) (h : (codeOf 0)[pc]? = some e) : ckE 0 (ownOf 0) (codeOf 0) (byOf 0) pc e = true := by
  have hl : pc < 7 := (List.getElem?_eq_some_iff.mp h).1
  exact ckM_use ck0_0 (by omega) (by omega) h
theorem ck1_0 : ckM 1 0 60 = true := by decide +kernel
theorem cke1 (pc : Nat) (e : In_) (h : (codeOf 1)[pc]? = some e) : ckE 1 (ownOf 1) (codeOf 1) (byOf 1) pc e = true := by
  have hl : pc < 21 := (List.getElem?_eq_some_iff.mp h).1
  exact ckM_use ck1_0 (by omega) (by omega) h
theorem ck2_0 : ckM 2 0 60 = true := by decide +kernel
theorem cke2 (pc : Nat) (e : In_) (h : (codeOf 2)[pc]? = some e) : ckE 2 (ownOf 2) (codeOf 2) (byOf 2) pc e = true := by
  have hl : pc < 32 := (List.getElem?_eq_some_iff.mp h).1
  exact ckM_use ck2_0 (by omega) (by omega) h
theorem ck3_0 : ckM 3 0 60 = true := by decide +kernel
theorem cke3 (pc : Nat) (e : In_) (h : (codeOf 3)[pc]? = some e) : ckE 3 (ownOf 3) (codeOf 3) (byOf 3) pc e = true := by
  have hl : pc < 22 := (List.getElem?_eq_some_iff.mp h).1
  exact ckM_use ck3_0 (by omega) (by omega) h
theorem ck4_0 : ckM 4 0 60 = true := by decide +kernel
theorem cke4 (pc : Nat) (e : In_) (h : (codeOf 4)[pc]? = some e) : ckE 4 (ownOf 4) (codeOf 4) (byOf 4) pc e = true := by
  have hl : pc < 14 := (List.getElem?_eq_some_iff.mp h).1
  exact ckM_use ck4_0 (by omega) (by omega) h
theorem ck5_0 : ckM 5 0 60 = true := by decide +kernel
theorem cke5 (pc : Nat) (e : In_) (h : (codeOf 5)[pc]? = some e) : ckE 5 (ownOf 5) (codeOf 5) (byOf 5) pc e = true := by
  have hl : pc < 16 := (List.getElem?_eq_some_iff.mp h).1
  exact ckM_use ck5_0 (by omega) (by omega) h
theorem ck6_0 : ckM 6 0 60 = true := by decide +kernel
theorem cke6 (pc : Nat) (e : In_) (h : (codeOf 6)[pc]? = some e) : ckE 6 (ownOf 6) (codeOf 6) (byOf 6) pc e = true := by
  have hl : pc < 40 := (List.getElem?_eq_some_iff.mp h).1
  exact ckM_use ck6_0 (by omega) (by omega) h
theorem ck7_0 : ckM 7 0 60 = true := by decide +kernel
theorem cke7 (pc : Nat) (e : In_) (h : (codeOf 7)[pc]? = some e) : ckE 7 (ownOf 7) (codeOf 7) (byOf 7) pc e = true := by
  have hl : pc < 26 := (List.getElem?_eq_some_iff.mp h).1
  exact ckM_use ck7_0 (by omega) (by omega) h
theorem ck8_0 : ckM 8 0 60 = true := by decide +kernel
theorem cke8 (pc : Nat) (e : In_) (h : (codeOf 8)[pc]? = some e) : ckE 8 (ownOf 8) (codeOf 8) (byOf 8) pc e = true := by
  have hl : pc < 22 := (List.getElem?_eq_some_iff.mp h).1
  exact ckM_use ck8_0 (by omega) (by omega) h
theorem ck9_0 : ckM 9 0 60 = true := by decide +kernel
theorem cke9 (pc : Nat) (e : In_) (h : (codeOf 9)[pc]? = some e) : ckE 9 (ownOf 9) (codeOf 9) (byOf 9) pc e = true := by
  have hl : pc < 19 := (List.getElem?_eq_some_iff.mp h).1
  exact ckM_use ck9_0 (by omega) (by omega) h
theorem ck10_0 : ckM 10 0 60 = true := by decide +kernel
theorem cke10 (pc : Nat) (e : In_) (h : (codeOf 10)[pc]? = some e) : ckE 10 (ownOf 10) (codeOf 10) (byOf 10) pc e = true := by
  have hl : pc < 19 := (List.getElem?_eq_some_iff.mp h).1
  exact ckM_use ck10_0 (by omega) (by omega) h
theorem ck11_0 : ckM 11 0 60 = true := by decide +kernel
theorem ck11_60 : ckM 11 60 60 = true := by decide +kernel
theorem cke11 (pc : Nat) (e : In_) (h : (codeOf 11)[pc]? = some e) : ckE 11 (ownOf 11) (codeOf 11) (byOf 11) pc e = true := by
  have hl : pc < 71 := (List.getElem?_eq_some_iff.mp h).1
  by_cases h0 : pc < 60
  · exact ckM_use ck11_0 (by omega) (by omega) h
  exact ckM_use ck11_60 (by omega) (by omega) h
theorem ck12_0 : ckM 12 0 60 = true := by decide +kernel
theorem ck12_60 : ckM 12 60 60 = true := by decide +kernel
theorem ck12_120 : ckM 12 120 60 = true := by decide +kernel
theorem cke12 (pc : Nat) (e : In_) (h : (codeOf 12)[pc]? = some e) : ckE 12 (ownOf 12) (codeOf 12) (byOf 12) pc e = true := by
  have hl : pc < 130 := (List.getElem?_eq_some_iff.mp h).1
  by_cases h0 : pc < 60
  · exact ckM_use ck12_0 (by omega) (by omega) h
  by_cases h60 : pc < 120
  · exact ckM_use ck12_60 (by omega) (by omega) h
  exact ckM_use ck12_120 (by omega) (by omega) h
theorem ck13_0 : ckM 13 0 60 = true := by decide +kernel
theorem cke13 (pc : Nat) (e : In_) (h : (codeOf 13)[pc]? = some e) : ckE 13 (ownOf 13) (codeOf 13) (byOf 13) pc e = true := by
  have hl : pc < 9 := (List.getElem?_eq_some_iff.mp h).1
  exact ckM_use ck13_0 (by omega) (by omega) h
theorem ck14_0 : ckM 14 0 60 = true := by decide +kernel
theorem cke14 (pc : Nat) (e : In_) (h : (codeOf 14)[pc]? = some e) : ckE 14 (ownOf 14) (codeOf 14) (byOf 14) pc e = true := by
  have hl : pc < 9 := (List.getElem?_eq_some_iff.mp h).1
  exact ckM_use ck14_0 (by omega) (by omega) h
theorem ck15_0 : ckM 15 0 60 = true := by decide +kernel
theorem cke15 (pc : Nat) (e : In_) (h : (codeOf 15)[pc]? = some e) : ckE 15 (ownOf 15) (codeOf 15) (byOf 15) pc e = true := by
  have hl : pc < 29 := (List.getElem?_eq_some_iff.mp h).1
  exact ckM_use ck15_0 (by omega) (by omega) h
theorem ck16_0 : ckM 16 0 60 = true := by decide +kernel
theorem cke16 (pc : Nat) (e : In_) (h : (codeOf 16)[pc]? = some e) : ckE 16 (ownOf 16) (codeOf 16) (byOf 16) pc e = true := by
  have hl : pc < 25 := (List.getElem?_eq_some_iff.mp h).1
  exact ckM_use ck16_0 (by omega) (by omega) h
theorem ck17_0 : ckM 17 0 60 = true := by decide +kernel
theorem cke17 (pc : Nat) (e : In_) (h : (codeOf 17)[pc]? = some e) : ckE 17 (ownOf 17) (codeOf 17) (byOf 17) pc e = true := by
  have hl : pc < 12 := (List.getElem?_eq_some_iff.mp h).1
  exact ckM_use ck17_0 (by omega) (by omega) h
theorem ck18_0 : ckM 18 0 60 = true := by decide +kernel
theorem cke18 (pc : Nat) (e : In_) (h : (codeOf 18)[pc]? = some e) : ckE 18 (ownOf 18) (codeOf 18) (byOf 18) pc e = true := by
  have hl : pc < 52 := (List.getElem?_eq_some_iff.mp h).1
  exact ckM_use ck18_0 (by omega) (by omega) h
theorem ck19_0 : ckM 19 0 60 = true := by decide +kernel
theorem cke19 (pc : Nat) (e : In_) (h : (codeOf 19)[pc]? = some e) : ckE 19 (ownOf 19) (codeOf 19) (byOf 19) pc e = true := by
  have hl : pc < 10 := (List.getElem?_eq_some_iff.mp h).1
  exact ckM_use ck19_0 (by omega) (by omega) h
theorem ck20_0 : ckM 20 0 60 = true := by decide +kernel
theorem cke20 (pc : Nat) (e : In_) (h : (codeOf 20)[pc]? = some e) : ckE 20 (ownOf 20) (codeOf 20) (byOf 20) pc e = true := by
  have hl : pc < 10 := (List.getElem?_eq_some_iff.mp h).1
  exact ckM_use ck20_0 (by omega) (by omega) h
theorem ck21_0 : ckM 21 0 60 = true := by decide +kernel
theorem cke21 (pc : Nat) (e : In_) (h : (codeOf 21)[pc]? = some e) : ckE 21 (ownOf 21) (codeOf 21) (byOf 21) pc e = true := by
  have hl : pc < 10 := (List.getElem?_eq_some_iff.mp h).1
  exact ckM_use ck21_0 (by omega) (by omega) h
theorem ck22_0 : ckM 22 0 60 = true := by decide +kernel
theorem cke22 (pc : Nat) (e : In_) (h : (codeOf 22)[pc]? = some e) : ckE 22 (ownOf 22) (codeOf 22) (byOf 22) pc e = true := by
  have hl : pc < 18 := (List.getElem?_eq_some_iff.mp h).1
  exact ckM_use ck22_0 (by omega) (by omega) h
theorem ck23_0 : ckM 23 0 60 = true := by decide +kernel
theorem cke23 (pc : Nat) (e : In_) (h : (codeOf 23)[pc]? = some e) : ckE 23 (ownOf 23) (codeOf 23) (byOf 23) pc e = true := by
  have hl : pc < 32 := (List.getElem?_eq_some_iff.mp h).1
  exact ckM_use ck23_0 (by omega) (by omega) h
theorem ck24_0 : ckM 24 0 60 = true := by decide +kernel
theorem cke24 (pc : Nat) (e : In_) (h : (codeOf 24)[pc]? = some e) : ckE 24 (ownOf 24) (codeOf 24) (byOf 24) pc e = true := by
  have hl : pc < 10 := (List.getElem?_eq_some_iff.mp h).1
  exact ckM_use ck24_0 (by omega) (by omega) h
theorem ck25_0 : ckM 25 0 60 = true := by decide +kernel
theorem cke25 (pc : Nat) (e : In_) (h : (codeOf 25)[pc]? = some e) : ckE 25 (ownOf 25) (codeOf 25) (byOf 25) pc e = true := by
  have hl : pc < 33 := (List.getElem?_eq_some_iff.mp h).1
  exact ckM_use ck25_0 (by omega) (by omega) h
theorem ck26_0 : ckM 26 0 60 = true := by decide +kernel
theorem cke26 (pc : Nat) (e : In_) (h : (codeOf 26)[pc]? = some e) : ckE 26 (ownOf 26) (codeOf 26) (byOf 26) pc e = true := by
  have hl : pc < 35 := (List.getElem?_eq_some_iff.mp h).1
  exact ckM_use ck26_0 (by omega) (by omega) h
theorem ck27_0 : ckM 27 0 60 = true := by decide +kernel
theorem cke27 (pc : Nat) (e : In_) (h : (codeOf 27)[pc]? = some e) : ckE 27 (ownOf 27) (codeOf 27) (byOf 27) pc e = true := by
  have hl : pc < 13 := (List.getElem?_eq_some_iff.mp h).1
  exact ckM_use ck27_0 (by omega) (by omega) h
theorem ck28_0 : ckM 28 0 60 = true := by decide +kernel
theorem cke28 (pc : Nat) (e : In_) (h : (codeOf 28)[pc]? = some e) : ckE 28 (ownOf 28) (codeOf 28) (byOf 28) pc e = true := by
  have hl : pc < 14 := (List.getElem?_eq_some_iff.mp h).1
  exact ckM_use ck28_0 (by omega) (by omega) h
theorem ck29_0 : ckM 29 0 60 = true := by decide +kernel
theorem cke29 (pc : Nat) (e : In_) (h : (codeOf 29)[pc]? = some e) : ckE 29 (ownOf 29) (codeOf 29) (byOf 29) pc e = true := by
  have hl : pc < 15 := (List.getElem?_eq_some_iff.mp h).1
  exact ckM_use ck29_0 (by omega) (by omega) h
theorem ck30_0 : ckM 30 0 60 = true := by decide +kernel
theorem cke30 (pc : Nat) (e : In_) (h : (codeOf 30)[pc]? = some e) : ckE 30 (ownOf 30) (codeOf 30) (byOf 30) pc e = true := by
  have hl : pc < 49 := (List.getElem?_eq_some_iff.mp h).1
  exact ckM_use ck30_0 (by omega) (by omega) h
theorem ck31_0 : ckM 31 0 60 = true := by decide +kernel
theorem cke31 (pc : Nat) (e : In_) (h : (codeOf 31)[pc]? = some e) : ckE 31 (ownOf 31) (codeOf 31) (byOf 31) pc e = true := by
  have hl : pc < 27 := (List.getElem?_eq_some_iff.mp h).1
  exact ckM_use ck31_0 (by omega) (by omega) h
theorem ck32_0 : ckM 32 0 60 = true := by decide +kernel
theorem cke32 (pc : Nat) (e : In_) (h : (codeOf 32)[pc]? = some e) : ckE 32 (ownOf 32) (codeOf 32) (byOf 32) pc e = true := by
  have hl : pc < 29 := (List.getElem?_eq_some_iff.mp h).1
  exact ckM_use ck32_0 (by omega) (by omega) h
theorem ck33_0 : ckM 33 0 60 = true := by decide +kernel
theorem cke33 (pc : Nat) (e : In_) (h : (codeOf 33)[pc]? = some e) : ckE 33 (ownOf 33) (codeOf 33) (byOf 33) pc e = true := by
  have hl : pc < 45 := (List.getElem?_eq_some_iff.mp h).1
  exact ckM_use ck33_0 (by omega) (by omega) h
theorem ck34_0 : ckM 34 0 60 = true := by decide +kernel
theorem cke34 (pc : Nat) (e : In_) (h : (codeOf 34)[pc]? = some e) : ckE 34 (ownOf 34) (codeOf 34) (byOf 34) pc e = true := by
  have hl : pc < 13 := (List.getElem?_eq_some_iff.mp h).1
  exact ckM_use ck34_0 (by omega) (by omega) h
theorem ck35_0 : ckM 35 0 60 = true := by decide +kernel
theorem ck35_60 : ckM 35 60 60 = true := by decide +kernel
theorem cke35 (pc : Nat) (e : In_) (h : (codeOf 35)[pc]? = some e) : ckE 35 (ownOf 35) (codeOf 35) (byOf 35) pc e = true := by
  have hl : pc < 65 := (List.getElem?_eq_some_iff.mp h).1
  by_cases h0 : pc < 60
  · exact ckM_use ck35_0 (by omega) (by omega) h
  exact ckM_use ck35_60 (by omega) (by omega) h
theorem ck36_0 : ckM 36 0 60 = true := by decide +kernel
theorem cke36 (pc : Nat) (e : In_) (h : (codeOf 36)[pc]? = some e) : ckE 36 (ownOf 36) (codeOf 36) (byOf 36) pc e = true := by
  have hl : pc < 9 := (List.getElem?_eq_some_iff.mp h).1
  exact ckM_use ck36_0 (by omega) (by omega) h
theorem ck37_0 : ckM 37 0 60 = true := by decide +kernel
theorem ck37_60 : ckM 37 60 60 = true := by decide +kernel
theorem cke37 (pc : Nat) (e : In_) (h : (codeOf 37)[pc]? = some e) : ckE 37 (ownOf 37) (codeOf 37) (byOf 37) pc e = true := by
  have hl : pc < 75 := (List.getElem?_eq_some_iff.mp h).1
  by_cases h0 : pc < 60
  · exact ckM_use ck37_0 (by omega) (by omega) h
  exact ckM_use ck37_60 (by omega) (by omega) h
theorem ck38_0 : ckM 38 0 60 = true := by decide +kernel
theorem cke38 (pc : Nat) (e : In_) (h : (codeOf 38)[pc]? = some e) : ckE 38 (ownOf 38) (codeOf 38) (byOf 38) pc e = true := by
  have hl : pc < 16 := (List.getElem?_eq_some_iff.mp h).1
  exact ckM_use ck38_0 (by omega) (by omega) h
theorem ck39_0 : ckM 39 0 60 = true := by decide +kernel
theorem cke39 (pc : Nat) (e : In_) (h : (codeOf 39)[pc]? = some e) : ckE 39 (ownOf 39) (codeOf 39) (byOf 39) pc e = true := by
  have hl : pc < 23 := (List.getElem?_eq_some_iff.mp h).1
  exact ckM_use ck39_0 (by omega) (by omega) h
theorem ck40_0 : ckM 40 0 60 = true := by decide +kernel
theorem cke40 (pc : Nat) (e : In_) (h : (codeOf 40)[pc]? = some e) : ckE 40 (ownOf 40) (codeOf 40) (byOf 40) pc e = true := by
  have hl : pc < 38 := (List.getElem?_eq_some_iff.mp h).1
  exact ckM_use ck40_0 (by omega) (by omega) h
theorem ck41_0 : ckM 41 0 60 = true := by decide +kernel
theorem cke41 (pc : Nat) (e : In_) (h : (codeOf 41)[pc]? = some e) : ckE 41 (ownOf 41) (codeOf 41) (byOf 41) pc e = true := by
  have hl : pc < 23 := (List.getElem?_eq_some_iff.mp h).1
  exact ckM_use ck41_0 (by omega) (by omega) h
theorem ck42_0 : ckM 42 0 60 = true := by decide +kernel
theorem cke42 (pc : Nat) (e : In_) (h : (codeOf 42)[pc]? = some e) : ckE 42 (ownOf 42) (codeOf 42) (byOf 42) pc e = true := by
  have hl : pc < 47 := (List.getElem?_eq_some_iff.mp h).1
  exact ckM_use ck42_0 (by omega) (by omega) h
theorem ck43_0 : ckM 43 0 60 = true := by decide +kernel
theorem cke43 (pc : Nat) (e : In_) (h : (codeOf 43)[pc]? = some e) : ckE 43 (ownOf 43) (codeOf 43) (byOf 43) pc e = true := by
  have hl : pc < 24 := (List.getElem?_eq_some_iff.mp h).1
  exact ckM_use ck43_0 (by omega) (by omega) h
theorem ck44_0 : ckM 44 0 60 = true := by decide +kernel
theorem cke44 (pc : Nat) (e : In_) (h : (codeOf 44)[pc]? = some e) : ckE 44 (ownOf 44) (codeOf 44) (byOf 44) pc e = true := by
  have hl : pc < 47 := (List.getElem?_eq_some_iff.mp h).1
  exact ckM_use ck44_0 (by omega) (by omega) h
theorem ck45_0 : ckM 45 0 60 = true := by decide +kernel
theorem cke45 (pc : Nat) (e : In_) (h : (codeOf 45)[pc]? = some e) : ckE 45 (ownOf 45) (codeOf 45) (byOf 45) pc e = true := by
  have hl : pc < 33 := (List.getElem?_eq_some_iff.mp h).1
  exact ckM_use ck45_0 (by omega) (by omega) h
theorem ck46_0 : ckM 46 0 60 = true := by decide +kernel
theorem cke46 (pc : Nat) (e : In_) (h : (codeOf 46)[pc]? = some e) : ckE 46 (ownOf 46) (codeOf 46) (byOf 46) pc e = true := by
  have hl : pc < 25 := (List.getElem?_eq_some_iff.mp h).1
  exact ckM_use ck46_0 (by omega) (by omega) h
theorem ck47_0 : ckM 47 0 60 = true := by decide +kernel
theorem cke47 (pc : Nat) (e : In_) (h : (codeOf 47)[pc]? = some e) : ckE 47 (ownOf 47) (codeOf 47) (byOf 47) pc e = true := by
  have hl : pc < 41 := (List.getElem?_eq_some_iff.mp h).1
  exact ckM_use ck47_0 (by omega) (by omega) h
theorem ck48_0 : ckM 48 0 60 = true := by decide +kernel
theorem cke48 (pc : Nat) (e : In_) (h : (codeOf 48)[pc]? = some e) : ckE 48 (ownOf 48) (codeOf 48) (byOf 48) pc e = true := by
  have hl : pc < 41 := (List.getElem?_eq_some_iff.mp h).1
  exact ckM_use ck48_0 (by omega) (by omega) h
theorem ck49_0 : ckM 49 0 60 = true := by decide +kernel
theorem cke49 (pc : Nat) (e : In_) (h : (codeOf 49)[pc]? = some e) : ckE 49 (ownOf 49) (codeOf 49) (byOf 49) pc e = true := by
  have hl : pc < 29 := (List.getElem?_eq_some_iff.mp h).1
  exact ckM_use ck49_0 (by omega) (by omega) h
theorem ck50_0 : ckM 50 0 60 = true := by decide +kernel
theorem cke50 (pc : Nat) (e : In_) (h : (codeOf 50)[pc]? = some e) : ckE 50 (ownOf 50) (codeOf 50) (byOf 50) pc e = true := by
  have hl : pc < 36 := (List.getElem?_eq_some_iff.mp h).1
  exact ckM_use ck50_0 (by omega) (by omega) h
theorem ck51_0 : ckM 51 0 60 = true := by decide +kernel
theorem cke51 (pc : Nat) (e : In_) (h : (codeOf 51)[pc]? = some e) : ckE 51 (ownOf 51) (codeOf 51) (byOf 51) pc e = true := by
  have hl : pc < 10 := (List.getElem?_eq_some_iff.mp h).1
  exact ckM_use ck51_0 (by omega) (by omega) h
theorem ck52_0 : ckM 52 0 60 = true := by decide +kernel
theorem cke52 (pc : Nat) (e : In_) (h : (codeOf 52)[pc]? = some e) : ckE 52 (ownOf 52) (codeOf 52) (byOf 52) pc e = true := by
  have hl : pc < 24 := (List.getElem?_eq_some_iff.mp h).1
  exact ckM_use ck52_0 (by omega) (by omega) h
theorem ck53_0 : ckM 53 0 60 = true := by decide +kernel
theorem cke53 (pc : Nat) (e : In_) (h : (codeOf 53)[pc]? = some e) : ckE 53 (ownOf 53) (codeOf 53) (byOf 53) pc e = true := by
  have hl : pc < 25 := (List.getElem?_eq_some_iff.mp h).1
  exact ckM_use ck53_0 (by omega) (by omega) h
theorem ck54_0 : ckM 54 0 60 = true := by decide +kernel
theorem cke54 (pc : Nat) (e : In_) (h : (codeOf 54)[pc]? = some e) : ckE 54 (ownOf 54) (codeOf 54) (byOf 54) pc e = true := by
  have hl : pc < 44 := (List.getElem?_eq_some_iff.mp h).1
  exact ckM_use ck54_0 (by omega) (by omega) h
theorem ck55_0 : ckM 55 0 60 = true := by decide +kernel
theorem cke55 (pc : Nat) (e : In_) (h : (codeOf 55)[pc]? = some e) : ckE 55 (ownOf 55) (codeOf 55) (byOf 55) pc e = true := by
  have hl : pc < 29 := (List.getElem?_eq_some_iff.mp h).1
  exact ckM_use ck55_0 (by omega) (by omega) h
theorem ck56_0 : ckM 56 0 60 = true := by decide +kernel
theorem cke56 (pc : Nat) (e : In_) (h : (codeOf 56)[pc]? = some e) : ckE 56 (ownOf 56) (codeOf 56) (byOf 56) pc e = true := by
  have hl : pc < 23 := (List.getElem?_eq_some_iff.mp h).1
  exact ckM_use ck56_0 (by omega) (by omega) h
theorem ck57_0 : ckM 57 0 60 = true := by decide +kernel
theorem ck57_60 : ckM 57 60 60 = true := by decide +kernel
theorem cke57 (pc : Nat) (e : In_) (h : (codeOf 57)[pc]? = some e) : ckE 57 (ownOf 57) (codeOf 57) (byOf 57) pc e = true := by
  have hl : pc < 72 := (List.getElem?_eq_some_iff.mp h).1
  by_cases h0 : pc < 60
  · exact ckM_use ck57_0 (by omega) (by omega) h
  exact ckM_use ck57_60 (by omega) (by omega) h
theorem ck58_0 : ckM 58 0 60 = true := by decide +kernel
theorem cke58 (pc : Nat) (e : In_) (h : (codeOf 58)[pc]? = some e) : ckE 58 (ownOf 58) (codeOf 58) (byOf 58) pc e = true := by
  have hl : pc < 25 := (List.getElem?_eq_some_iff.mp h).1
  exact ckM_use ck58_0 (by omega) (by omega) h
theorem ck59_0 : ckM 59 0 60 = true := by decide +kernel
theorem cke59 (pc : Nat) (e : In_) (h : (codeOf 59)[pc]? = some e) : ckE 59 (ownOf 59) (codeOf 59) (byOf 59) pc e = true := by
  have hl : pc < 27 := (List.getElem?_eq_some_iff.mp h).1
  exact ckM_use ck59_0 (by omega) (by omega) h
theorem ck60_0 : ckM 60 0 60 = true := by decide +kernel
theorem cke60 (pc : Nat) (e : In_) (h : (codeOf 60)[pc]? = some e) : ckE 60 (ownOf 60) (codeOf 60) (byOf 60) pc e = true := by
  have hl : pc < 41 := (List.getElem?_eq_some_iff.mp h).1
  exact ckM_use ck60_0 (by omega) (by omega) h
theorem ck61_0 : ckM 61 0 60 = true := by decide +kernel
theorem cke61 (pc : Nat) (e : In_) (h : (codeOf 61)[pc]? = some e) : ckE 61 (ownOf 61) (codeOf 61) (byOf 61) pc e = true := by
  have hl : pc < 44 := (List.getElem?_eq_some_iff.mp h).1
  exact ckM_use ck61_0 (by omega) (by omega) h
theorem ck62_0 : ckM 62 0 60 = true := by decide +kernel
theorem ck62_60 : ckM 62 60 60 = true := by decide +kernel
theorem cke62 (pc : Nat) (e : In_) (h : (codeOf 62)[pc]? = some e) : ckE 62 (ownOf 62) (codeOf 62) (byOf 62) pc e = true := by
  have hl : pc < 78 := (List.getElem?_eq_some_iff.mp h).1
  by_cases h0 : pc < 60
  · exact ckM_use ck62_0 (by omega) (by omega) h
  exact ckM_use ck62_60 (by omega) (by omega) h
theorem ck63_0 : ckM 63 0 60 = true := by decide +kernel
theorem cke63 (pc : Nat) (e : In_) (h : (codeOf 63)[pc]? = some e) : ckE 63 (ownOf 63) (codeOf 63) (byOf 63) pc e = true := by
  have hl : pc < 10 := (List.getElem?_eq_some_iff.mp h).1
  exact ckM_use ck63_0 (by omega) (by omega) h
theorem ck64_0 : ckM 64 0 60 = true := by decide +kernel
theorem cke64 (pc : Nat) (e : In_) (h : (codeOf 64)[pc]? = some e) : ckE 64 (ownOf 64) (codeOf 64) (byOf 64) pc e = true := by
  have hl : pc < 12 := (List.getElem?_eq_some_iff.mp h).1
  exact ckM_use ck64_0 (by omega) (by omega) h
theorem ck65_0 : ckM 65 0 60 = true := by decide +kernel
theorem cke65 (pc : Nat) (e : In_) (h : (codeOf 65)[pc]? = some e) : ckE 65 (ownOf 65) (codeOf 65) (byOf 65) pc e = true := by
  have hl : pc < 16 := (List.getElem?_eq_some_iff.mp h).1
  exact ckM_use ck65_0 (by omega) (by omega) h
theorem ck66_0 : ckM 66 0 60 = true := by decide +kernel
theorem cke66 (pc : Nat) (e : In_) (h : (codeOf 66)[pc]? = some e) : ckE 66 (ownOf 66) (codeOf 66) (byOf 66) pc e = true := by
  have hl : pc < 20 := (List.getElem?_eq_some_iff.mp h).1
  exact ckM_use ck66_0 (by omega) (by omega) h
theorem ck67_0 : ckM 67 0 60 = true := by decide +kernel
theorem cke67 (pc : Nat) (e : In_) (h : (codeOf 67)[pc]? = some e) : ckE 67 (ownOf 67) (codeOf 67) (byOf 67) pc e = true := by
  have hl : pc < 21 := (List.getElem?_eq_some_iff.mp h).1
  exact ckM_use ck67_0 (by omega) (by omega) h
theorem ck68_0 : ckM 68 0 60 = true := by decide +kernel
theorem cke68 (pc : Nat) (e : In_) (h : (codeOf 68)[pc]? = some e) : ckE 68 (ownOf 68) (codeOf 68) (byOf 68) pc e = true := by
  have hl : pc < 17 := (List.getElem?_eq_some_iff.mp h).1
  exact ckM_use ck68_0 (by omega) (by omega) h
theorem ck69_0 : ckM 69 0 60 = true := by decide +kernel
theorem cke69 (pc : Nat) (e : In_) (h : (codeOf 69)[pc]? = some e) : ckE 69 (ownOf 69) (codeOf 69) (byOf 69) pc e = true := by
  have hl : pc < 32 := (List.getElem?_eq_some_iff.mp h).1
  exact ckM_use ck69_0 (by omega) (by omega) h
theorem ck70_0 : ckM 70 0 60 = true := by decide +kernel
theorem ck70_60 : ckM 70 60 60 = true := by decide +kernel
theorem cke70 (pc : Nat) (e : In_) (h : (codeOf 70)[pc]? = some e) : ckE 70 (ownOf 70) (codeOf 70) (byOf 70) pc e = true := by
  have hl : pc < 75 := (List.getElem?_eq_some_iff.mp h).1
  by_cases h0 : pc < 60
  · exact ckM_use ck70_0 (by omega) (by omega) h
  exact ckM_use ck70_60 (by omega) (by omega) h
theorem ck71_0 : ckM 71 0 60 = true := by decide +kernel
theorem cke71 (pc : Nat) (e : In_) (h : (codeOf 71)[pc]? = some e) : ckE 71 (ownOf 71) (codeOf 71) (byOf 71) pc e = true := by
  have hl : pc < 18 := (List.getElem?_eq_some_iff.mp h).1
  exact ckM_use ck71_0 (by omega) (by omega) h
theorem ck72_0 : ckM 72 0 60 = true := by decide +kernel
theorem cke72 (pc : Nat) (e : In_) (h : (codeOf 72)[pc]? = some e) : ckE 72 (ownOf 72) (codeOf 72) (byOf 72) pc e = true := by
  have hl : pc < 40 := (List.getElem?_eq_some_iff.mp h).1
  exact ckM_use ck72_0 (by omega) (by omega) h
theorem ck73_0 : ckM 73 0 60 = true := by decide +kernel
theorem cke73 (pc : Nat) (e : In_) (h : (codeOf 73)[pc]? = some e) : ckE 73 (ownOf 73) (codeOf 73) (byOf 73) pc e = true := by
  have hl : pc < 46 := (List.getElem?_eq_some_iff.mp h).1
  exact ckM_use ck73_0 (by omega) (by omega) h
theorem ck74_0 : ckM 74 0 60 = true := by decide +kernel
theorem cke74 (pc : Nat) (e : In_) (h : (codeOf 74)[pc]? = some e) : ckE 74 (ownOf 74) (codeOf 74) (byOf 74) pc e = true := by
  have hl : pc < 20 := (List.getElem?_eq_some_iff.mp h).1
  exact ckM_use ck74_0 (by omega) (by omega) h
theorem ck75_0 : ckM 75 0 60 = true := by decide +kernel
theorem cke75 (pc : Nat) (e : In_) (h : (codeOf 75)[pc]? = some e) : ckE 75 (ownOf 75) (codeOf 75) (byOf 75) pc e = true := by
  have hl : pc < 22 := (List.getElem?_eq_some_iff.mp h).1
  exact ckM_use ck75_0 (by omega) (by omega) h
theorem ck76_0 : ckM 76 0 60 = true := by decide +kernel
theorem cke76 (pc : Nat) (e : In_) (h : (codeOf 76)[pc]? = some e) : ckE 76 (ownOf 76) (codeOf 76) (byOf 76) pc e = true := by
  have hl : pc < 7 := (List.getElem?_eq_some_iff.mp h).1
  exact ckM_use ck76_0 (by omega) (by omega) h
theorem ck77_0 : ckM 77 0 60 = true := by decide +kernel
theorem cke77 (pc : Nat) (e : In_) (h : (codeOf 77)[pc]? = some e) : ckE 77 (ownOf 77) (codeOf 77) (byOf 77) pc e = true := by
  have hl : pc < 7 := (List.getElem?_eq_some_iff.mp h).1
  exact ckM_use ck77_0 (by omega) (by omega) h
theorem ck78_0 : ckM 78 0 60 = true := by decide +kernel
theorem cke78 (pc : Nat) (e : In_) (h : (codeOf 78)[pc]? = some e) : ckE 78 (ownOf 78) (codeOf 78) (byOf 78) pc e = true := by
  have hl : pc < 9 := (List.getElem?_eq_some_iff.mp h).1
  exact ckM_use ck78_0 (by omega) (by omega) h
theorem ck79_0 : ckM 79 0 60 = true := by decide +kernel
theorem cke79 (pc : Nat) (e : In_) (h : (codeOf 79)[pc]? = some e) : ckE 79 (ownOf 79) (codeOf 79) (byOf 79) pc e = true := by
  have hl : pc < 12 := (List.getElem?_eq_some_iff.mp h).1
  exact ckM_use ck79_0 (by omega) (by omega) h
theorem ck80_0 : ckM 80 0 60 = true := by decide +kernel
theorem cke80 (pc : Nat) (e : In_) (h : (codeOf 80)[pc]? = some e) : ckE 80 (ownOf 80) (codeOf 80) (byOf 80) pc e = true := by
  have hl : pc < 6 := (List.getElem?_eq_some_iff.mp h).1
  exact ckM_use ck80_0 (by omega) (by omega) h
theorem ck81_0 : ckM 81 0 60 = true := by decide +kernel
theorem cke81 (pc : Nat) (e : In_) (h : (codeOf 81)[pc]? = some e) : ckE 81 (ownOf 81) (codeOf 81) (byOf 81) pc e = true := by
  have hl : pc < 11 := (List.getElem?_eq_some_iff.mp h).1
  exact ckM_use ck81_0 (by omega) (by omega) h
theorem ck82_0 : ckM 82 0 60 = true := by decide +kernel
theorem cke82 (pc : Nat) (e : In_) (h : (codeOf 82)[pc]? = some e) : ckE 82 (ownOf 82) (codeOf 82) (byOf 82) pc e = true := by
  have hl : pc < 13 := (List.getElem?_eq_some_iff.mp h).1
  exact ckM_use ck82_0 (by omega) (by omega) h
theorem ck83_0 : ckM 83 0 60 = true := by decide +kernel
theorem cke83 (pc : Nat) (e : In_) (h : (codeOf 83)[pc]? = some e) : ckE 83 (ownOf 83) (codeOf 83) (byOf 83) pc e = true := by
  have hl : pc < 30 := (List.getElem?_eq_some_iff.mp h).1
  exact ckM_use ck83_0 (by omega) (by omega) h
theorem ck84_0 : ckM 84 0 60 = true := by decide +kernel
theorem ck84_60 : ckM 84 60 60 = true := by decide +kernel
theorem cke84 (pc : Nat) (e : In_) (h : (codeOf 84)[pc]? = some e) : ckE 84 (ownOf 84) (codeOf 84) (byOf 84) pc e = true := by
  have hl : pc < 66 := (List.getElem?_eq_some_iff.mp h).1
  by_cases h0 : pc < 60
  · exact ckM_use ck84_0 (by omega) (by omega) h
  exact ckM_use ck84_60 (by omega) (by omega) h
theorem ck85_0 : ckM 85 0 60 = true := by decide +kernel
theorem cke85 (pc : Nat) (e : In_) (h : (codeOf 85)[pc]? = some e) : ckE 85 (ownOf 85) (codeOf 85) (byOf 85) pc e = true := by
  have hl : pc < 7 := (List.getElem?_eq_some_iff.mp h).1
  exact ckM_use ck85_0 (by omega) (by omega) h
theorem ck86_0 : ckM 86 0 60 = true := by decide +kernel
theorem ck86_60 : ckM 86 60 60 = true := by decide +kernel
theorem cke86 (pc : Nat) (e : In_) (h : (codeOf 86)[pc]? = some e) : ckE 86 (ownOf 86) (codeOf 86) (byOf 86) pc e = true := by
  have hl : pc < 70 := (List.getElem?_eq_some_iff.mp h).1
  by_cases h0 : pc < 60
  · exact ckM_use ck86_0 (by omega) (by omega) h
  exact ckM_use ck86_60 (by omega) (by omega) h
theorem ck87_0 : ckM 87 0 60 = true := by decide +kernel
theorem cke87 (pc : Nat) (e : In_) (h : (codeOf 87)[pc]? = some e) : ckE 87 (ownOf 87) (codeOf 87) (byOf 87) pc e = true := by
  have hl : pc < 27 := (List.getElem?_eq_some_iff.mp h).1
  exact ckM_use ck87_0 (by omega) (by omega) h
theorem ck88_0 : ckM 88 0 60 = true := by decide +kernel
theorem cke88 (pc : Nat) (e : In_) (h : (codeOf 88)[pc]? = some e) : ckE 88 (ownOf 88) (codeOf 88) (byOf 88) pc e = true := by
  have hl : pc < 39 := (List.getElem?_eq_some_iff.mp h).1
  exact ckM_use ck88_0 (by omega) (by omega) h
theorem ck89_0 : ckM 89 0 60 = true := by decide +kernel
theorem cke89 (pc : Nat) (e : In_) (h : (codeOf 89)[pc]? = some e) : ckE 89 (ownOf 89) (codeOf 89) (byOf 89) pc e = true := by
  have hl : pc < 31 := (List.getElem?_eq_some_iff.mp h).1
  exact ckM_use ck89_0 (by omega) (by omega) h
theorem ck90_0 : ckM 90 0 60 = true := by decide +kernel
theorem ck90_60 : ckM 90 60 60 = true := by decide +kernel
theorem cke90 (pc : Nat) (e : In_) (h : (codeOf 90)[pc]? = some e) : ckE 90 (ownOf 90) (codeOf 90) (byOf 90) pc e = true := by
  have hl : pc < 84 := (List.getElem?_eq_some_iff.mp h).1
  by_cases h0 : pc < 60
  · exact ckM_use ck90_0 (by omega) (by omega) h
  exact ckM_use ck90_60 (by omega) (by omega) h
theorem ck91_0 : ckM 91 0 60 = true := by decide +kernel
theorem cke91 (pc : Nat) (e : In_) (h : (codeOf 91)[pc]? = some e) : ckE 91 (ownOf 91) (codeOf 91) (byOf 91) pc e = true := by
  have hl : pc < 53 := (List.getElem?_eq_some_iff.mp h).1
  exact ckM_use ck91_0 (by omega) (by omega) h
theorem ck92_0 : ckM 92 0 60 = true := by decide +kernel
theorem cke92 (pc : Nat) (e : In_) (h : (codeOf 92)[pc]? = some e) : ckE 92 (ownOf 92) (codeOf 92) (byOf 92) pc e = true := by
  have hl : pc < 46 := (List.getElem?_eq_some_iff.mp h).1
  exact ckM_use ck92_0 (by omega) (by omega) h
theorem ck93_0 : ckM 93 0 60 = true := by decide +kernel
theorem cke93 (pc : Nat) (e : In_) (h : (codeOf 93)[pc]? = some e) : ckE 93 (ownOf 93) (codeOf 93) (byOf 93) pc e = true := by
  have hl : pc < 38 := (List.getElem?_eq_some_iff.mp h).1
  exact ckM_use ck93_0 (by omega) (by omega) h
theorem ck94_0 : ckM 94 0 60 = true := by decide +kernel
theorem cke94 (pc : Nat) (e : In_) (h : (codeOf 94)[pc]? = some e) : ckE 94 (ownOf 94) (codeOf 94) (byOf 94) pc e = true := by
  have hl : pc < 32 := (List.getElem?_eq_some_iff.mp h).1
  exact ckM_use ck94_0 (by omega) (by omega) h
theorem ck95_0 : ckM 95 0 60 = true := by decide +kernel
theorem cke95 (pc : Nat) (e : In_) (h : (codeOf 95)[pc]? = some e) : ckE 95 (ownOf 95) (codeOf 95) (byOf 95) pc e = true := by
  have hl : pc < 55 := (List.getElem?_eq_some_iff.mp h).1
  exact ckM_use ck95_0 (by omega) (by omega) h
theorem ck96_0 : ckM 96 0 60 = true := by decide +kernel
theorem ck96_60 : ckM 96 60 60 = true := by decide +kernel
theorem cke96 (pc : Nat) (e : In_) (h : (codeOf 96)[pc]? = some e) : ckE 96 (ownOf 96) (codeOf 96) (byOf 96) pc e = true := by
  have hl : pc < 64 := (List.getElem?_eq_some_iff.mp h).1
  by_cases h0 : pc < 60
  · exact ckM_use ck96_0 (by omega) (by omega) h
  exact ckM_use ck96_60 (by omega) (by omega) h
theorem ck97_0 : ckM 97 0 60 = true := by decide +kernel
theorem ck97_60 : ckM 97 60 60 = true := by decide +kernel
theorem cke97 (pc : Nat) (e : In_) (h : (codeOf 97)[pc]? = some e) : ckE 97 (ownOf 97) (codeOf 97) (byOf 97) pc e = true := by
  have hl : pc < 114 := (List.getElem?_eq_some_iff.mp h).1
  by_cases h0 : pc < 60
  · exact ckM_use ck97_0 (by omega) (by omega) h
  exact ckM_use ck97_60 (by omega) (by omega) h
theorem ck98_0 : ckM 98 0 60 = true := by decide +kernel
theorem cke98 (pc : Nat) (e : In_) (h : (codeOf 98)[pc]? = some e) : ckE 98 (ownOf 98) (codeOf 98) (byOf 98) pc e = true := by
  have hl : pc < 5 := (List.getElem?_eq_some_iff.mp h).1
  exact ckM_use ck98_0 (by omega) (by omega) h
theorem ck99_0 : ckM 99 0 60 = true := by decide +kernel
theorem cke99 (pc : Nat) (e : In_) (h : (codeOf 99)[pc]? = some e) : ckE 99 (ownOf 99) (codeOf 99) (byOf 99) pc e = true := by
  have hl : pc < 46 := (List.getElem?_eq_some_iff.mp h).1
  exact ckM_use ck99_0 (by omega) (by omega) h
theorem ck100_0 : ckM 100 0 60 = true := by decide +kernel
theorem ck100_60 : ckM 100 60 60 = true := by decide +kernel
theorem cke100 (pc : Nat) (e : In_) (h : (codeOf 100)[pc]? = some e) : ckE 100 (ownOf 100) (codeOf 100) (byOf 100) pc e = true := by
  have hl : pc < 91 := (List.getElem?_eq_some_iff.mp h).1
  by_cases h0 : pc < 60
  · exact ckM_use ck100_0 (by omega) (by omega) h
  exact ckM_use ck100_60 (by omega) (by omega) h
theorem ck101_0 : ckM 101 0 60 = true := by decide +kernel
theorem cke101 (pc : Nat) (e : In_) (h : (codeOf 101)[pc]? = some e) : ckE 101 (ownOf 101) (codeOf 101) (byOf 101) pc e = true := by
  have hl : pc < 16 := (List.getElem?_eq_some_iff.mp h).1
  exact ckM_use ck101_0 (by omega) (by omega) h
theorem ck102_0 : ckM 102 0 60 = true := by decide +kernel
theorem ck102_60 : ckM 102 60 60 = true := by decide +kernel
theorem cke102 (pc : Nat) (e : In_) (h : (codeOf 102)[pc]? = some e) : ckE 102 (ownOf 102) (codeOf 102) (byOf 102) pc e = true := by
  have hl : pc < 88 := (List.getElem?_eq_some_iff.mp h).1
  by_cases h0 : pc < 60
  · exact ckM_use ck102_0 (by omega) (by omega) h
  exact ckM_use ck102_60 (by omega) (by omega) h
theorem ck103_0 : ckM 103 0 60 = true := by decide +kernel
theorem ck103_60 : ckM 103 60 60 = true := by decide +kernel
theorem cke103 (pc : Nat) (e : In_) (h : (codeOf 103)[pc]? = some e) : ckE 103 (ownOf 103) (codeOf 103) (byOf 103) pc e = true := by
  have hl : pc < 100 := (List.getElem?_eq_some_iff.mp h).1
  by_cases h0 : pc < 60
  · exact ckM_use ck103_0 (by omega) (by omega) h
  exact ckM_use ck103_60 (by omega) (by omega) h
theorem ck104_0 : ckM 104 0 60 = true := by decide +kernel
theorem cke104 (pc : Nat) (e : In_) (h : (codeOf 104)[pc]? = some e) : ckE 104 (ownOf 104) (codeOf 104) (byOf 104) pc e = true := by
  have hl : pc < 4 := (List.getElem?_eq_some_iff.mp h).1
  exact ckM_use ck104_0 (by omega) (by omega) h
theorem ck105_0 : ckM 105 0 60 = true := by decide +kernel
theorem cke105 (pc : Nat) (e : In_) (h : (codeOf 105)[pc]? = some e) : ckE 105 (ownOf 105) (codeOf 105) (byOf 105) pc e = true := by
  have hl : pc < 3 := (List.getElem?_eq_some_iff.mp h).1
  exact ckM_use ck105_0 (by omega) (by omega) h
theorem ck106_0 : ckM 106 0 60 = true := by decide +kernel
theorem cke106 (pc : Nat) (e : In_) (h : (codeOf 106)[pc]? = some e) : ckE 106 (ownOf 106) (codeOf 106) (byOf 106) pc e = true := by
  have hl : pc < 40 := (List.getElem?_eq_some_iff.mp h).1
  exact ckM_use ck106_0 (by omega) (by omega) h
theorem ck107_0 : ckM 107 0 60 = true := by decide +kernel
theorem cke107 (pc : Nat) (e : In_) (h : (codeOf 107)[pc]? = some e) : ckE 107 (ownOf 107) (codeOf 107) (byOf 107) pc e = true := by
  have hl : pc < 52 := (List.getElem?_eq_some_iff.mp h).1
  exact ckM_use ck107_0 (by omega) (by omega) h
theorem ck108_0 : ckM 108 0 60 = true := by decide +kernel
theorem cke108 (pc : Nat) (e : In_) (h : (codeOf 108)[pc]? = some e) : ckE 108 (ownOf 108) (codeOf 108) (byOf 108) pc e = true := by
  have hl : pc < 16 := (List.getElem?_eq_some_iff.mp h).1
  exact ckM_use ck108_0 (by omega) (by omega) h
theorem ck109_0 : ckM 109 0 60 = true := by decide +kernel
theorem cke109 (pc : Nat) (e : In_) (h : (codeOf 109)[pc]? = some e) : ckE 109 (ownOf 109) (codeOf 109) (byOf 109) pc e = true := by
  have hl : pc < 37 := (List.getElem?_eq_some_iff.mp h).1
  exact ckM_use ck109_0 (by omega) (by omega) h
theorem ck110_0 : ckM 110 0 60 = true := by decide +kernel
theorem ck110_60 : ckM 110 60 60 = true := by decide +kernel
theorem ck110_120 : ckM 110 120 60 = true := by decide +kernel
theorem cke110 (pc : Nat) (e : In_) (h : (codeOf 110)[pc]? = some e) : ckE 110 (ownOf 110) (codeOf 110) (byOf 110) pc e = true := by
  have hl : pc < 180 := (List.getElem?_eq_some_iff.mp h).1
  by_cases h0 : pc < 60
  · exact ckM_use ck110_0 (by omega) (by omega) h
  by_cases h60 : pc < 120
  · exact ckM_use ck110_60 (by omega) (by omega) h
  exact ckM_use ck110_120 (by omega) (by omega) h
theorem ck111_0 : ckM 111 0 60 = true := by decide +kernel
theorem cke111 (pc : Nat) (e : In_) (h : (codeOf 111)[pc]? = some e) : ckE 111 (ownOf 111) (codeOf 111) (byOf 111) pc e = true := by
  have hl : pc < 22 := (List.getElem?_eq_some_iff.mp h).1
  exact ckM_use ck111_0 (by omega) (by omega) h
theorem ck112_0 : ckM 112 0 60 = true := by decide +kernel
theorem cke112 (pc : Nat) (e : In_) (h : (codeOf 112)[pc]? = some e) : ckE 112 (ownOf 112) (codeOf 112) (byOf 112) pc e = true := by
  have hl : pc < 18 := (List.getElem?_eq_some_iff.mp h).1
  exact ckM_use ck112_0 (by omega) (by omega) h
theorem ck113_0 : ckM 113 0 60 = true := by decide +kernel
theorem cke113 (pc : Nat) (e : In_) (h : (codeOf 113)[pc]? = some e) : ckE 113 (ownOf 113) (codeOf 113) (byOf 113) pc e = true := by
  have hl : pc < 51 := (List.getElem?_eq_some_iff.mp h).1
  exact ckM_use ck113_0 (by omega) (by omega) h
theorem ck114_0 : ckM 114 0 60 = true := by decide +kernel
theorem cke114 (pc : Nat) (e : In_) (h : (codeOf 114)[pc]? = some e) : ckE 114 (ownOf 114) (codeOf 114) (byOf 114) pc e = true := by
  have hl : pc < 15 := (List.getElem?_eq_some_iff.mp h).1
  exact ckM_use ck114_0 (by omega) (by omega) h
theorem ck115_0 : ckM 115 0 60 = true := by decide +kernel
theorem cke115 (pc : Nat) (e : In_) (h : (codeOf 115)[pc]? = some e) : ckE 115 (ownOf 115) (codeOf 115) (byOf 115) pc e = true := by
  have hl : pc < 8 := (List.getElem?_eq_some_iff.mp h).1
  exact ckM_use ck115_0 (by omega) (by omega) h
theorem ck116_0 : ckM 116 0 60 = true := by decide +kernel
theorem cke116 (pc : Nat) (e : In_) (h : (codeOf 116)[pc]? = some e) : ckE 116 (ownOf 116) (codeOf 116) (byOf 116) pc e = true := by
  have hl : pc < 41 := (List.getElem?_eq_some_iff.mp h).1
  exact ckM_use ck116_0 (by omega) (by omega) h
theorem ck117_0 : ckM 117 0 60 = true := by decide +kernel
theorem cke117 (pc : Nat) (e : In_) (h : (codeOf 117)[pc]? = some e) : ckE 117 (ownOf 117) (codeOf 117) (byOf 117) pc e = true := by
  have hl : pc < 23 := (List.getElem?_eq_some_iff.mp h).1
  exact ckM_use ck117_0 (by omega) (by omega) h
theorem ck118_0 : ckM 118 0 60 = true := by decide +kernel
theorem cke118 (pc : Nat) (e : In_) (h : (codeOf 118)[pc]? = some e) : ckE 118 (ownOf 118) (codeOf 118) (byOf 118) pc e = true := by
  have hl : pc < 11 := (List.getElem?_eq_some_iff.mp h).1
  exact ckM_use ck118_0 (by omega) (by omega) h
theorem ck119_0 : ckM 119 0 60 = true := by decide +kernel
theorem ck119_60 : ckM 119 60 60 = true := by decide +kernel
theorem cke119 (pc : Nat) (e : In_) (h : (codeOf 119)[pc]? = some e) : ckE 119 (ownOf 119) (codeOf 119) (byOf 119) pc e = true := by
  have hl : pc < 98 := (List.getElem?_eq_some_iff.mp h).1
  by_cases h0 : pc < 60
  · exact ckM_use ck119_0 (by omega) (by omega) h
  exact ckM_use ck119_60 (by omega) (by omega) h
theorem ck120_0 : ckM 120 0 60 = true := by decide +kernel
theorem ck120_60 : ckM 120 60 60 = true := by decide +kernel
theorem cke120 (pc : Nat) (e : In_) (h : (codeOf 120)[pc]? = some e) : ckE 120 (ownOf 120) (codeOf 120) (byOf 120) pc e = true := by
  have hl : pc < 65 := (List.getElem?_eq_some_iff.mp h).1
  by_cases h0 : pc < 60
  · exact ckM_use ck120_0 (by omega) (by omega) h
  exact ckM_use ck120_60 (by omega) (by omega) h
theorem ck121_0 : ckM 121 0 60 = true := by decide +kernel
theorem cke121 (pc : Nat) (e : In_) (h : (codeOf 121)[pc]? = some e) : ckE 121 (ownOf 121) (codeOf 121) (byOf 121) pc e = true := by
  have hl : pc < 21 := (List.getElem?_eq_some_iff.mp h).1
  exact ckM_use ck121_0 (by omega) (by omega) h
theorem ck122_0 : ckM 122 0 60 = true := by decide +kernel
theorem cke122 (pc : Nat) (e : In_) (h : (codeOf 122)[pc]? = some e) : ckE 122 (ownOf 122) (codeOf 122) (byOf 122) pc e = true := by
  have hl : pc < 26 := (List.getElem?_eq_some_iff.mp h).1
  exact ckM_use ck122_0 (by omega) (by omega) h
theorem ck123_0 : ckM 123 0 60 = true := by decide +kernel
theorem cke123 (pc : Nat) (e : In_) (h : (codeOf 123)[pc]? = some e) : ckE 123 (ownOf 123) (codeOf 123) (byOf 123) pc e = true := by
  have hl : pc < 57 := (List.getElem?_eq_some_iff.mp h).1
  exact ckM_use ck123_0 (by omega) (by omega) h
theorem ck124_0 : ckM 124 0 60 = true := by decide +kernel
theorem cke124 (pc : Nat) (e : In_) (h : (codeOf 124)[pc]? = some e) : ckE 124 (ownOf 124) (codeOf 124) (byOf 124) pc e = true := by
  have hl : pc < 22 := (List.getElem?_eq_some_iff.mp h).1
  exact ckM_use ck124_0 (by omega) (by omega) h
theorem ck125_0 : ckM 125 0 60 = true := by decide +kernel
theorem cke125 (pc : Nat) (e : In_) (h : (codeOf 125)[pc]? = some e) : ckE 125 (ownOf 125) (codeOf 125) (byOf 125) pc e = true := by
  have hl : pc < 42 := (List.getElem?_eq_some_iff.mp h).1
  exact ckM_use ck125_0 (by omega) (by omega) h
theorem ck126_0 : ckM 126 0 60 = true := by decide +kernel
theorem ck126_60 : ckM 126 60 60 = true := by decide +kernel
theorem cke126 (pc : Nat) (e : In_) (h : (codeOf 126)[pc]? = some e) : ckE 126 (ownOf 126) (codeOf 126) (byOf 126) pc e = true := by
  have hl : pc < 64 := (List.getElem?_eq_some_iff.mp h).1
  by_cases h0 : pc < 60
  · exact ckM_use ck126_0 (by omega) (by omega) h
  exact ckM_use ck126_60 (by omega) (by omega) h
theorem ck127_0 : ckM 127 0 60 = true := by decide +kernel
theorem cke127 (pc : Nat) (e : In_) (h : (codeOf 127)[pc]? = some e) : ckE 127 (ownOf 127) (codeOf 127) (byOf 127) pc e = true := by
  have hl : pc < 10 := (List.getElem?_eq_some_iff.mp h).1
  exact ckM_use ck127_0 (by omega) (by omega) h
theorem ck128_0 : ckM 128 0 60 = true := by decide +kernel
theorem cke128 (pc : Nat) (e : In_) (h : (codeOf 128)[pc]? = some e) : ckE 128 (ownOf 128) (codeOf 128) (byOf 128) pc e = true := by
  have hl : pc < 28 := (List.getElem?_eq_some_iff.mp h).1
  exact ckM_use ck128_0 (by omega) (by omega) h
theorem ck129_0 : ckM 129 0 60 = true := by decide +kernel
theorem cke129 (pc : Nat) (e : In_) (h : (codeOf 129)[pc]? = some e) : ckE 129 (ownOf 129) (codeOf 129) (byOf 129) pc e = true := by
  have hl : pc < 26 := (List.getElem?_eq_some_iff.mp h).1
  exact ckM_use ck129_0 (by omega) (by omega) h
theorem ck130_0 : ckM 130 0 60 = true := by decide +kernel
theorem cke130 (pc : Nat) (e : In_) (h : (codeOf 130)[pc]? = some e) : ckE 130 (ownOf 130) (codeOf 130) (byOf 130) pc e = true := by
  have hl : pc < 32 := (List.getElem?_eq_some_iff.mp h).1
  exact ckM_use ck130_0 (by omega) (by omega) h
theorem ck131_0 : ckM 131 0 60 = true := by decide +kernel
theorem cke131 (pc : Nat) (e : In_) (h : (codeOf 131)[pc]? = some e) : ckE 131 (ownOf 131) (codeOf 131) (byOf 131) pc e = true := by
  have hl : pc < 51 := (List.getElem?_eq_some_iff.mp h).1
  exact ckM_use ck131_0 (by omega) (by omega) h
theorem ck132_0 : ckM 132 0 60 = true := by decide +kernel
theorem ck132_60 : ckM 132 60 60 = true := by decide +kernel
theorem cke132 (pc : Nat) (e : In_) (h : (codeOf 132)[pc]? = some e) : ckE 132 (ownOf 132) (codeOf 132) (byOf 132) pc e = true := by
  have hl : pc < 62 := (List.getElem?_eq_some_iff.mp h).1
  by_cases h0 : pc < 60
  · exact ckM_use ck132_0 (by omega) (by omega) h
  exact ckM_use ck132_60 (by omega) (by omega) h
theorem ck133_0 : ckM 133 0 60 = true := by decide +kernel
theorem cke133 (pc : Nat) (e : In_) (h : (codeOf 133)[pc]? = some e) : ckE 133 (ownOf 133) (codeOf 133) (byOf 133) pc e = true := by
  have hl : pc < 22 := (List.getElem?_eq_some_iff.mp h).1
  exact ckM_use ck133_0 (by omega) (by omega) h
theorem ck134_0 : ckM 134 0 60 = true := by decide +kernel
theorem ck134_60 : ckM 134 60 60 = true := by decide +kernel
theorem ck134_120 : ckM 134 120 60 = true := by decide +kernel
theorem cke134 (pc : Nat) (e : In_) (h : (codeOf 134)[pc]? = some e) : ckE 134 (ownOf 134) (codeOf 134) (byOf 134) pc e = true := by
  have hl : pc < 134 := (List.getElem?_eq_some_iff.mp h).1
  by_cases h0 : pc < 60
  · exact ckM_use ck134_0 (by omega) (by omega) h
  by_cases h60 : pc < 120
  · exact ckM_use ck134_60 (by omega) (by omega) h
  exact ckM_use ck134_120 (by omega) (by omega) h
theorem ck135_0 : ckM 135 0 60 = true := by decide +kernel
theorem ck135_60 : ckM 135 60 60 = true := by decide +kernel
theorem cke135 (pc : Nat) (e : In_) (h : (codeOf 135)[pc]? = some e) : ckE 135 (ownOf 135) (codeOf 135) (byOf 135) pc e = true := by
  have hl : pc < 99 := (List.getElem?_eq_some_iff.mp h).1
  by_cases h0 : pc < 60
  · exact ckM_use ck135_0 (by omega) (by omega) h
  exact ckM_use ck135_60 (by omega) (by omega) h
theorem ck136_0 : ckM 136 0 60 = true := by decide +kernel
theorem ck136_60 : ckM 136 60 60 = true := by decide +kernel
theorem cke136 (pc : Nat) (e : In_) (h : (codeOf 136)[pc]? = some e) : ckE 136 (ownOf 136) (codeOf 136) (byOf 136) pc e = true := by
  have hl : pc < 109 := (List.getElem?_eq_some_iff.mp h).1
  by_cases h0 : pc < 60
  · exact ckM_use ck136_0 (by omega) (by omega) h
  exact ckM_use ck136_60 (by omega) (by omega) h
theorem ck137_0 : ckM 137 0 60 = true := by decide +kernel
theorem cke137 (pc : Nat) (e : In_) (h : (codeOf 137)[pc]? = some e) : ckE 137 (ownOf 137) (codeOf 137) (byOf 137) pc e = true := by
  have hl : pc < 37 := (List.getElem?_eq_some_iff.mp h).1
  exact ckM_use ck137_0 (by omega) (by omega) h
theorem ck138_0 : ckM 138 0 60 = true := by decide +kernel
theorem ck138_60 : ckM 138 60 60 = true := by decide +kernel
theorem cke138 (pc : Nat) (e : In_) (h : (codeOf 138)[pc]? = some e) : ckE 138 (ownOf 138) (codeOf 138) (byOf 138) pc e = true := by
  have hl : pc < 69 := (List.getElem?_eq_some_iff.mp h).1
  by_cases h0 : pc < 60
  · exact ckM_use ck138_0 (by omega) (by omega) h
  exact ckM_use ck138_60 (by omega) (by omega) h
theorem ck139_0 : ckM 139 0 60 = true := by decide +kernel
theorem ck139_60 : ckM 139 60 60 = true := by decide +kernel
theorem cke139 (pc : Nat) (e : In_) (h : (codeOf 139)[pc]? = some e) : ckE 139 (ownOf 139) (codeOf 139) (byOf 139) pc e = true := by
  have hl : pc < 84 := (List.getElem?_eq_some_iff.mp h).1
  by_cases h0 : pc < 60
  · exact ckM_use ck139_0 (by omega) (by omega) h
  exact ckM_use ck139_60 (by omega) (by omega) h
theorem ck140_0 : ckM 140 0 60 = true := by decide +kernel
theorem ck140_60 : ckM 140 60 60 = true := by decide +kernel
theorem cke140 (pc : Nat) (e : In_) (h : (codeOf 140)[pc]? = some e) : ckE 140 (ownOf 140) (codeOf 140) (byOf 140) pc e = true := by
  have hl : pc < 68 := (List.getElem?_eq_some_iff.mp h).1
  by_cases h0 : pc < 60
  · exact ckM_use ck140_0 (by omega) (by omega) h
  exact ckM_use ck140_60 (by omega) (by omega) h
theorem ck141_0 : ckM 141 0 60 = true := by decide +kernel
theorem ck141_60 : ckM 141 60 60 = true := by decide +kernel
theorem ck141_120 : ckM 141 120 60 = true := by decide +kernel
theorem cke141 (pc : Nat) (e : In_) (h : (codeOf 141)[pc]? = some e) : ckE 141 (ownOf 141) (codeOf 141) (byOf 141) pc e = true := by
  have hl : pc < 146 := (List.getElem?_eq_some_iff.mp h).1
  by_cases h0 : pc < 60
  · exact ckM_use ck141_0 (by omega) (by omega) h
  by_cases h60 : pc < 120
  · exact ckM_use ck141_60 (by omega) (by omega) h
  exact ckM_use ck141_120 (by omega) (by omega) h
theorem ck142_0 : ckM 142 0 60 = true := by decide +kernel
theorem cke142 (pc : Nat) (e : In_) (h : (codeOf 142)[pc]? = some e) : ckE 142 (ownOf 142) (codeOf 142) (byOf 142) pc e = true := by
  have hl : pc < 21 := (List.getElem?_eq_some_iff.mp h).1
  exact ckM_use ck142_0 (by omega) (by omega) h
theorem ck143_0 : ckM 143 0 60 = true := by decide +kernel
theorem ck143_60 : ckM 143 60 60 = true := by decide +kernel
theorem cke143 (pc : Nat) (e : In_) (h : (codeOf 143)[pc]? = some e) : ckE 143 (ownOf 143) (codeOf 143) (byOf 143) pc e = true := by
  have hl : pc < 109 := (List.getElem?_eq_some_iff.mp h).1
  by_cases h0 : pc < 60
  · exact ckM_use ck143_0 (by omega) (by omega) h
  exact ckM_use ck143_60 (by omega) (by omega) h
theorem ck144_0 : ckM 144 0 60 = true := by decide +kernel
theorem cke144 (pc : Nat) (e : In_) (h : (codeOf 144)[pc]? = some e) : ckE 144 (ownOf 144) (codeOf 144) (byOf 144) pc e = true := by
  have hl : pc < 14 := (List.getElem?_eq_some_iff.mp h).1
  exact ckM_use ck144_0 (by omega) (by omega) h
theorem ck145_0 : ckM 145 0 60 = true := by decide +kernel
theorem ck145_60 : ckM 145 60 60 = true := by decide +kernel
theorem cke145 (pc : Nat) (e : In_) (h : (codeOf 145)[pc]? = some e) : ckE 145 (ownOf 145) (codeOf 145) (byOf 145) pc e = true := by
  have hl : pc < 107 := (List.getElem?_eq_some_iff.mp h).1
  by_cases h0 : pc < 60
  · exact ckM_use ck145_0 (by omega) (by omega) h
  exact ckM_use ck145_60 (by omega) (by omega) h
theorem ck146_0 : ckM 146 0 60 = true := by decide +kernel
theorem cke146 (pc : Nat) (e : In_) (h : (codeOf 146)[pc]? = some e) : ckE 146 (ownOf 146) (codeOf 146) (byOf 146) pc e = true := by
  have hl : pc < 5 := (List.getElem?_eq_some_iff.mp h).1
  exact ckM_use ck146_0 (by omega) (by omega) h
theorem ck147_0 : ckM 147 0 60 = true := by decide +kernel
theorem cke147 (pc : Nat) (e : In_) (h : (codeOf 147)[pc]? = some e) : ckE 147 (ownOf 147) (codeOf 147) (byOf 147) pc e = true := by
  have hl : pc < 41 := (List.getElem?_eq_some_iff.mp h).1
  exact ckM_use ck147_0 (by omega) (by omega) h
theorem ck148_0 : ckM 148 0 60 = true := by decide +kernel
theorem cke148 (pc : Nat) (e : In_) (h : (codeOf 148)[pc]? = some e) : ckE 148 (ownOf 148) (codeOf 148) (byOf 148) pc e = true := by
  have hl : pc < 12 := (List.getElem?_eq_some_iff.mp h).1
  exact ckM_use ck148_0 (by omega) (by omega) h
theorem ck149_0 : ckM 149 0 60 = true := by decide +kernel
theorem cke149 (pc : Nat) (e : In_) (h : (codeOf 149)[pc]? = some e) : ckE 149 (ownOf 149) (codeOf 149) (byOf 149) pc e = true := by
  have hl : pc < 17 := (List.getElem?_eq_some_iff.mp h).1
  exact ckM_use ck149_0 (by omega) (by omega) h
theorem ck150_0 : ckM 150 0 60 = true := by decide +kernel
theorem cke150 (pc : Nat) (e : In_) (h : (codeOf 150)[pc]? = some e) : ckE 150 (ownOf 150) (codeOf 150) (byOf 150) pc e = true := by
  have hl : pc < 45 := (List.getElem?_eq_some_iff.mp h).1
  exact ckM_use ck150_0 (by omega) (by omega) h
theorem ck151_0 : ckM 151 0 60 = true := by decide +kernel
theorem cke151 (pc : Nat) (e : In_) (h : (codeOf 151)[pc]? = some e) : ckE 151 (ownOf 151) (codeOf 151) (byOf 151) pc e = true := by
  have hl : pc < 43 := (List.getElem?_eq_some_iff.mp h).1
  exact ckM_use ck151_0 (by omega) (by omega) h
theorem ck152_0 : ckM 152 0 60 = true := by decide +kernel
theorem cke152 (pc : Nat) (e : In_) (h : (codeOf 152)[pc]? = some e) : ckE 152 (ownOf 152) (codeOf 152) (byOf 152) pc e = true := by
  have hl : pc < 42 := (List.getElem?_eq_some_iff.mp h).1
  exact ckM_use ck152_0 (by omega) (by omega) h
theorem ck153_0 : ckM 153 0 60 = true := by decide +kernel
theorem cke153 (pc : Nat) (e : In_) (h : (codeOf 153)[pc]? = some e) : ckE 153 (ownOf 153) (codeOf 153) (byOf 153) pc e = true := by
  have hl : pc < 47 := (List.getElem?_eq_some_iff.mp h).1
  exact ckM_use ck153_0 (by omega) (by omega) h
theorem ck154_0 : ckM 154 0 60 = true := by decide +kernel
theorem cke154 (pc : Nat) (e : In_) (h : (codeOf 154)[pc]? = some e) : ckE 154 (ownOf 154) (codeOf 154) (byOf 154) pc e = true := by
  have hl : pc < 18 := (List.getElem?_eq_some_iff.mp h).1
  exact ckM_use ck154_0 (by omega) (by omega) h
theorem ck155_0 : ckM 155 0 60 = true := by decide +kernel
theorem cke155 (pc : Nat) (e : In_) (h : (codeOf 155)[pc]? = some e) : ckE 155 (ownOf 155) (codeOf 155) (byOf 155) pc e = true := by
  have hl : pc < 35 := (List.getElem?_eq_some_iff.mp h).1
  exact ckM_use ck155_0 (by omega) (by omega) h
theorem ck156_0 : ckM 156 0 60 = true := by decide +kernel
theorem cke156 (pc : Nat) (e : In_) (h : (codeOf 156)[pc]? = some e) : ckE 156 (ownOf 156) (codeOf 156) (byOf 156) pc e = true := by
  have hl : pc < 52 := (List.getElem?_eq_some_iff.mp h).1
  exact ckM_use ck156_0 (by omega) (by omega) h
theorem ck157_0 : ckM 157 0 60 = true := by decide +kernel
theorem cke157 (pc : Nat) (e : In_) (h : (codeOf 157)[pc]? = some e) : ckE 157 (ownOf 157) (codeOf 157) (byOf 157) pc e = true := by
  have hl : pc < 42 := (List.getElem?_eq_some_iff.mp h).1
  exact ckM_use ck157_0 (by omega) (by omega) h
theorem ck158_0 : ckM 158 0 60 = true := by decide +kernel
theorem cke158 (pc : Nat) (e : In_) (h : (codeOf 158)[pc]? = some e) : ckE 158 (ownOf 158) (codeOf 158) (byOf 158) pc e = true := by
  have hl : pc < 42 := (List.getElem?_eq_some_iff.mp h).1
  exact ckM_use ck158_0 (by omega) (by omega) h
theorem ck159_0 : ckM 159 0 60 = true := by decide +kernel
theorem cke159 (pc : Nat) (e : In_) (h : (codeOf 159)[pc]? = some e) : ckE 159 (ownOf 159) (codeOf 159) (byOf 159) pc e = true := by
  have hl : pc < 51 := (List.getElem?_eq_some_iff.mp h).1
  exact ckM_use ck159_0 (by omega) (by omega) h
theorem ck160_0 : ckM 160 0 60 = true := by decide +kernel
theorem cke160 (pc : Nat) (e : In_) (h : (codeOf 160)[pc]? = some e) : ckE 160 (ownOf 160) (codeOf 160) (byOf 160) pc e = true := by
  have hl : pc < 17 := (List.getElem?_eq_some_iff.mp h).1
  exact ckM_use ck160_0 (by omega) (by omega) h
theorem ck161_0 : ckM 161 0 60 = true := by decide +kernel
theorem cke161 (pc : Nat) (e : In_) (h : (codeOf 161)[pc]? = some e) : ckE 161 (ownOf 161) (codeOf 161) (byOf 161) pc e = true := by
  have hl : pc < 19 := (List.getElem?_eq_some_iff.mp h).1
  exact ckM_use ck161_0 (by omega) (by omega) h
theorem ck162_0 : ckM 162 0 60 = true := by decide +kernel
theorem ck162_60 : ckM 162 60 60 = true := by decide +kernel
theorem cke162 (pc : Nat) (e : In_) (h : (codeOf 162)[pc]? = some e) : ckE 162 (ownOf 162) (codeOf 162) (byOf 162) pc e = true := by
  have hl : pc < 87 := (List.getElem?_eq_some_iff.mp h).1
  by_cases h0 : pc < 60
  · exact ckM_use ck162_0 (by omega) (by omega) h
  exact ckM_use ck162_60 (by omega) (by omega) h
theorem ck163_0 : ckM 163 0 60 = true := by decide +kernel
theorem ck163_60 : ckM 163 60 60 = true := by decide +kernel
theorem cke163 (pc : Nat) (e : In_) (h : (codeOf 163)[pc]? = some e) : ckE 163 (ownOf 163) (codeOf 163) (byOf 163) pc e = true := by
  have hl : pc < 62 := (List.getElem?_eq_some_iff.mp h).1
  by_cases h0 : pc < 60
  · exact ckM_use ck163_0 (by omega) (by omega) h
  exact ckM_use ck163_60 (by omega) (by omega) h
theorem ck164_0 : ckM 164 0 60 = true := by decide +kernel
theorem ck164_60 : ckM 164 60 60 = true := by decide +kernel
theorem cke164 (pc : Nat) (e : In_) (h : (codeOf 164)[pc]? = some e) : ckE 164 (ownOf 164) (codeOf 164) (byOf 164) pc e = true := by
  have hl : pc < 68 := (List.getElem?_eq_some_iff.mp h).1
  by_cases h0 : pc < 60
  · exact ckM_use ck164_0 (by omega) (by omega) h
  exact ckM_use ck164_60 (by omega) (by omega) h
theorem ck165_0 : ckM 165 0 60 = true := by decide +kernel
theorem ck165_60 : ckM 165 60 60 = true := by decide +kernel
theorem cke165 (pc : Nat) (e : In_) (h : (codeOf 165)[pc]? = some e) : ckE 165 (ownOf 165) (codeOf 165) (byOf 165) pc e = true := by
  have hl : pc < 98 := (List.getElem?_eq_some_iff.mp h).1
  by_cases h0 : pc < 60
  · exact ckM_use ck165_0 (by omega) (by omega) h
  exact ckM_use ck165_60 (by omega) (by omega) h
theorem ck166_0 : ckM 166 0 60 = true := by decide +kernel
theorem cke166 (pc : Nat) (e : In_) (h : (codeOf 166)[pc]? = some e) : ckE 166 (ownOf 166) (codeOf 166) (byOf 166) pc e = true := by
  have hl : pc < 20 := (List.getElem?_eq_some_iff.mp h).1
  exact ckM_use ck166_0 (by omega) (by omega) h
theorem ck167_0 : ckM 167 0 60 = true := by decide +kernel
theorem ck167_60 : ckM 167 60 60 = true := by decide +kernel
theorem cke167 (pc : Nat) (e : In_) (h : (codeOf 167)[pc]? = some e) : ckE 167 (ownOf 167) (codeOf 167) (byOf 167) pc e = true := by
  have hl : pc < 64 := (List.getElem?_eq_some_iff.mp h).1
  by_cases h0 : pc < 60
  · exact ckM_use ck167_0 (by omega) (by omega) h
  exact ckM_use ck167_60 (by omega) (by omega) h
theorem ck168_0 : ckM 168 0 60 = true := by decide +kernel
theorem cke168 (pc : Nat) (e : In_) (h : (codeOf 168)[pc]? = some e) : ckE 168 (ownOf 168) (codeOf 168) (byOf 168) pc e = true := by
  have hl : pc < 47 := (List.getElem?_eq_some_iff.mp h).1
  exact ckM_use ck168_0 (by omega) (by omega) h
theorem ck169_0 : ckM 169 0 60 = true := by decide +kernel
theorem ck169_60 : ckM 169 60 60 = true := by decide +kernel
theorem cke169 (pc : Nat) (e : In_) (h : (codeOf 169)[pc]? = some e) : ckE 169 (ownOf 169) (codeOf 169) (byOf 169) pc e = true := by
  have hl : pc < 105 := (List.getElem?_eq_some_iff.mp h).1
  by_cases h0 : pc < 60
  · exact ckM_use ck169_0 (by omega) (by omega) h
  exact ckM_use ck169_60 (by omega) (by omega) h
theorem ck170_0 : ckM 170 0 60 = true := by decide +kernel
theorem ck170_60 : ckM 170 60 60 = true := by decide +kernel
theorem cke170 (pc : Nat) (e : In_) (h : (codeOf 170)[pc]? = some e) : ckE 170 (ownOf 170) (codeOf 170) (byOf 170) pc e = true := by
  have hl : pc < 63 := (List.getElem?_eq_some_iff.mp h).1
  by_cases h0 : pc < 60
  · exact ckM_use ck170_0 (by omega) (by omega) h
  exact ckM_use ck170_60 (by omega) (by omega) h
theorem ck171_0 : ckM 171 0 60 = true := by decide +kernel
theorem cke171 (pc : Nat) (e : In_) (h : (codeOf 171)[pc]? = some e) : ckE 171 (ownOf 171) (codeOf 171) (byOf 171) pc e = true := by
  have hl : pc < 29 := (List.getElem?_eq_some_iff.mp h).1
  exact ckM_use ck171_0 (by omega) (by omega) h
theorem ck172_0 : ckM 172 0 60 = true := by decide +kernel
theorem cke172 (pc : Nat) (e : In_) (h : (codeOf 172)[pc]? = some e) : ckE 172 (ownOf 172) (codeOf 172) (byOf 172) pc e = true := by
  have hl : pc < 26 := (List.getElem?_eq_some_iff.mp h).1
  exact ckM_use ck172_0 (by omega) (by omega) h
theorem ck173_0 : ckM 173 0 60 = true := by decide +kernel
theorem ck173_60 : ckM 173 60 60 = true := by decide +kernel
theorem cke173 (pc : Nat) (e : In_) (h : (codeOf 173)[pc]? = some e) : ckE 173 (ownOf 173) (codeOf 173) (byOf 173) pc e = true := by
  have hl : pc < 61 := (List.getElem?_eq_some_iff.mp h).1
  by_cases h0 : pc < 60
  · exact ckM_use ck173_0 (by omega) (by omega) h
  exact ckM_use ck173_60 (by omega) (by omega) h
theorem ck174_0 : ckM 174 0 60 = true := by decide +kernel
theorem cke174 (pc : Nat) (e : In_) (h : (codeOf 174)[pc]? = some e) : ckE 174 (ownOf 174) (codeOf 174) (byOf 174) pc e = true := by
  have hl : pc < 34 := (List.getElem?_eq_some_iff.mp h).1
  exact ckM_use ck174_0 (by omega) (by omega) h
theorem ck175_0 : ckM 175 0 60 = true := by decide +kernel
theorem cke175 (pc : Nat) (e : In_) (h : (codeOf 175)[pc]? = some e) : ckE 175 (ownOf 175) (codeOf 175) (byOf 175) pc e = true := by
  have hl : pc < 15 := (List.getElem?_eq_some_iff.mp h).1
  exact ckM_use ck175_0 (by omega) (by omega) h
theorem ck176_0 : ckM 176 0 60 = true := by decide +kernel
theorem cke176 (pc : Nat) (e : In_) (h : (codeOf 176)[pc]? = some e) : ckE 176 (ownOf 176) (codeOf 176) (byOf 176) pc e = true := by
  have hl : pc < 15 := (List.getElem?_eq_some_iff.mp h).1
  exact ckM_use ck176_0 (by omega) (by omega) h
theorem ck177_0 : ckM 177 0 60 = true := by decide +kernel
theorem cke177 (pc : Nat) (e : In_) (h : (codeOf 177)[pc]? = some e) : ckE 177 (ownOf 177) (codeOf 177) (byOf 177) pc e = true := by
  have hl : pc < 47 := (List.getElem?_eq_some_iff.mp h).1
  exact ckM_use ck177_0 (by omega) (by omega) h
theorem ck178_0 : ckM 178 0 60 = true := by decide +kernel
theorem cke178 (pc : Nat) (e : In_) (h : (codeOf 178)[pc]? = some e) : ckE 178 (ownOf 178) (codeOf 178) (byOf 178) pc e = true := by
  have hl : pc < 10 := (List.getElem?_eq_some_iff.mp h).1
  exact ckM_use ck178_0 (by omega) (by omega) h
theorem ck179_0 : ckM 179 0 60 = true := by decide +kernel
theorem ck179_60 : ckM 179 60 60 = true := by decide +kernel
theorem cke179 (pc : Nat) (e : In_) (h : (codeOf 179)[pc]? = some e) : ckE 179 (ownOf 179) (codeOf 179) (byOf 179) pc e = true := by
  have hl : pc < 76 := (List.getElem?_eq_some_iff.mp h).1
  by_cases h0 : pc < 60
  · exact ckM_use ck179_0 (by omega) (by omega) h
  exact ckM_use ck179_60 (by omega) (by omega) h
theorem ck180_0 : ckM 180 0 60 = true := by decide +kernel
theorem cke180 (pc : Nat) (e : In_) (h : (codeOf 180)[pc]? = some e) : ckE 180 (ownOf 180) (codeOf 180) (byOf 180) pc e = true := by
  have hl : pc < 47 := (List.getElem?_eq_some_iff.mp h).1
  exact ckM_use ck180_0 (by omega) (by omega) h
theorem ck181_0 : ckM 181 0 60 = true := by decide +kernel
theorem cke181 (pc : Nat) (e : In_) (h : (codeOf 181)[pc]? = some e) : ckE 181 (ownOf 181) (codeOf 181) (byOf 181) pc e = true := by
  have hl : pc < 23 := (List.getElem?_eq_some_iff.mp h).1
  exact ckM_use ck181_0 (by omega) (by omega) h
theorem ck182_0 : ckM 182 0 60 = true := by decide +kernel
theorem cke182 (pc : Nat) (e : In_) (h : (codeOf 182)[pc]? = some e) : ckE 182 (ownOf 182) (codeOf 182) (byOf 182) pc e = true := by
  have hl : pc < 30 := (List.getElem?_eq_some_iff.mp h).1
  exact ckM_use ck182_0 (by omega) (by omega) h
theorem ck183_0 : ckM 183 0 60 = true := by decide +kernel
theorem cke183 (pc : Nat) (e : In_) (h : (codeOf 183)[pc]? = some e) : ckE 183 (ownOf 183) (codeOf 183) (byOf 183) pc e = true := by
  have hl : pc < 29 := (List.getElem?_eq_some_iff.mp h).1
  exact ckM_use ck183_0 (by omega) (by omega) h
theorem ck184_0 : ckM 184 0 60 = true := by decide +kernel
theorem cke184 (pc : Nat) (e : In_) (h : (codeOf 184)[pc]? = some e) : ckE 184 (ownOf 184) (codeOf 184) (byOf 184) pc e = true := by
  have hl : pc < 30 := (List.getElem?_eq_some_iff.mp h).1
  exact ckM_use ck184_0 (by omega) (by omega) h
theorem ck185_0 : ckM 185 0 60 = true := by decide +kernel
theorem cke185 (pc : Nat) (e : In_) (h : (codeOf 185)[pc]? = some e) : ckE 185 (ownOf 185) (codeOf 185) (byOf 185) pc e = true := by
  have hl : pc < 19 := (List.getElem?_eq_some_iff.mp h).1
  exact ckM_use ck185_0 (by omega) (by omega) h
theorem ck186_0 : ckM 186 0 60 = true := by decide +kernel
theorem cke186 (pc : Nat) (e : In_) (h : (codeOf 186)[pc]? = some e) : ckE 186 (ownOf 186) (codeOf 186) (byOf 186) pc e = true := by
  have hl : pc < 59 := (List.getElem?_eq_some_iff.mp h).1
  exact ckM_use ck186_0 (by omega) (by omega) h
theorem ck187_0 : ckM 187 0 60 = true := by decide +kernel
theorem cke187 (pc : Nat) (e : In_) (h : (codeOf 187)[pc]? = some e) : ckE 187 (ownOf 187) (codeOf 187) (byOf 187) pc e = true := by
  have hl : pc < 23 := (List.getElem?_eq_some_iff.mp h).1
  exact ckM_use ck187_0 (by omega) (by omega) h
theorem ck188_0 : ckM 188 0 60 = true := by decide +kernel
theorem cke188 (pc : Nat) (e : In_) (h : (codeOf 188)[pc]? = some e) : ckE 188 (ownOf 188) (codeOf 188) (byOf 188) pc e = true := by
  have hl : pc < 40 := (List.getElem?_eq_some_iff.mp h).1
  exact ckM_use ck188_0 (by omega) (by omega) h
theorem ck189_0 : ckM 189 0 60 = true := by decide +kernel
theorem cke189 (pc : Nat) (e : In_) (h : (codeOf 189)[pc]? = some e) : ckE 189 (ownOf 189) (codeOf 189) (byOf 189) pc e = true := by
  have hl : pc < 47 := (List.getElem?_eq_some_iff.mp h).1
  exact ckM_use ck189_0 (by omega) (by omega) h
theorem ck190_0 : ckM 190 0 60 = true := by decide +kernel
theorem cke190 (pc : Nat) (e : In_) (h : (codeOf 190)[pc]? = some e) : ckE 190 (ownOf 190) (codeOf 190) (byOf 190) pc e = true := by
  have hl : pc < 38 := (List.getElem?_eq_some_iff.mp h).1
  exact ckM_use ck190_0 (by omega) (by omega) h
theorem ck191_0 : ckM 191 0 60 = true := by decide +kernel
theorem cke191 (pc : Nat) (e : In_) (h : (codeOf 191)[pc]? = some e) : ckE 191 (ownOf 191) (codeOf 191) (byOf 191) pc e = true := by
  have hl : pc < 31 := (List.getElem?_eq_some_iff.mp h).1
  exact ckM_use ck191_0 (by omega) (by omega) h
theorem ck192_0 : ckM 192 0 60 = true := by decide +kernel
theorem cke192 (pc : Nat) (e : In_) (h : (codeOf 192)[pc]? = some e) : ckE 192 (ownOf 192) (codeOf 192) (byOf 192) pc e = true := by
  have hl : pc < 17 := (List.getElem?_eq_some_iff.mp h).1
  exact ckM_use ck192_0 (by omega) (by omega) h
theorem ck193_0 : ckM 193 0 60 = true := by decide +kernel
theorem cke193 (pc : Nat) (e : In_) (h : (codeOf 193)[pc]? = some e) : ckE 193 (ownOf 193) (codeOf 193) (byOf 193) pc e = true := by
  have hl : pc < 47 := (List.getElem?_eq_some_iff.mp h).1
  exact ckM_use ck193_0 (by omega) (by omega) h
theorem ck194_0 : ckM 194 0 60 = true := by decide +kernel
theorem cke194 (pc : Nat) (e : In_) (h : (codeOf 194)[pc]? = some e) : ckE 194 (ownOf 194) (codeOf 194) (byOf 194) pc e = true := by
  have hl : pc < 14 := (List.getElem?_eq_some_iff.mp h).1
  exact ckM_use ck194_0 (by omega) (by omega) h
theorem ck195_0 : ckM 195 0 60 = true := by decide +kernel
theorem cke195 (pc : Nat) (e : In_) (h : (codeOf 195)[pc]? = some e) : ckE 195 (ownOf 195) (codeOf 195) (byOf 195) pc e = true := by
  have hl : pc < 48 := (List.getElem?_eq_some_iff.mp h).1
  exact ckM_use ck195_0 (by omega) (by omega) h
theorem ck196_0 : ckM 196 0 60 = true := by decide +kernel
theorem cke196 (pc : Nat) (e : In_) (h : (codeOf 196)[pc]? = some e) : ckE 196 (ownOf 196) (codeOf 196) (byOf 196) pc e = true := by
  have hl : pc < 18 := (List.getElem?_eq_some_iff.mp h).1
  exact ckM_use ck196_0 (by omega) (by omega) h
theorem ck197_0 : ckM 197 0 60 = true := by decide +kernel
theorem cke197 (pc : Nat) (e : In_) (h : (codeOf 197)[pc]? = some e) : ckE 197 (ownOf 197) (codeOf 197) (byOf 197) pc e = true := by
  have hl : pc < 57 := (List.getElem?_eq_some_iff.mp h).1
  exact ckM_use ck197_0 (by omega) (by omega) h
theorem ck198_0 : ckM 198 0 60 = true := by decide +kernel
theorem cke198 (pc : Nat) (e : In_) (h : (codeOf 198)[pc]? = some e) : ckE 198 (ownOf 198) (codeOf 198) (byOf 198) pc e = true := by
  have hl : pc < 29 := (List.getElem?_eq_some_iff.mp h).1
  exact ckM_use ck198_0 (by omega) (by omega) h
theorem ck199_0 : ckM 199 0 60 = true := by decide +kernel
theorem ck199_60 : ckM 199 60 60 = true := by decide +kernel
theorem cke199 (pc : Nat) (e : In_) (h : (codeOf 199)[pc]? = some e) : ckE 199 (ownOf 199) (codeOf 199) (byOf 199) pc e = true := by
  have hl : pc < 61 := (List.getElem?_eq_some_iff.mp h).1
  by_cases h0 : pc < 60
  · exact ckM_use ck199_0 (by omega) (by omega) h
  exact ckM_use ck199_60 (by omega) (by omega) h
theorem ck200_0 : ckM 200 0 60 = true := by decide +kernel
theorem cke200 (pc : Nat) (e : In_) (h : (codeOf 200)[pc]? = some e) : ckE 200 (ownOf 200) (codeOf 200) (byOf 200) pc e = true := by
  have hl : pc < 24 := (List.getElem?_eq_some_iff.mp h).1
  exact ckM_use ck200_0 (by omega) (by omega) h
theorem ck201_0 : ckM 201 0 60 = true := by decide +kernel
theorem ck201_60 : ckM 201 60 60 = true := by decide +kernel
theorem cke201 (pc : Nat) (e : In_) (h : (codeOf 201)[pc]? = some e) : ckE 201 (ownOf 201) (codeOf 201) (byOf 201) pc e = true := by
  have hl : pc < 118 := (List.getElem?_eq_some_iff.mp h).1
  by_cases h0 : pc < 60
  · exact ckM_use ck201_0 (by omega) (by omega) h
  exact ckM_use ck201_60 (by omega) (by omega) h
theorem ck202_0 : ckM 202 0 60 = true := by decide +kernel
theorem cke202 (pc : Nat) (e : In_) (h : (codeOf 202)[pc]? = some e) : ckE 202 (ownOf 202) (codeOf 202) (byOf 202) pc e = true := by
  have hl : pc < 29 := (List.getElem?_eq_some_iff.mp h).1
  exact ckM_use ck202_0 (by omega) (by omega) h
theorem ck203_0 : ckM 203 0 60 = true := by decide +kernel
theorem cke203 (pc : Nat) (e : In_) (h : (codeOf 203)[pc]? = some e) : ckE 203 (ownOf 203) (codeOf 203) (byOf 203) pc e = true := by
  have hl : pc < 49 := (List.getElem?_eq_some_iff.mp h).1
  exact ckM_use ck203_0 (by omega) (by omega) h
theorem ck204_0 : ckM 204 0 60 = true := by decide +kernel
theorem ck204_60 : ckM 204 60 60 = true := by decide +kernel
theorem cke204 (pc : Nat) (e : In_) (h : (codeOf 204)[pc]? = some e) : ckE 204 (ownOf 204) (codeOf 204) (byOf 204) pc e = true := by
  have hl : pc < 75 := (List.getElem?_eq_some_iff.mp h).1
  by_cases h0 : pc < 60
  · exact ckM_use ck204_0 (by omega) (by omega) h
  exact ckM_use ck204_60 (by omega) (by omega) h
theorem ck205_0 : ckM 205 0 60 = true := by decide +kernel
theorem cke205 (pc : Nat) (e : In_) (h : (codeOf 205)[pc]? = some e) : ckE 205 (ownOf 205) (codeOf 205) (byOf 205) pc e = true := by
  have hl : pc < 55 := (List.getElem?_eq_some_iff.mp h).1
  exact ckM_use ck205_0 (by omega) (by omega) h
theorem ck206_0 : ckM 206 0 60 = true := by decide +kernel
theorem cke206 (pc : Nat) (e : In_) (h : (codeOf 206)[pc]? = some e) : ckE 206 (ownOf 206) (codeOf 206) (byOf 206) pc e = true := by
  have hl : pc < 57 := (List.getElem?_eq_some_iff.mp h).1
  exact ckM_use ck206_0 (by omega) (by omega) h
theorem ck207_0 : ckM 207 0 60 = true := by decide +kernel
theorem cke207 (pc : Nat) (e : In_) (h : (codeOf 207)[pc]? = some e) : ckE 207 (ownOf 207) (codeOf 207) (byOf 207) pc e = true := by
  have hl : pc < 52 := (List.getElem?_eq_some_iff.mp h).1
  exact ckM_use ck207_0 (by omega) (by omega) h
theorem ck208_0 : ckM 208 0 60 = true := by decide +kernel
theorem cke208 (pc : Nat) (e : In_) (h : (codeOf 208)[pc]? = some e) : ckE 208 (ownOf 208) (codeOf 208) (byOf 208) pc e = true := by
  have hl : pc < 43 := (List.getElem?_eq_some_iff.mp h).1
  exact ckM_use ck208_0 (by omega) (by omega) h
theorem ck209_0 : ckM 209 0 60 = true := by decide +kernel
theorem ck209_60 : ckM 209 60 60 = true := by decide +kernel
theorem ck209_120 : ckM 209 120 60 = true := by decide +kernel
theorem cke209 (pc : Nat) (e : In_) (h : (codeOf 209)[pc]? = some e) : ckE 209 (ownOf 209) (codeOf 209) (byOf 209) pc e = true := by
  have hl : pc < 162 := (List.getElem?_eq_some_iff.mp h).1
  by_cases h0 : pc < 60
  · exact ckM_use ck209_0 (by omega) (by omega) h
  by_cases h60 : pc < 120
  · exact ckM_use ck209_60 (by omega) (by omega) h
  exact ckM_use ck209_120 (by omega) (by omega) h
theorem ck210_0 : ckM 210 0 60 = true := by decide +kernel
theorem ck210_60 : ckM 210 60 60 = true := by decide +kernel
theorem ck210_120 : ckM 210 120 60 = true := by decide +kernel
theorem ck210_180 : ckM 210 180 60 = true := by decide +kernel
theorem ck210_240 : ckM 210 240 60 = true := by decide +kernel
theorem ck210_300 : ckM 210 300 60 = true := by decide +kernel
theorem ck210_360 : ckM 210 360 60 = true := by decide +kernel
theorem ck210_420 : ckM 210 420 60 = true := by decide +kernel
theorem ck210_480 : ckM 210 480 60 = true := by decide +kernel
theorem ck210_540 : ckM 210 540 60 = true := by decide +kernel
theorem ck210_600 : ckM 210 600 60 = true := by decide +kernel
theorem ck210_660 : ckM 210 660 60 = true := by decide +kernel
theorem ck210_720 : ckM 210 720 60 = true := by decide +kernel
theorem ck210_780 : ckM 210 780 60 = true := by decide +kernel
theorem ck210_840 : ckM 210 840 60 = true := by decide +kernel
theorem ck210_900 : ckM 210 900 60 = true := by decide +kernel
set_option maxRecDepth 100000 in
theorem cke210 (pc : Nat) (e : In_) (h : (codeOf 210)[pc]? = some e) : ckE 210 (ownOf 210) (codeOf 210) (byOf 210) pc e = true := by
  have hl : pc < 911 := (List.getElem?_eq_some_iff.mp h).1
  by_cases h0 : pc < 60
  · exact ckM_use ck210_0 (by omega) (by omega) h
  by_cases h60 : pc < 120
  · exact ckM_use ck210_60 (by omega) (by omega) h
  by_cases h120 : pc < 180
  · exact ckM_use ck210_120 (by omega) (by omega) h
  by_cases h180 : pc < 240
  · exact ckM_use ck210_180 (by omega) (by omega) h
  by_cases h240 : pc < 300
  · exact ckM_use ck210_240 (by omega) (by omega) h
  by_cases h300 : pc < 360
  · exact ckM_use ck210_300 (by omega) (by omega) h
  by_cases h360 : pc < 420
  · exact ckM_use ck210_360 (by omega) (by omega) h
  by_cases h420 : pc < 480
  · exact ckM_use ck210_420 (by omega) (by omega) h
  by_cases h480 : pc < 540
  · exact ckM_use ck210_480 (by omega) (by omega) h
  by_cases h540 : pc < 600
  · exact ckM_use ck210_540 (by omega) (by omega) h
  by_cases h600 : pc < 660
  · exact ckM_use ck210_600 (by omega) (by omega) h
  by_cases h660 : pc < 720
  · exact ckM_use ck210_660 (by omega) (by omega) h
  by_cases h720 : pc < 780
  · exact ckM_use ck210_720 (by omega) (by omega) h
  by_cases h780 : pc < 840
  · exact ckM_use ck210_780 (by omega) (by omega) h
  by_cases h840 : pc < 900
  · exact ckM_use ck210_840 (by omega) (by omega) h
  exact ckM_use ck210_900 (by omega) (by omega) h
