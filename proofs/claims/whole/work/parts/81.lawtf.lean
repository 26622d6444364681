def kl337f : List In_ := [(.aload_n 1, 553, 1, 0, 0, []), (.aload_n 0, 554, 0, 0, 0, []), (.iload_n 3, 555, 3, 0, 0, []), (.iconst 1, 556, 0, 0, 1, []), (.iadd, 557, 0, 0, 0, []), (.iaload, 558, 0, 0, 0, []), (.aload_n 0, 559, 0, 0, 0, []), (.iload_n 3, 560, 3, 0, 0, []), (.iconst 2, 561, 0, 0, 2, []), (.iadd, 562, 0, 0, 0, []), (.iaload, 563, 0, 0, 0, []), (.i2l, 564, 0, 0, 0, []), (.bipush 32, 565, 0, 0, 32, []), (.lshl, 567, 0, 0, 0, [])]
set_option maxRecDepth 100000 in
theorem kl337f_ok : ((codeOf 210).drop 337).take kl337f.length = kl337f := rfl
def kl351f : List In_ := [(.aload_n 0, 568, 0, 0, 0, []), (.iload_n 3, 569, 3, 0, 0, []), (.iconst 3, 570, 0, 0, 3, []), (.iadd, 571, 0, 0, 0, []), (.iaload, 572, 0, 0, 0, []), (.i2l, 573, 0, 0, 0, [])]
set_option maxRecDepth 100000 in
theorem kl351f_ok : ((codeOf 210).drop 351).take kl351f.length = kl351f := rfl
def kl357f : List In_ := [(.ldc2_w 61, 574, 0, 0, 4294967295, []), (.land, 577, 0, 0, 0, [])]
set_option maxRecDepth 100000 in
theorem kl357f_ok : ((codeOf 210).drop 357).take kl357f.length = kl357f := rfl
def kl359f : List In_ := [(.lor, 578, 0, 0, 0, []), (.invokevirtual 63, 579, 72, 0, 0, [3, 11, 0, 0, 600000, 7302250])]
set_option maxRecDepth 100000 in
theorem kl359f_ok : ((codeOf 210).drop 359).take kl359f.length = kl359f := rfl
def kl361f : List In_ := [(.aload_n 2, 582, 2, 0, 0, []), (.aload_n 0, 583, 0, 0, 0, []), (.iload_n 3, 584, 3, 0, 0, []), (.iconst 1, 585, 0, 0, 1, []), (.iadd, 586, 0, 0, 0, []), (.iaload, 587, 0, 0, 0, []), (.aload_n 0, 588, 0, 0, 0, []), (.iload_n 3, 589, 3, 0, 0, []), (.iconst 2, 590, 0, 0, 2, []), (.iadd, 591, 0, 0, 0, []), (.iaload, 592, 0, 0, 0, []), (.i2l, 593, 0, 0, 0, []), (.bipush 32, 594, 0, 0, 32, []), (.lshl, 596, 0, 0, 0, [])]
set_option maxRecDepth 100000 in
theorem kl361f_ok : ((codeOf 210).drop 361).take kl361f.length = kl361f := rfl
def kl375f : List In_ := [(.aload_n 0, 597, 0, 0, 0, []), (.iload_n 3, 598, 3, 0, 0, []), (.iconst 3, 599, 0, 0, 3, []), (.iadd, 600, 0, 0, 0, []), (.iaload, 601, 0, 0, 0, []), (.i2l, 602, 0, 0, 0, [])]
set_option maxRecDepth 100000 in
theorem kl375f_ok : ((codeOf 210).drop 375).take kl375f.length = kl375f := rfl
def kl381f : List In_ := [(.ldc2_w 61, 603, 0, 0, 4294967295, []), (.land, 606, 0, 0, 0, [])]
set_option maxRecDepth 100000 in
theorem kl381f_ok : ((codeOf 210).drop 381).take kl381f.length = kl381f := rfl
def kl383f : List In_ := [(.lor, 607, 0, 0, 0, []), (.invokevirtual 67, 608, 73, 0, 0, [3, 12, 0, 0, 600000, 7302250])]
set_option maxRecDepth 100000 in
theorem kl383f_ok : ((codeOf 210).drop 383).take kl383f.length = kl383f := rfl
set_option maxHeartbeats 400000 in
set_option maxRecDepth 20000 in
theorem t_Law_law_337 {P : Jg_} (hP : Clo P) {Q : Qp_} {M : Mm_} {x3 : Int} (k1 : P 210 351 [some (2, (-2)), some (2, 0), some (2, 112), some (0, x3)] [(1, (shlL (M (-2) (x3 + 2)) 32)), (0, (M (-2) (x3 + 1))), (2, 0)] WF M (141, 13062) Q) (s1 : -2147483648 ≤ (x3 + 1) ∧ (x3 + 1) ≤ 2147483647 := by omega) (s2 : 0 ≤ (x3 + 1) ∧ (x3 + 1) < (M (-2) (-1)) := by omega) (s3 : -2147483648 ≤ (x3 + 2) ∧ (x3 + 2) ≤ 2147483647 := by omega) (s4 : 0 ≤ (x3 + 2) ∧ (x3 + 2) < (M (-2) (-1)) := by omega) : P 210 337 [some (2, (-2)), some (2, 0), some (2, 112), some (0, x3)] [] WF M (141, 13062) Q :=
  hP.stepsO 210 337 kl337f kl337f_ok Q 14 _ _ _ _ _ _ (And.intro s1 (Exists.intro (M (-2) (-1)) (And.intro rfl (And.intro s2 (And.intro s3 (Exists.intro (M (-2) (-1)) (And.intro rfl (And.intro s4 (hP.mk [true, true, true, true] k1)))))))))
set_option maxHeartbeats 400000 in
set_option maxRecDepth 20000 in
theorem t_Law_law_351 {P : Jg_} (hP : Clo P) {Q : Qp_} {M : Mm_} {x3 y1 y2 : Int} (k1 : P 210 357 [some (2, (-2)), some (2, 0), some (2, 112), some (0, x3)] [(1, (M (-2) (x3 + 3))), (1, y2), (0, y1), (2, 0)] WF M (141, 13062) Q) (s1 : -2147483648 ≤ (x3 + 3) ∧ (x3 + 3) ≤ 2147483647 := by omega) (s2 : 0 ≤ (x3 + 3) ∧ (x3 + 3) < (M (-2) (-1)) := by omega) : P 210 351 [some (2, (-2)), some (2, 0), some (2, 112), some (0, x3)] [(1, y2), (0, y1), (2, 0)] WF M (141, 13062) Q :=
  hP.stepsO 210 351 kl351f kl351f_ok Q 6 _ _ _ _ _ _ (And.intro s1 (Exists.intro (M (-2) (-1)) (And.intro rfl (And.intro s2 (hP.mk [true, true, true, true] k1)))))
set_option maxHeartbeats 400000 in
set_option maxRecDepth 20000 in
theorem t_Law_law_357 {P : Jg_} (hP : Clo P) {Q : Qp_} {M : Mm_} {x3 y1 y2 y3 : Int} (k1 : P 210 359 [some (2, (-2)), some (2, 0), some (2, 112), some (0, x3)] [(1, (andL y3 4294967295)), (1, y2), (0, y1), (2, 0)] WF M (141, 13062) Q) : P 210 357 [some (2, (-2)), some (2, 0), some (2, 112), some (0, x3)] [(1, y3), (1, y2), (0, y1), (2, 0)] WF M (141, 13062) Q :=
  hP.stepsO 210 357 kl357f kl357f_ok Q 2 _ _ _ _ _ _ (hP.mk [true, true, true, true] k1)
set_option maxHeartbeats 400000 in
set_option maxRecDepth 20000 in
theorem t_Law_law_359 {P : Jg_} (hP : Clo P) {Q : Qp_} {M : Mm_} {x3 y1 y2 y3 : Int} (k1 : P 72 0 [some (2, 0), some (0, y1), some (1, (orL y2 y3)), none, none] [] WF M (0, 0) (fun v w' M' => P 210 361 [some (2, (-2)), some (2, 0), some (2, 112), some (0, x3)] (v.toList ++ []) w' M' (141, 13062) Q)) : P 210 359 [some (2, (-2)), some (2, 0), some (2, 112), some (0, x3)] [(1, y3), (1, y2), (0, y1), (2, 0)] WF M (141, 13062) Q :=
  hP.stepsO 210 359 kl359f kl359f_ok Q 2 _ _ _ _ _ _ (And.intro rfl (hP.1 _ _ _ _ _ _ _ _ _ (fun v w' M' h => hP.mk [true, true, true, true] h) k1))
set_option maxHeartbeats 400000 in
set_option maxRecDepth 20000 in
theorem t_Law_law_361 {P : Jg_} (hP : Clo P) {Q : Qp_} {M : Mm_} {x3 y0 : Int} (k1 : P 210 375 [some (2, (-2)), some (2, 0), some (2, 112), some (0, x3)] [(1, (shlL (M (-2) (x3 + 2)) 32)), (0, (M (-2) (x3 + 1))), (2, 112), (0, y0)] WF M (141, 13062) Q) (s1 : -2147483648 ≤ (x3 + 1) ∧ (x3 + 1) ≤ 2147483647 := by omega) (s2 : 0 ≤ (x3 + 1) ∧ (x3 + 1) < (M (-2) (-1)) := by omega) (s3 : -2147483648 ≤ (x3 + 2) ∧ (x3 + 2) ≤ 2147483647 := by omega) (s4 : 0 ≤ (x3 + 2) ∧ (x3 + 2) < (M (-2) (-1)) := by omega) : P 210 361 [some (2, (-2)), some (2, 0), some (2, 112), some (0, x3)] [(0, y0)] WF M (141, 13062) Q :=
  hP.stepsO 210 361 kl361f kl361f_ok Q 14 _ _ _ _ _ _ (And.intro s1 (Exists.intro (M (-2) (-1)) (And.intro rfl (And.intro s2 (And.intro s3 (Exists.intro (M (-2) (-1)) (And.intro rfl (And.intro s4 (hP.mk [true, true, true, true] k1)))))))))
set_option maxHeartbeats 400000 in
set_option maxRecDepth 20000 in
theorem t_Law_law_375 {P : Jg_} (hP : Clo P) {Q : Qp_} {M : Mm_} {x3 y0 y2 y3 : Int} (k1 : P 210 381 [some (2, (-2)), some (2, 0), some (2, 112), some (0, x3)] [(1, (M (-2) (x3 + 3))), (1, y3), (0, y2), (2, 112), (0, y0)] WF M (141, 13062) Q) (s1 : -2147483648 ≤ (x3 + 3) ∧ (x3 + 3) ≤ 2147483647 := by omega) (s2 : 0 ≤ (x3 + 3) ∧ (x3 + 3) < (M (-2) (-1)) := by omega) : P 210 375 [some (2, (-2)), some (2, 0), some (2, 112), some (0, x3)] [(1, y3), (0, y2), (2, 112), (0, y0)] WF M (141, 13062) Q :=
  hP.stepsO 210 375 kl375f kl375f_ok Q 6 _ _ _ _ _ _ (And.intro s1 (Exists.intro (M (-2) (-1)) (And.intro rfl (And.intro s2 (hP.mk [true, true, true, true] k1)))))
set_option maxHeartbeats 400000 in
set_option maxRecDepth 20000 in
theorem t_Law_law_381 {P : Jg_} (hP : Clo P) {Q : Qp_} {M : Mm_} {x3 y0 y2 y3 y4 : Int} (k1 : P 210 383 [some (2, (-2)), some (2, 0), some (2, 112), some (0, x3)] [(1, (andL y4 4294967295)), (1, y3), (0, y2), (2, 112), (0, y0)] WF M (141, 13062) Q) : P 210 381 [some (2, (-2)), some (2, 0), some (2, 112), some (0, x3)] [(1, y4), (1, y3), (0, y2), (2, 112), (0, y0)] WF M (141, 13062) Q :=
  hP.stepsO 210 381 kl381f kl381f_ok Q 2 _ _ _ _ _ _ (hP.mk [true, true, true, true] k1)
set_option maxHeartbeats 400000 in
set_option maxRecDepth 20000 in
theorem t_Law_law_383 {P : Jg_} (hP : Clo P) {Q : Qp_} {M : Mm_} {x3 y0 y2 y3 y4 : Int} (k1 : P 73 0 [some (2, 112), some (0, y2), some (1, (orL y3 y4)), none, none] [] WF M (0, 0) (fun v w' M' => P 210 385 [some (2, (-2)), some (2, 0), some (2, 112), some (0, x3)] (v.toList ++ [(0, y0)]) w' M' (141, 13062) Q)) : P 210 383 [some (2, (-2)), some (2, 0), some (2, 112), some (0, x3)] [(1, y4), (1, y3), (0, y2), (2, 112), (0, y0)] WF M (141, 13062) Q :=
  hP.stepsO 210 383 kl383f kl383f_ok Q 2 _ _ _ _ _ _ (And.intro rfl (hP.1 _ _ _ _ _ _ _ _ _ (fun v w' M' h => hP.mk [true, true, true, true] h) k1))
