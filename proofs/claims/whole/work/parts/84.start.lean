/-! WHAT THE CONSTRUCTORS MAKE, and that it is a start -/
def Llex : Nat → Lg_
  | 0 => []
  | n + 1 => (25, (n : Int), 1) :: (24, (n : Int), (n : Int)) :: Llex n
def Lmo (r : Lg_) : Nat → Lg_
  | 0 => r
  | n + 1 => (118, (n : Int), (n : Int)) :: Lmo r n
def lgB : Lg_ := (47, 9, -1) :: (32, 6, -1) :: Llex 201
theorem ev_BW : ev 3300 11 0 (entL [(2, 0)] (mxL 11)) [] [(0, 11, List.replicate 10 (-1))] [] (0, 0) = some (WF.take 112, lgB) := by decide +kernel
theorem ev_Mo : ev 2300 12 0 (entL [(2, 112)] (mxL 12)) [] (WF.take 112 ++ [(0, 12, List.replicate 42 (-1))]) lgB (0, 0) = some (WF, Lmo ((112, 24, -1) :: lgB) 201) := by decide +kernel
