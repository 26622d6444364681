section
def mxT : List (List Nat) := [[1, 2, 2, 2, 1, 1, 4, 2, 4, 2, 1, 1, 2, 1, 1, 4],
  [3, 6, 3, 2, 1, 2, 2, 4, 2, 4, 3, 2, 1, 1, 2, 3],
  [4, 2, 3, 8, 3, 6, 2, 4, 6, 5, 4, 5, 4, 3, 3, 7],
  [2, 5, 3, 2, 4, 3, 6, 3, 4, 7, 4, 4, 5, 5, 5, 2],
  [2, 2, 3, 3, 3, 2, 6, 2, 5, 5, 1, 3, 1, 1, 1, 3],
  [2, 2, 2, 5, 3, 3, 3, 4, 4, 4, 5, 3, 5, 3, 1, 2],
  [8, 3, 3, 1, 6, 1, 5, 4, 1, 1, 5, 7, 3, 5, 5, 3],
  [3, 7, 4, 2, 5, 3, 2, 5, 4, 3, 1, 12, 3, 5, 6, 3],
  [6, 6, 5, 7, 9, 3, 14, 12, 8, 3, 4, 10, 6, 9, 5, 9],
  [6, 8, 1, 6, 2, 4, 5, 5, 5, 5, 2, 2, 4, 5, 1, 8],
  [4, 3, 8, 8, 6, 9, 2, 4, 4, 7, 6, 5, 3, 6, 5, 2],
  [3, 5, 1, 8, 8, 3, 8, 8, 5, 3, 6, 6, 6, 5, 6, 4],
  [5, 6, 3, 7, 3, 7, 6, 6, 4, 7, 4, 7, 9, 4, 4, 6],
  [6, 12, 4]]
def mxL (id : Nat) : Nat := (mxT.getD (id / 16) []).getD (id % 16) 0
end
section
/-! THE PURE MACHINE: what an instruction asks, over whole numbers. A cell: kind, size (or class), references. Memory: cell, place, number. -/
abbrev Cl_ : Type := Nat × Nat × List Int
abbrev Wd_ : Type := List Cl_
abbrev Mm_ : Type := Int → Int → Int
abbrev Vl_ : Type := Nat × Int
abbrev Lc_ : Type := List (Option Vl_)
abbrev Qp_ : Type := Option Vl_ → Wd_ → Mm_ → Prop
/-- an instruction: itself, its byte, two places, a number, a list of places -/
abbrev In_ : Type := Instr × Nat × Nat × Nat × Int × List Nat
abbrev Cn_ : Type := Nat × Nat
def inI (x : Int) : Prop := -2147483648 ≤ x ∧ x ≤ 2147483647
def inL (x : Int) : Prop := -9223372036854775808 ≤ x ∧ x ≤ 9223372036854775807
def andI (x y : Int) : Int := (Int32.ofInt x &&& Int32.ofInt y).toInt
def orI (x y : Int) : Int := (Int32.ofInt x ||| Int32.ofInt y).toInt
def xorI (x y : Int) : Int := (Int32.ofInt x ^^^ Int32.ofInt y).toInt
def shlI (x y : Int) : Int := (Int32.ofInt x <<< (Int32.ofInt y &&& 31)).toInt
def shrI (x y : Int) : Int := (Int32.ofInt x >>> (Int32.ofInt y &&& 31)).toInt
def ushrI (x y : Int) : Int := ((Int32.ofInt x).toUInt32 >>> ((Int32.ofInt y).toUInt32 &&& Int32.toUInt32 31)).toInt32.toInt
def andL (x y : Int) : Int := (Int64.ofInt x &&& Int64.ofInt y).toInt
def orL (x y : Int) : Int := (Int64.ofInt x ||| Int64.ofInt y).toInt
def xorL (x y : Int) : Int := (Int64.ofInt x ^^^ Int64.ofInt y).toInt
def shlL (x y : Int) : Int := (Int64.ofInt x <<< ((Int32.ofInt y).toInt64 &&& 63)).toInt
def shrL (x y : Int) : Int := (Int64.ofInt x >>> ((Int32.ofInt y).toInt64 &&& 63)).toInt
def ushrL (x y : Int) : Int := ((Int64.ofInt x).toUInt64 >>> ((Int32.ofInt y).toInt64.toUInt64 &&& Int64.toUInt64 63)).toInt64.toInt
def l2iI (x : Int) : Int := (Int64.ofInt x).toInt32.toInt
def i2cI (x : Int) : Int := x % 65536
def cmpL (x y : Int) : Int := if x < y then -1 else if x = y then 0 else 1
def maxI (x y : Int) : Int := if x < y then y else x
def minI (x y : Int) : Int := if y < x then y else x
def updM (M : Mm_) (a i v : Int) : Mm_ := fun b j => if b = a ∧ j = i then v else M b j
def zeroM (M : Mm_) (a : Int) : Mm_ := fun b j => if b = a then 0 else M b j
/-- the cell of a reference that is not read-only -/
def cellOf (w : Wd_) (r : Int) : Option Cl_ := if r < 0 then none else w[r.toNat]?
/-- a row's kind and length: 1 int, 2 long, 3 boolean, 4 texts, 5 rows of int, 6 rows of long, 8 bytes (read-only) -/
def roK (M : Mm_) (r : Int) : Option (Nat × Int) :=
  if -5 ≤ r ∧ r ≤ -2 then some (1, M r (-1)) else if -39 ≤ r ∧ r ≤ -30 then some (8, M r (-1)) else none
def arK (w : Wd_) (M : Mm_) (r : Int) : Option (Nat × Int) :=
  if r < 0 then roK M r else match w[r.toNat]? with
    | some (0, _, _) => none
    | some (t, n, _) => some (t, (n : Int))
    | none => none
/-- the class of an object; 13: a String -/
def obK (w : Wd_) (r : Int) : Option Nat :=
  if r < 0 then (if -19 ≤ r ∧ r ≤ -10 then some 13 else none) else match w[r.toNat]? with
    | some (0, c, _) => some c
    | _ => none
def rfK (w : Wd_) (r : Int) (k : Nat) : Option Int :=
  if r < 0 then (if -19 ≤ r ∧ r ≤ -10 ∧ k = 0 then some (r - 20) else none) else match w[r.toNat]? with
    | some (_, _, rs) => rs[k]?
    | none => none
def setR (w : Wd_) (r : Int) (k : Nat) (q : Int) : Wd_ := w.modify r.toNat (fun c => (c.1, c.2.1, c.2.2.set k q))
def catV (v : Vl_) : Nat := if v.1 = 1 then 2 else 1
def catS (l : List Vl_) : Nat := (l.map catV).sum
def kilL (ls : Lc_) (i : Nat) : Lc_ := match i with
  | 0 => ls
  | j + 1 => match ls[j]? with
    | some (some (1, _)) => ls.set j none
    | _ => ls
def setL (ls : Lc_) (i : Nat) (v : Vl_) : Lc_ := (kilL ls i).set i (some v)
def setL2 (ls : Lc_) (i : Nat) (v : Vl_) : Lc_ := ((kilL ls i).set i (some v)).set (i + 1) none
def argL : List Vl_ → Lc_
  | [] => []
  | (1, x) :: l => some (1, x) :: none :: argL l
  | v :: l => some v :: argL l
def entL (as : List Vl_) (n : Nat) : Lc_ := let l := argL as; l ++ List.replicate (n - l.length) none
def swc (x : Int) (k : Nat → Prop) : Int → List Nat → Prop
  | _, [] => True
  | lo, t :: ts => (x = lo → k t) ∧ swc x k (lo + 1) ts
def cnd (c : Jvm.ClassFile.Cond) (x y : Int) : Prop := match c with
  | .eq => x = y
  | .ne => ¬ x = y
  | .lt => x < y
  | .ge => y ≤ x
  | .gt => y < x
  | .le => x ≤ y
/-- there is room for more cells and slots -/
def bud (cn : Cn_) (a b MC MS : Nat) (p : Prop) : Prop := match Nat.ble (cn.1 + a) MC with
  | true => match Nat.ble (cn.2 + b) MS with
    | true => p
    | false => False
  | false => False
def g1 (t : Nat) (st : List Vl_) (k : Int → List Vl_ → Prop) : Prop := match st with
  | v :: r => match Nat.beq v.1 t with
    | true => k v.2 r
    | false => False
  | [] => False
def gl (t : Nat) (ls : Lc_) (i : Nat) (k : Int → Prop) : Prop := match ls[i]? with
  | some (some v) => match Nat.beq v.1 t with
    | true => k v.2
    | false => False
  | _ => False
/-- the arguments of a call are there, the rest is small, they fit the locals; the first is a reference, where there is a receiver -/
def callG (st : List Vl_) (n : Nat) (rcv : Bool) (mx : Nat) (k : Int → List Vl_ → List Vl_ → Prop) : Prop :=
  match Nat.ble n st.length && (Nat.ble (catS (st.drop n)) 8 && Nat.ble (catS (st.take n)) mx) with
  | true => match rcv with
    | true => match (st.take n).reverse with
      | v :: as => match Nat.beq v.1 2 with
        | true => k v.2 (v :: as) (st.drop n)
        | false => False
      | [] => False
    | false => k 0 (st.take n).reverse (st.drop n)
  | false => False
/-- what one instruction asks: k, what comes behind it; Q, what a return must give; cP, what a call must give -/
def st1 (cP : Nat → List Vl_ → Wd_ → Mm_ → Qp_ → Prop) (k : Nat → Lc_ → List Vl_ → Wd_ → Mm_ → Cn_ → Prop) (Q : Qp_) (e : In_) (pc : Nat) (ls : Lc_) (st : List Vl_) (w : Wd_) (M : Mm_) (cn : Cn_) : Prop :=
  match e with
  | (ins, _, a, b, z, tg) =>
  match ins with
  | .iconst _ => k (pc + 1) ls ((0, z) :: st) w M cn
  | .bipush _ => k (pc + 1) ls ((0, z) :: st) w M cn
  | .sipush _ => k (pc + 1) ls ((0, z) :: st) w M cn
  | .ldc _ => k (pc + 1) ls ((a, z) :: st) w M cn
  | .ldc_w _ => k (pc + 1) ls ((0, z) :: st) w M cn
  | .ldc2_w _ => k (pc + 1) ls ((1, z) :: st) w M cn
  | .lconst _ => k (pc + 1) ls ((1, z) :: st) w M cn
  | .iload _ => gl 0 ls a fun x => k (pc + 1) ls ((0, x) :: st) w M cn
  | .iload_n _ => gl 0 ls a fun x => k (pc + 1) ls ((0, x) :: st) w M cn
  | .lload _ => gl 1 ls a fun x => k (pc + 1) ls ((1, x) :: st) w M cn
  | .lload_n _ => gl 1 ls a fun x => k (pc + 1) ls ((1, x) :: st) w M cn
  | .aload _ => gl 2 ls a fun x => k (pc + 1) ls ((2, x) :: st) w M cn
  | .aload_n _ => gl 2 ls a fun x => k (pc + 1) ls ((2, x) :: st) w M cn
  | .istore _ => g1 0 st fun x r => k (pc + 1) (setL ls a (0, x)) r w M cn
  | .istore_n _ => g1 0 st fun x r => k (pc + 1) (setL ls a (0, x)) r w M cn
  | .lstore _ => g1 1 st fun x r => k (pc + 1) (setL2 ls a (1, x)) r w M cn
  | .lstore_n _ => g1 1 st fun x r => k (pc + 1) (setL2 ls a (1, x)) r w M cn
  | .astore _ => g1 2 st fun x r => k (pc + 1) (setL ls a (2, x)) r w M cn
  | .astore_n _ => g1 2 st fun x r => k (pc + 1) (setL ls a (2, x)) r w M cn
  | .iinc _ _ => gl 0 ls a fun x => inI (x + z) ∧ k (pc + 1) (setL ls a (0, x + z)) st w M cn
  | .iadd => g1 0 st fun y r => g1 0 r fun x r => inI (x + y) ∧ k (pc + 1) ls ((0, x + y) :: r) w M cn
  | .isub => g1 0 st fun y r => g1 0 r fun x r => inI (x - y) ∧ k (pc + 1) ls ((0, x - y) :: r) w M cn
  | .imul => g1 0 st fun y r => g1 0 r fun x r => inI (x * y) ∧ k (pc + 1) ls ((0, x * y) :: r) w M cn
  | .idiv => g1 0 st fun y r => g1 0 r fun x r => (0 ≤ x ∧ 0 < y) ∧ k (pc + 1) ls ((0, x / y) :: r) w M cn
  | .irem => g1 0 st fun y r => g1 0 r fun x r => (0 ≤ x ∧ 0 < y) ∧ k (pc + 1) ls ((0, x % y) :: r) w M cn
  | .iand => g1 0 st fun y r => g1 0 r fun x r => k (pc + 1) ls ((0, andI x y) :: r) w M cn
  | .ior => g1 0 st fun y r => g1 0 r fun x r => k (pc + 1) ls ((0, orI x y) :: r) w M cn
  | .ixor => g1 0 st fun y r => g1 0 r fun x r => k (pc + 1) ls ((0, xorI x y) :: r) w M cn
  | .ishl => g1 0 st fun y r => g1 0 r fun x r => k (pc + 1) ls ((0, shlI x y) :: r) w M cn
  | .ishr => g1 0 st fun y r => g1 0 r fun x r => k (pc + 1) ls ((0, shrI x y) :: r) w M cn
  | .iushr => g1 0 st fun y r => g1 0 r fun x r => k (pc + 1) ls ((0, ushrI x y) :: r) w M cn
  | .ladd => g1 1 st fun y r => g1 1 r fun x r => inL (x + y) ∧ k (pc + 1) ls ((1, x + y) :: r) w M cn
  | .lsub => g1 1 st fun y r => g1 1 r fun x r => inL (x - y) ∧ k (pc + 1) ls ((1, x - y) :: r) w M cn
  | .lmul => g1 1 st fun y r => g1 1 r fun x r => inL (x * y) ∧ k (pc + 1) ls ((1, x * y) :: r) w M cn
  | .land => g1 1 st fun y r => g1 1 r fun x r => k (pc + 1) ls ((1, andL x y) :: r) w M cn
  | .lor => g1 1 st fun y r => g1 1 r fun x r => k (pc + 1) ls ((1, orL x y) :: r) w M cn
  | .lxor => g1 1 st fun y r => g1 1 r fun x r => k (pc + 1) ls ((1, xorL x y) :: r) w M cn
  | .lshl => g1 0 st fun y r => g1 1 r fun x r => k (pc + 1) ls ((1, shlL x y) :: r) w M cn
  | .lshr => g1 0 st fun y r => g1 1 r fun x r => k (pc + 1) ls ((1, shrL x y) :: r) w M cn
  | .lushr => g1 0 st fun y r => g1 1 r fun x r => k (pc + 1) ls ((1, ushrL x y) :: r) w M cn
  | .i2l => g1 0 st fun x r => k (pc + 1) ls ((1, x) :: r) w M cn
  | .l2i => g1 1 st fun x r => k (pc + 1) ls ((0, l2iI x) :: r) w M cn
  | .i2c => g1 0 st fun x r => k (pc + 1) ls ((0, i2cI x) :: r) w M cn
  | .lcmp => g1 1 st fun y r => g1 1 r fun x r => k (pc + 1) ls ((0, cmpL x y) :: r) w M cn
  | .ifCond c _ => g1 0 st fun x r => (cnd c x 0 → k a ls r w M cn) ∧ (¬ cnd c x 0 → k (pc + 1) ls r w M cn)
  | .if_icmp c _ => g1 0 st fun y r => g1 0 r fun x r => (cnd c x y → k a ls r w M cn) ∧ (¬ cnd c x y → k (pc + 1) ls r w M cn)
  | .goto _ => k a ls st w M cn
  | .tableswitch _ _ _ _ => g1 0 st fun x r => (x < z ∨ z + tg.length ≤ x → k a ls r w M cn) ∧ swc x (fun t => k t ls r w M cn) z tg
  | .dup => match st with
    | v :: r => match Nat.beq v.1 1 with
      | true => False
      | false => k (pc + 1) ls (v :: v :: r) w M cn
    | [] => False
  | .dup2 => match st with
    | v :: r => match Nat.beq v.1 1 with
      | true => k (pc + 1) ls (v :: v :: r) w M cn
      | false => match r with
        | u :: r => match Nat.beq u.1 1 with
          | true => False
          | false => k (pc + 1) ls (v :: u :: v :: u :: r) w M cn
        | [] => False
    | [] => False
  | .pop => match st with
    | v :: r => match Nat.beq v.1 1 with
      | true => False
      | false => k (pc + 1) ls r w M cn
    | [] => False
  | .iaload => g1 0 st fun i r => g1 2 r fun q r => ∃ n, arK w M q = some (1, n) ∧ (0 ≤ i ∧ i < n) ∧ k (pc + 1) ls ((0, M q i) :: r) w M cn
  | .baload => g1 0 st fun i r => g1 2 r fun q r => ∃ n, (arK w M q = some (3, n) ∨ arK w M q = some (8, n)) ∧ (0 ≤ i ∧ i < n) ∧ k (pc + 1) ls ((0, M q i) :: r) w M cn
  | .laload => g1 0 st fun i r => g1 2 r fun q r => ∃ n, arK w M q = some (2, n) ∧ (0 ≤ i ∧ i < n) ∧ k (pc + 1) ls ((1, M q i) :: r) w M cn
  | .aaload => g1 0 st fun i r => g1 2 r fun q r => ∃ t n v, arK w M q = some (t, n) ∧ 4 ≤ t ∧ t ≤ 6 ∧ (0 ≤ i ∧ i < n) ∧ rfK w q i.toNat = some v ∧ k (pc + 1) ls ((2, v) :: r) w M cn
  | .iastore => g1 0 st fun x r => g1 0 r fun i r => g1 2 r fun q r => ∃ n, arK w M q = some (1, n) ∧ 0 ≤ q ∧ (0 ≤ i ∧ i < n) ∧ k (pc + 1) ls r w (updM M q i x) cn
  | .bastore => g1 0 st fun x r => g1 0 r fun i r => g1 2 r fun q r => ∃ n, arK w M q = some (3, n) ∧ 0 ≤ q ∧ (0 ≤ i ∧ i < n) ∧ (x = 0 ∨ x = 1) ∧ k (pc + 1) ls r w (updM M q i x) cn
  | .lastore => g1 1 st fun x r => g1 0 r fun i r => g1 2 r fun q r => ∃ n, arK w M q = some (2, n) ∧ 0 ≤ q ∧ (0 ≤ i ∧ i < n) ∧ k (pc + 1) ls r w (updM M q i x) cn
  | .aastore => g1 2 st fun x r => g1 0 r fun i r => g1 2 r fun q r => ∃ n, arK w M q = some (4, n) ∧ 0 ≤ q ∧ 0 ≤ x ∧ obK w x = some a ∧ (0 ≤ i ∧ i < n) ∧ k (pc + 1) ls r (setR w q i.toNat x) M cn
  | .arraylength => g1 2 st fun q r => ∃ t n, arK w M q = some (t, n) ∧ (q < 0 ∧ 0 ≤ n) ∧ k (pc + 1) ls ((0, n) :: r) w M cn
  | .getstatic _ => k (pc + 1) ls ((b, z) :: st) w M cn
  | .getfield _ => g1 2 st fun q r => obK w q = some a ∧ (match tg with
    | [2] => ∃ v, rfK w q b = some v ∧ k (pc + 1) ls ((2, v) :: r) w M cn
    | [1] => k (pc + 1) ls ((1, M q b) :: r) w M cn
    | _ => k (pc + 1) ls ((0, M q b) :: r) w M cn)
  | .putfield _ => match tg with
    | [2] => g1 2 st fun x r => g1 2 r fun q r => obK w q = some a ∧ 0 ≤ q ∧ k (pc + 1) ls r (setR w q b x) M cn
    | [1] => g1 1 st fun x r => g1 2 r fun q r => obK w q = some a ∧ 0 ≤ q ∧ k (pc + 1) ls r w (updM M q b x) cn
    | [3] => g1 0 st fun x r => g1 2 r fun q r => obK w q = some a ∧ 0 ≤ q ∧ (x = 0 ∨ x = 1) ∧ k (pc + 1) ls r w (updM M q b x) cn
    | _ => g1 0 st fun x r => g1 2 r fun q r => obK w q = some a ∧ 0 ≤ q ∧ k (pc + 1) ls r w (updM M q b x) cn
  | .new _ => match tg with
    | [MC, MS] => bud cn 1 b MC MS (k (pc + 1) ls ((2, (w.length : Int)) :: st) (w ++ [(0, a, List.replicate b (-1))]) (zeroM M w.length) (cn.1 + 1, cn.2 + b))
    | _ => False
  | .newarray _ => match tg with
    | [MC, MS] => g1 0 st fun n r => (0 ≤ n ∧ n ≤ 4000) ∧ bud cn 1 n.toNat MC MS (k (pc + 1) ls ((2, (w.length : Int)) :: r) (w ++ [(a, n.toNat, [])]) (zeroM M w.length) (cn.1 + 1, cn.2 + n.toNat))
    | _ => False
  | .anewarray _ => match tg with
    | [MC, MS] => g1 0 st fun n r => (0 ≤ n ∧ n ≤ 4000) ∧ bud cn 1 n.toNat MC MS (k (pc + 1) ls ((2, (w.length : Int)) :: r) (w ++ [(4, n.toNat, List.replicate n.toNat (-1))]) (zeroM M w.length) (cn.1 + 1, cn.2 + n.toNat))
    | _ => False
  | .multianewarray _ _ => match tg with
    | [MC, MS] => g1 0 st fun m r => g1 0 r fun n r => (0 ≤ n ∧ n ≤ 4000 ∧ 0 ≤ m ∧ m ≤ 4000) ∧ bud cn (1 + n.toNat) (n.toNat + n.toNat * m.toNat) MC MS (k (pc + 1) ls ((2, (w.length : Int)) :: r) (w ++ (a, n.toNat, (List.range n.toNat).map (fun i : Nat => (w.length : Int) + 1 + (i : Int))) :: List.replicate n.toNat (b, m.toNat, [])) (fun x j => if (w.length : Int) ≤ x then 0 else M x j) (cn.1 + 1 + n.toNat, cn.2 + n.toNat + n.toNat * m.toNat))
    | _ => False
  | .ireturn => match st with
    | [v] => match Nat.beq v.1 0 with
      | true => (match a with
        | 0 => True
        | 1 => v.2 = 0 ∨ v.2 = 1
        | 2 => -128 ≤ v.2 ∧ v.2 < 128
        | _ => 0 ≤ v.2 ∧ v.2 < 65536) ∧ Q (some (0, v.2)) w M
      | false => False
    | _ => False
  | .lreturn => match st with
    | [v] => match Nat.beq v.1 1 with
      | true => Q (some (1, v.2)) w M
      | false => False
    | _ => False
  | .return_ => match st with
    | [] => Q none w M
    | _ => False
  | .invokevirtual _ => match tg with
    | [n, ci, mc, ms, MC, MS] => bud cn mc ms MC MS (callG st n true (mxL a) fun q as r => obK w q = some ci ∧ cP a as w M (fun v w' M' => k (pc + 1) ls (v.toList ++ r) w' M' (cn.1 + mc, cn.2 + ms)))
    | _ => False
  | .invokestatic _ => match tg with
    | [0] => g1 0 st fun y r => g1 0 r fun x r => match Nat.ble (catS r) 8 with
      | true => k (pc + 1) ls ((0, maxI x y) :: r) w M cn
      | false => False
    | [1] => g1 0 st fun y r => g1 0 r fun x r => match Nat.ble (catS r) 8 with
      | true => k (pc + 1) ls ((0, minI x y) :: r) w M cn
      | false => False
    | [n, mc, ms, MC, MS] => bud cn mc ms MC MS (callG st n false (mxL a) fun _ as r => cP a as w M (fun v w' M' => k (pc + 1) ls (v.toList ++ r) w' M' (cn.1 + mc, cn.2 + ms)))
    | _ => False
  | .invokespecial _ => match tg with
    | [] => match st with
      | [v] => match Nat.beq v.1 2 with
        | true => 0 ≤ v.2 ∧ k (pc + 1) ls [] w M cn
        | false => False
      | _ => False
    | [n, mc, ms, MC, MS] => bud cn mc ms MC MS (callG st n true (mxL a) fun q as r => 0 ≤ q ∧ cP a as w M (fun v w' M' => k (pc + 1) ls (v.toList ++ r) w' M' (cn.1 + mc, cn.2 + ms)))
    | _ => False
  | _ => False
end
section
/-! THE METHODS: each one's instructions, resolved; printed by wip/tools/gen_codes.py out of the class files in the Statement -/
/-- 0: Text_init()V -/
def kc0 : List In_ := [(.aload_n 0, 0, 0, 0, 0, []),
  (.invokespecial 3, 1, 0, 0, 0, []),
  (.aload_n 0, 4, 0, 0, 0, []),
  (.bipush 60, 5, 0, 0, 60, []),
  (.newarray .int, 7, 1, 0, 0, [1, 60]),
  (.putfield 9, 9, 0, 0, 0, [2]),
  (.return_, 12, 0, 0, 0, [])]
/-- 1: Shelf_init()V -/
def kc1 : List In_ := [(.aload_n 0, 0, 0, 0, 0, []),
  (.invokespecial 3, 1, 0, 0, 0, []),
  (.aload_n 0, 4, 0, 0, 0, []),
  (.bipush 10, 5, 0, 0, 10, []),
  (.anewarray 9, 7, 0, 0, 0, [21, 660]),
  (.putfield 11, 10, 1, 0, 0, [2]),
  (.iconst 0, 13, 0, 0, 0, []),
  (.istore_n 1, 14, 1, 0, 0, []),
  (.iload_n 1, 15, 1, 0, 0, []),
  (.bipush 10, 16, 0, 0, 10, []),
  (.if_icmp .ge 22, 18, 20, 0, 0, []),
  (.aload_n 0, 21, 0, 0, 0, []),
  (.getfield 11, 22, 1, 0, 0, [2]),
  (.iload_n 1, 25, 1, 0, 0, []),
  (.new 9, 26, 0, 5, 0, [21, 660]),
  (.dup, 29, 0, 0, 0, []),
  (.invokespecial 17, 30, 0, 0, 0, [1, 1, 60, 21, 660]),
  (.aastore, 33, 0, 0, 0, []),
  (.iinc 1 1, 34, 1, 0, 1, []),
  (.goto (-22), 37, 8, 0, 0, []),
  (.return_, 40, 0, 0, 0, [])]
/-- 2: Lexicon_init()V -/
def kc2 : List In_ := [(.aload_n 0, 0, 0, 0, 0, []),
  (.invokespecial 3, 1, 0, 0, 0, []),
  (.aload_n 0, 4, 0, 0, 0, []),
  (.sipush 201, 5, 0, 0, 201, []),
  (.newarray .int, 8, 1, 0, 0, [3, 603]),
  (.putfield 9, 10, 2, 0, 0, [2]),
  (.aload_n 0, 13, 0, 0, 0, []),
  (.sipush 201, 14, 0, 0, 201, []),
  (.newarray .int, 17, 1, 0, 0, [3, 603]),
  (.putfield 15, 19, 2, 1, 0, [2]),
  (.aload_n 0, 22, 0, 0, 0, []),
  (.sipush 201, 23, 0, 0, 201, []),
  (.newarray .boolean, 26, 3, 0, 0, [3, 603]),
  (.putfield 18, 28, 2, 2, 0, [2]),
  (.iconst 0, 31, 0, 0, 0, []),
  (.istore_n 1, 32, 1, 0, 0, []),
  (.iload_n 1, 33, 1, 0, 0, []),
  (.sipush 200, 34, 0, 0, 200, []),
  (.if_icmp .gt 23, 37, 31, 0, 0, []),
  (.aload_n 0, 40, 0, 0, 0, []),
  (.getfield 9, 41, 2, 0, 0, [2]),
  (.iload_n 1, 44, 1, 0, 0, []),
  (.iload_n 1, 45, 1, 0, 0, []),
  (.iastore, 46, 0, 0, 0, []),
  (.aload_n 0, 47, 0, 0, 0, []),
  (.getfield 15, 48, 2, 1, 0, [2]),
  (.iload_n 1, 51, 1, 0, 0, []),
  (.iconst 1, 52, 0, 0, 1, []),
  (.iastore, 53, 0, 0, 0, []),
  (.iinc 1 1, 54, 1, 0, 1, []),
  (.goto (-24), 57, 16, 0, 0, []),
  (.return_, 60, 0, 0, 0, [])]
/-- 3: Marks_init(LBorrowedWords$Shelf;)V -/
def kc3 : List In_ := [(.aload_n 0, 0, 0, 0, 0, []),
  (.invokespecial 3, 1, 0, 0, 0, []),
  (.aload_n 0, 4, 0, 0, 0, []),
  (.bipush 30, 5, 0, 0, 30, []),
  (.newarray .int, 7, 1, 0, 0, [4, 120]),
  (.putfield 9, 9, 3, 1, 0, [2]),
  (.aload_n 0, 12, 0, 0, 0, []),
  (.bipush 30, 13, 0, 0, 30, []),
  (.newarray .int, 15, 1, 0, 0, [4, 120]),
  (.putfield 15, 17, 3, 2, 0, [2]),
  (.aload_n 0, 20, 0, 0, 0, []),
  (.bipush 30, 21, 0, 0, 30, []),
  (.newarray .int, 23, 1, 0, 0, [4, 120]),
  (.putfield 18, 25, 3, 3, 0, [2]),
  (.aload_n 0, 28, 0, 0, 0, []),
  (.bipush 30, 29, 0, 0, 30, []),
  (.newarray .int, 31, 1, 0, 0, [4, 120]),
  (.putfield 21, 33, 3, 4, 0, [2]),
  (.aload_n 0, 36, 0, 0, 0, []),
  (.aload_n 1, 37, 1, 0, 0, []),
  (.putfield 24, 38, 3, 0, 0, [2]),
  (.return_, 41, 0, 0, 0, [])]
/-- 4: RuleReader_init()V -/
def kc4 : List In_ := [(.aload_n 0, 0, 0, 0, 0, []),
  (.invokespecial 3, 1, 0, 0, 0, []),
  (.aload_n 0, 4, 0, 0, 0, []),
  (.bipush 120, 5, 0, 0, 120, []),
  (.newarray .int, 7, 1, 0, 0, [2, 127]),
  (.putfield 9, 9, 4, 0, 0, [2]),
  (.aload_n 0, 12, 0, 0, 0, []),
  (.bipush 7, 13, 0, 0, 7, []),
  (.newarray .int, 15, 1, 0, 0, [2, 127]),
  (.putfield 15, 17, 4, 1, 0, [2]),
  (.aload_n 0, 20, 0, 0, 0, []),
  (.iconst (-1), 21, 0, 0, (-1), []),
  (.putfield 18, 22, 4, 6, 0, [0]),
  (.return_, 25, 0, 0, 0, [])]
/-- 5: RuleBook_init()V -/
def kc5 : List In_ := [(.aload_n 0, 0, 0, 0, 0, []),
  (.invokespecial 3, 1, 0, 0, 0, []),
  (.aload_n 0, 4, 0, 0, 0, []),
  (.bipush 8, 5, 0, 0, 8, []),
  (.newarray .int, 7, 1, 0, 0, [11, 80]),
  (.putfield 9, 9, 5, 0, 0, [2]),
  (.aload_n 0, 12, 0, 0, 0, []),
  (.bipush 8, 13, 0, 0, 8, []),
  (.newarray .int, 15, 1, 0, 0, [11, 80]),
  (.putfield 15, 17, 5, 1, 0, [2]),
  (.aload_n 0, 20, 0, 0, 0, []),
  (.bipush 8, 21, 0, 0, 8, []),
  (.bipush 7, 23, 0, 0, 7, []),
  (.multianewarray 18 2, 25, 5, 1, 0, [11, 80]),
  (.putfield 20, 29, 5, 2, 0, [2]),
  (.return_, 32, 0, 0, 0, [])]
/-- 6: Runs_init(LBorrowedWords$Shelf;LBorrowedWords$Lexicon;LBorrowedWords$RuleBook;)V -/
def kc6 : List In_ := [(.aload_n 0, 0, 0, 0, 0, []),
  (.invokespecial 3, 1, 0, 0, 0, []),
  (.aload_n 0, 4, 0, 0, 0, []),
  (.bipush 10, 5, 0, 0, 10, []),
  (.bipush 60, 7, 0, 0, 60, []),
  (.multianewarray 9 2, 9, 6, 2, 0, [16, 996]),
  (.putfield 11, 13, 6, 3, 0, [2]),
  (.aload_n 0, 16, 0, 0, 0, []),
  (.bipush 60, 17, 0, 0, 60, []),
  (.newarray .int, 19, 1, 0, 0, [16, 996]),
  (.putfield 16, 21, 6, 4, 0, [2]),
  (.aload_n 0, 24, 0, 0, 0, []),
  (.bipush 61, 25, 0, 0, 61, []),
  (.newarray .int, 27, 1, 0, 0, [16, 996]),
  (.putfield 20, 29, 6, 5, 0, [2]),
  (.aload_n 0, 32, 0, 0, 0, []),
  (.sipush 201, 33, 0, 0, 201, []),
  (.newarray .long, 36, 2, 0, 0, [16, 996]),
  (.putfield 23, 38, 6, 6, 0, [2]),
  (.aload_n 0, 41, 0, 0, 0, []),
  (.bipush 60, 42, 0, 0, 60, []),
  (.newarray .long, 44, 2, 0, 0, [16, 996]),
  (.putfield 27, 46, 6, 7, 0, [2]),
  (.aload_n 0, 49, 0, 0, 0, []),
  (.iconst 4, 50, 0, 0, 4, []),
  (.newarray .long, 51, 2, 0, 0, [16, 996]),
  (.putfield 30, 53, 6, 8, 0, [2]),
  (.aload_n 0, 56, 0, 0, 0, []),
  (.iconst (-1), 57, 0, 0, (-1), []),
  (.putfield 33, 58, 6, 9, 0, [0]),
  (.aload_n 0, 61, 0, 0, 0, []),
  (.aload_n 1, 62, 1, 0, 0, []),
  (.putfield 37, 63, 6, 0, 0, [2]),
  (.aload_n 0, 66, 0, 0, 0, []),
  (.aload_n 2, 67, 2, 0, 0, []),
  (.putfield 41, 68, 6, 1, 0, [2]),
  (.aload_n 0, 71, 0, 0, 0, []),
  (.aload_n 3, 72, 3, 0, 0, []),
  (.putfield 45, 73, 6, 2, 0, [2]),
  (.return_, 76, 0, 0, 0, [])]
/-- 7: Explanation_init(LBorrowedWords$Runs;)V -/
def kc7 : List In_ := [(.aload_n 0, 0, 0, 0, 0, []),
  (.invokespecial 3, 1, 0, 0, 0, []),
  (.aload_n 0, 4, 0, 0, 0, []),
  (.bipush 61, 5, 0, 0, 61, []),
  (.newarray .int, 7, 1, 0, 0, [5, 302]),
  (.putfield 9, 9, 7, 1, 0, [2]),
  (.aload_n 0, 12, 0, 0, 0, []),
  (.bipush 61, 13, 0, 0, 61, []),
  (.newarray .int, 15, 1, 0, 0, [5, 302]),
  (.putfield 15, 17, 7, 2, 0, [2]),
  (.aload_n 0, 20, 0, 0, 0, []),
  (.bipush 60, 21, 0, 0, 60, []),
  (.newarray .int, 23, 1, 0, 0, [5, 302]),
  (.putfield 18, 25, 7, 3, 0, [2]),
  (.aload_n 0, 28, 0, 0, 0, []),
  (.bipush 60, 29, 0, 0, 60, []),
  (.newarray .int, 31, 1, 0, 0, [5, 302]),
  (.putfield 21, 33, 7, 4, 0, [2]),
  (.aload_n 0, 36, 0, 0, 0, []),
  (.bipush 60, 37, 0, 0, 60, []),
  (.newarray .int, 39, 1, 0, 0, [5, 302]),
  (.putfield 24, 41, 7, 5, 0, [2]),
  (.aload_n 0, 44, 0, 0, 0, []),
  (.aload_n 1, 45, 1, 0, 0, []),
  (.putfield 27, 46, 7, 0, 0, [2]),
  (.return_, 49, 0, 0, 0, [])]
/-- 8: Ways_init(LBorrowedWords$Shelf;LBorrowedWords$Runs;LBorrowedWords$Explanation;)V -/
def kc8 : List In_ := [(.aload_n 0, 0, 0, 0, 0, []),
  (.invokespecial 3, 1, 0, 0, 0, []),
  (.aload_n 0, 4, 0, 0, 0, []),
  (.bipush 10, 5, 0, 0, 10, []),
  (.bipush 60, 7, 0, 0, 60, []),
  (.multianewarray 9 2, 9, 5, 1, 0, [22, 1220]),
  (.putfield 11, 13, 8, 3, 0, [2]),
  (.aload_n 0, 16, 0, 0, 0, []),
  (.bipush 10, 17, 0, 0, 10, []),
  (.bipush 60, 19, 0, 0, 60, []),
  (.multianewarray 9 2, 21, 5, 1, 0, [22, 1220]),
  (.putfield 16, 25, 8, 4, 0, [2]),
  (.aload_n 0, 28, 0, 0, 0, []),
  (.aload_n 1, 29, 1, 0, 0, []),
  (.putfield 19, 30, 8, 0, 0, [2]),
  (.aload_n 0, 33, 0, 0, 0, []),
  (.aload_n 2, 34, 2, 0, 0, []),
  (.putfield 23, 35, 8, 1, 0, [2]),
  (.aload_n 0, 38, 0, 0, 0, []),
  (.aload_n 3, 39, 3, 0, 0, []),
  (.putfield 27, 40, 8, 2, 0, [2]),
  (.return_, 43, 0, 0, 0, [])]
/-- 9: RowTable_init(LBorrowedWords$Shelf;)V -/
def kc9 : List In_ := [(.aload_n 0, 0, 0, 0, 0, []),
  (.invokespecial 3, 1, 0, 0, 0, []),
  (.aload_n 0, 4, 0, 0, 0, []),
  (.bipush 10, 5, 0, 0, 10, []),
  (.bipush 60, 7, 0, 0, 60, []),
  (.multianewarray 9 2, 9, 6, 2, 0, [13, 630]),
  (.putfield 11, 13, 9, 1, 0, [2]),
  (.aload_n 0, 16, 0, 0, 0, []),
  (.bipush 10, 17, 0, 0, 10, []),
  (.newarray .int, 19, 1, 0, 0, [13, 630]),
  (.putfield 16, 21, 9, 2, 0, [2]),
  (.aload_n 0, 24, 0, 0, 0, []),
  (.bipush 10, 25, 0, 0, 10, []),
  (.newarray .int, 27, 1, 0, 0, [13, 630]),
  (.putfield 20, 29, 9, 3, 0, [2]),
  (.aload_n 0, 32, 0, 0, 0, []),
  (.aload_n 1, 33, 1, 0, 0, []),
  (.putfield 23, 34, 9, 0, 0, [2]),
  (.return_, 37, 0, 0, 0, [])]
/-- 10: Sentences_init()V -/
def kc10 : List In_ := [(.aload_n 0, 0, 0, 0, 0, []),
  (.invokespecial 3, 1, 0, 0, 0, []),
  (.aload_n 0, 4, 0, 0, 0, []),
  (.bipush 60, 5, 0, 0, 60, []),
  (.newarray .int, 7, 1, 0, 0, [4, 240]),
  (.putfield 9, 9, 10, 0, 0, [2]),
  (.aload_n 0, 12, 0, 0, 0, []),
  (.bipush 60, 13, 0, 0, 60, []),
  (.newarray .int, 15, 1, 0, 0, [4, 240]),
  (.putfield 15, 17, 10, 1, 0, [2]),
  (.aload_n 0, 20, 0, 0, 0, []),
  (.bipush 60, 21, 0, 0, 60, []),
  (.newarray .int, 23, 1, 0, 0, [4, 240]),
  (.putfield 18, 25, 10, 2, 0, [2]),
  (.aload_n 0, 28, 0, 0, 0, []),
  (.bipush 60, 29, 0, 0, 60, []),
  (.newarray .int, 31, 1, 0, 0, [4, 240]),
  (.putfield 21, 33, 10, 3, 0, [2]),
  (.return_, 36, 0, 0, 0, [])]
/-- 11: BW_init()V -/
def kc11 : List In_ := [(.aload_n 0, 0, 0, 0, 0, []),
  (.invokespecial 1, 1, 0, 0, 0, []),
  (.aload_n 0, 4, 0, 0, 0, []),
  (.new 7, 5, 1, 2, 0, [111, 5045]),
  (.dup, 8, 0, 0, 0, []),
  (.invokespecial 9, 9, 1, 0, 0, [1, 21, 660, 111, 5045]),
  (.putfield 10, 12, 11, 0, 0, [2]),
  (.aload_n 0, 15, 0, 0, 0, []),
  (.new 16, 16, 2, 3, 0, [111, 5045]),
  (.dup, 19, 0, 0, 0, []),
  (.invokespecial 18, 20, 2, 0, 0, [1, 3, 603, 111, 5045]),
  (.putfield 19, 23, 11, 1, 0, [2]),
  (.aload_n 0, 26, 0, 0, 0, []),
  (.new 23, 27, 3, 6, 0, [111, 5045]),
  (.dup, 30, 0, 0, 0, []),
  (.aload_n 0, 31, 0, 0, 0, []),
  (.getfield 10, 32, 11, 0, 0, [2]),
  (.invokespecial 25, 35, 3, 0, 0, [2, 4, 120, 111, 5045]),
  (.putfield 28, 38, 11, 2, 0, [2]),
  (.aload_n 0, 41, 0, 0, 0, []),
  (.new 32, 42, 4, 7, 0, [111, 5045]),
  (.dup, 45, 0, 0, 0, []),
  (.invokespecial 34, 46, 4, 0, 0, [1, 2, 127, 111, 5045]),
  (.putfield 35, 49, 11, 3, 0, [2]),
  (.aload_n 0, 52, 0, 0, 0, []),
  (.new 39, 53, 5, 4, 0, [111, 5045]),
  (.dup, 56, 0, 0, 0, []),
  (.invokespecial 41, 57, 5, 0, 0, [1, 11, 80, 111, 5045]),
  (.putfield 42, 60, 11, 4, 0, [2]),
  (.aload_n 0, 63, 0, 0, 0, []),
  (.new 46, 64, 6, 15, 0, [111, 5045]),
  (.dup, 67, 0, 0, 0, []),
  (.aload_n 0, 68, 0, 0, 0, []),
  (.getfield 10, 69, 11, 0, 0, [2]),
  (.aload_n 0, 72, 0, 0, 0, []),
  (.getfield 19, 73, 11, 1, 0, [2]),
  (.aload_n 0, 76, 0, 0, 0, []),
  (.getfield 42, 77, 11, 4, 0, [2]),
  (.invokespecial 48, 80, 6, 0, 0, [4, 16, 996, 111, 5045]),
  (.putfield 51, 83, 11, 5, 0, [2]),
  (.aload_n 0, 86, 0, 0, 0, []),
  (.new 55, 87, 7, 8, 0, [111, 5045]),
  (.dup, 90, 0, 0, 0, []),
  (.aload_n 0, 91, 0, 0, 0, []),
  (.getfield 51, 92, 11, 5, 0, [2]),
  (.invokespecial 57, 95, 7, 0, 0, [2, 5, 302, 111, 5045]),
  (.putfield 60, 98, 11, 6, 0, [2]),
  (.aload_n 0, 101, 0, 0, 0, []),
  (.new 64, 102, 8, 10, 0, [111, 5045]),
  (.dup, 105, 0, 0, 0, []),
  (.aload_n 0, 106, 0, 0, 0, []),
  (.getfield 10, 107, 11, 0, 0, [2]),
  (.aload_n 0, 110, 0, 0, 0, []),
  (.getfield 51, 111, 11, 5, 0, [2]),
  (.aload_n 0, 114, 0, 0, 0, []),
  (.getfield 60, 115, 11, 6, 0, [2]),
  (.invokespecial 66, 118, 8, 0, 0, [4, 22, 1220, 111, 5045]),
  (.putfield 69, 121, 11, 7, 0, [2]),
  (.aload_n 0, 124, 0, 0, 0, []),
  (.new 73, 125, 9, 6, 0, [111, 5045]),
  (.dup, 128, 0, 0, 0, []),
  (.aload_n 0, 129, 0, 0, 0, []),
  (.getfield 10, 130, 11, 0, 0, [2]),
  (.invokespecial 75, 133, 9, 0, 0, [2, 13, 630, 111, 5045]),
  (.putfield 76, 136, 11, 8, 0, [2]),
  (.aload_n 0, 139, 0, 0, 0, []),
  (.new 80, 140, 10, 6, 0, [111, 5045]),
  (.dup, 143, 0, 0, 0, []),
  (.invokespecial 82, 144, 10, 0, 0, [1, 4, 240, 111, 5045]),
  (.putfield 83, 147, 11, 9, 0, [2]),
  (.return_, 150, 0, 0, 0, [])]
/-- 12: Mo_init()V -/
def kc12_0 : List In_ := [(.aload_n 0, 0, 0, 0, 0, []),
  (.invokespecial 1, 1, 0, 0, 0, []),
  (.aload_n 0, 4, 0, 0, 0, []),
  (.bipush 16, 5, 0, 0, 16, []),
  (.newarray .int, 7, 1, 0, 0, [28, 7965]),
  (.putfield 7, 9, 12, 1, 0, [2]),
  (.aload_n 0, 12, 0, 0, 0, []),
  (.bipush 16, 13, 0, 0, 16, []),
  (.newarray .int, 15, 1, 0, 0, [28, 7965]),
  (.putfield 13, 17, 12, 2, 0, [2]),
  (.aload_n 0, 20, 0, 0, 0, []),
  (.bipush 16, 21, 0, 0, 16, []),
  (.newarray .int, 23, 1, 0, 0, [28, 7965]),
  (.putfield 16, 25, 12, 3, 0, [2]),
  (.aload_n 0, 28, 0, 0, 0, []),
  (.sipush 960, 29, 0, 0, 960, []),
  (.newarray .int, 32, 1, 0, 0, [28, 7965]),
  (.putfield 19, 34, 12, 4, 0, [2]),
  (.aload_n 0, 37, 0, 0, 0, []),
  (.sipush 960, 38, 0, 0, 960, []),
  (.newarray .boolean, 41, 3, 0, 0, [28, 7965]),
  (.putfield 22, 43, 12, 5, 0, [2]),
  (.aload_n 0, 46, 0, 0, 0, []),
  (.sipush 201, 47, 0, 0, 201, []),
  (.newarray .int, 50, 1, 0, 0, [28, 7965]),
  (.putfield 26, 52, 12, 6, 0, [2]),
  (.aload_n 0, 55, 0, 0, 0, []),
  (.sipush 201, 56, 0, 0, 201, []),
  (.newarray .boolean, 59, 3, 0, 0, [28, 7965]),
  (.putfield 29, 61, 12, 7, 0, [2]),
  (.aload_n 0, 64, 0, 0, 0, []),
  (.bipush 30, 65, 0, 0, 30, []),
  (.newarray .int, 67, 1, 0, 0, [28, 7965]),
  (.putfield 32, 69, 12, 10, 0, [2]),
  (.aload_n 0, 72, 0, 0, 0, []),
  (.bipush 30, 73, 0, 0, 30, []),
  (.newarray .int, 75, 1, 0, 0, [28, 7965]),
  (.putfield 35, 77, 12, 11, 0, [2]),
  (.aload_n 0, 80, 0, 0, 0, []),
  (.bipush 30, 81, 0, 0, 30, []),
  (.newarray .int, 83, 1, 0, 0, [28, 7965]),
  (.putfield 38, 85, 12, 12, 0, [2]),
  (.aload_n 0, 88, 0, 0, 0, []),
  (.bipush 30, 89, 0, 0, 30, []),
  (.newarray .int, 91, 1, 0, 0, [28, 7965]),
  (.putfield 41, 93, 12, 13, 0, [2]),
  (.aload_n 0, 96, 0, 0, 0, []),
  (.bipush 8, 97, 0, 0, 8, []),
  (.newarray .int, 99, 1, 0, 0, [28, 7965]),
  (.putfield 44, 101, 12, 15, 0, [2]),
  (.aload_n 0, 104, 0, 0, 0, []),
  (.bipush 9, 105, 0, 0, 9, []),
  (.newarray .int, 107, 1, 0, 0, [28, 7965]),
  (.putfield 47, 109, 12, 16, 0, [2]),
  (.aload_n 0, 112, 0, 0, 0, []),
  (.bipush 72, 113, 0, 0, 72, []),
  (.newarray .int, 115, 1, 0, 0, [28, 7965]),
  (.putfield 50, 117, 12, 18, 0, [2]),
  (.aload_n 0, 120, 0, 0, 0, []),
  (.bipush 72, 121, 0, 0, 72, []),
  (.newarray .int, 123, 1, 0, 0, [28, 7965]),
  (.putfield 53, 125, 12, 19, 0, [2]),
  (.aload_n 0, 128, 0, 0, 0, []),
  (.bipush 8, 129, 0, 0, 8, []),
  (.newarray .boolean, 131, 3, 0, 0, [28, 7965]),
  (.putfield 56, 133, 12, 20, 0, [2]),
  (.aload_n 0, 136, 0, 0, 0, []),
  (.bipush 7, 137, 0, 0, 7, []),
  (.newarray .int, 139, 1, 0, 0, [28, 7965]),
  (.putfield 59, 141, 12, 21, 0, [2]),
  (.aload_n 0, 144, 0, 0, 0, []),
  (.bipush 120, 145, 0, 0, 120, []),
  (.newarray .int, 147, 1, 0, 0, [28, 7965]),
  (.putfield 62, 149, 12, 22, 0, [2]),
  (.aload_n 0, 152, 0, 0, 0, []),
  (.iconst (-1), 153, 0, 0, (-1), []),
  (.putfield 65, 154, 12, 24, 0, [0]),
  (.aload_n 0, 157, 0, 0, 0, []),
  (.sipush 3660, 158, 0, 0, 3660, []),
  (.newarray .int, 161, 1, 0, 0, [28, 7965]),
  (.putfield 69, 163, 12, 29, 0, [2]),
  (.aload_n 0, 166, 0, 0, 0, []),
  (.bipush 61, 167, 0, 0, 61, []),
  (.newarray .int, 169, 1, 0, 0, [28, 7965]),
  (.putfield 72, 171, 12, 31, 0, [2]),
  (.aload_n 0, 174, 0, 0, 0, []),
  (.bipush 61, 175, 0, 0, 61, []),
  (.newarray .int, 177, 1, 0, 0, [28, 7965]),
  (.putfield 75, 179, 12, 32, 0, [2]),
  (.aload_n 0, 182, 0, 0, 0, []),
  (.bipush 61, 183, 0, 0, 61, []),
  (.newarray .int, 185, 1, 0, 0, [28, 7965]),
  (.putfield 78, 187, 12, 33, 0, [2]),
  (.aload_n 0, 190, 0, 0, 0, []),
  (.sipush 960, 191, 0, 0, 960, []),
  (.newarray .int, 194, 1, 0, 0, [28, 7965]),
  (.putfield 81, 196, 12, 34, 0, [2]),
  (.aload_n 0, 199, 0, 0, 0, []),
  (.bipush 16, 200, 0, 0, 16, []),
  (.newarray .int, 202, 1, 0, 0, [28, 7965])]
def kc12_1 : List In_ := [(.putfield 84, 204, 12, 37, 0, [2]),
  (.aload_n 0, 207, 0, 0, 0, []),
  (.bipush 120, 208, 0, 0, 120, []),
  (.newarray .int, 210, 1, 0, 0, [28, 7965]),
  (.putfield 87, 212, 12, 38, 0, [2]),
  (.aload_n 0, 215, 0, 0, 0, []),
  (.bipush 120, 216, 0, 0, 120, []),
  (.newarray .int, 218, 1, 0, 0, [28, 7965]),
  (.putfield 90, 220, 12, 39, 0, [2]),
  (.aload_n 0, 223, 0, 0, 0, []),
  (.bipush 60, 224, 0, 0, 60, []),
  (.newarray .int, 226, 1, 0, 0, [28, 7965]),
  (.putfield 93, 228, 12, 40, 0, [2]),
  (.aload_n 0, 231, 0, 0, 0, []),
  (.bipush 60, 232, 0, 0, 60, []),
  (.newarray .int, 234, 1, 0, 0, [28, 7965]),
  (.putfield 96, 236, 12, 41, 0, [2]),
  (.iconst 0, 239, 0, 0, 0, []),
  (.istore_n 1, 240, 1, 0, 0, []),
  (.iload_n 1, 241, 1, 0, 0, []),
  (.sipush 200, 242, 0, 0, 200, []),
  (.if_icmp .gt 16, 245, 129, 0, 0, []),
  (.aload_n 0, 248, 0, 0, 0, []),
  (.getfield 26, 249, 12, 6, 0, [2]),
  (.iload_n 1, 252, 1, 0, 0, []),
  (.iload_n 1, 253, 1, 0, 0, []),
  (.iastore, 254, 0, 0, 0, []),
  (.iinc 1 1, 255, 1, 0, 1, []),
  (.goto (-17), 258, 119, 0, 0, []),
  (.return_, 261, 0, 0, 0, [])]
def kc12 : List In_ := kc12_0 ++ kc12_1
/-- 13: BW_isDay(I)Z -/
def kc13 : List In_ := [(.iload_n 0, 0, 0, 0, 0, []),
  (.ifCond .lt 14, 1, 7, 0, 0, []),
  (.iload_n 0, 4, 0, 0, 0, []),
  (.sipush 999, 5, 0, 0, 999, []),
  (.if_icmp .gt 7, 8, 7, 0, 0, []),
  (.iconst 1, 11, 0, 0, 1, []),
  (.goto 4, 12, 8, 0, 0, []),
  (.iconst 0, 15, 0, 0, 0, []),
  (.ireturn, 16, 1, 0, 0, [])]
/-- 14: BW_forget()V -/
def kc14 : List In_ := [(.aload_n 0, 0, 0, 0, 0, []),
  (.getfield 51, 1, 11, 5, 0, [2]),
  (.iconst (-1), 4, 0, 0, (-1), []),
  (.putfield 335, 5, 6, 9, 0, [0]),
  (.aload_n 0, 8, 0, 0, 0, []),
  (.getfield 69, 9, 11, 7, 0, [2]),
  (.iconst 0, 12, 0, 0, 0, []),
  (.putfield 338, 13, 8, 5, 0, [3]),
  (.return_, 16, 0, 0, 0, [])]
/-- 15: Shelf_open(II)I -/
def kc15 : List In_ := [(.aload_n 0, 0, 0, 0, 0, []),
  (.getfield 18, 1, 1, 1, 0, [0]),
  (.bipush 10, 4, 0, 0, 10, []),
  (.if_icmp .lt 7, 6, 6, 0, 0, []),
  (.sipush (-1004), 9, 0, 0, (-1004), []),
  (.ireturn, 12, 0, 0, 0, []),
  (.aload_n 0, 13, 0, 0, 0, []),
  (.getfield 11, 14, 1, 0, 0, [2]),
  (.aload_n 0, 17, 0, 0, 0, []),
  (.getfield 18, 18, 1, 1, 0, [0]),
  (.aaload, 21, 0, 0, 0, []),
  (.astore_n 3, 22, 3, 0, 0, []),
  (.aload_n 3, 23, 3, 0, 0, []),
  (.iload_n 1, 24, 1, 0, 0, []),
  (.putfield 22, 25, 0, 2, 0, [0]),
  (.aload_n 3, 28, 3, 0, 0, []),
  (.iload_n 2, 29, 2, 0, 0, []),
  (.putfield 25, 30, 0, 3, 0, [0]),
  (.aload_n 0, 33, 0, 0, 0, []),
  (.dup, 34, 0, 0, 0, []),
  (.getfield 18, 35, 1, 1, 0, [0]),
  (.iconst 1, 38, 0, 0, 1, []),
  (.iadd, 39, 0, 0, 0, []),
  (.putfield 18, 40, 1, 1, 0, [0]),
  (.aload_n 0, 43, 0, 0, 0, []),
  (.getfield 18, 44, 1, 1, 0, [0]),
  (.iconst 1, 47, 0, 0, 1, []),
  (.isub, 48, 0, 0, 0, []),
  (.ireturn, 49, 0, 0, 0, [])]
/-- 16: BW_text(II)I -/
def kc16 : List In_ := [(.iload_n 1, 0, 1, 0, 0, []),
  (.ifCond .lt 16, 1, 8, 0, 0, []),
  (.iload_n 1, 4, 1, 0, 0, []),
  (.bipush 9, 5, 0, 0, 9, []),
  (.if_icmp .gt 10, 7, 8, 0, 0, []),
  (.iload_n 2, 10, 2, 0, 0, []),
  (.invokestatic 87, 11, 13, 0, 0, [1, 0, 0, 0, 0]),
  (.ifCond .ne 7, 14, 10, 0, 0, []),
  (.sipush (-1002), 17, 0, 0, (-1002), []),
  (.ireturn, 20, 0, 0, 0, []),
  (.aload_n 0, 21, 0, 0, 0, []),
  (.getfield 10, 22, 11, 0, 0, [2]),
  (.getfield 91, 25, 1, 1, 0, [0]),
  (.bipush 10, 28, 0, 0, 10, []),
  (.if_icmp .lt 7, 30, 17, 0, 0, []),
  (.sipush (-1004), 33, 0, 0, (-1004), []),
  (.ireturn, 36, 0, 0, 0, []),
  (.aload_n 0, 37, 0, 0, 0, []),
  (.invokevirtual 95, 38, 14, 0, 0, [1, 11, 0, 0, 0, 0]),
  (.aload_n 0, 41, 0, 0, 0, []),
  (.getfield 10, 42, 11, 0, 0, [2]),
  (.iload_n 1, 45, 1, 0, 0, []),
  (.iload_n 2, 46, 2, 0, 0, []),
  (.invokevirtual 98, 47, 15, 0, 0, [3, 1, 0, 0, 0, 0]),
  (.ireturn, 50, 0, 0, 0, [])]
/-- 17: Mo_in(JJJ)Z -/
def kc17 : List In_ := [(.lload_n 0, 0, 0, 0, 0, []),
  (.lload_n 2, 1, 2, 0, 0, []),
  (.lcmp, 2, 0, 0, 0, []),
  (.ifCond .lt 14, 3, 10, 0, 0, []),
  (.lload_n 0, 6, 0, 0, 0, []),
  (.lload 4, 7, 4, 0, 0, []),
  (.lcmp, 9, 0, 0, 0, []),
  (.ifCond .gt 7, 10, 10, 0, 0, []),
  (.iconst 1, 13, 0, 0, 1, []),
  (.goto 4, 14, 11, 0, 0, []),
  (.iconst 0, 17, 0, 0, 0, []),
  (.ireturn, 18, 1, 0, 0, [])]
/-- 18: Mo_text(II)I -/
def kc18 : List In_ := [(.iload_n 1, 0, 1, 0, 0, []),
  (.i2l, 1, 0, 0, 0, []),
  (.lconst 0, 2, 0, 0, 0, []),
  (.ldc2_w 106, 3, 0, 0, 9, []),
  (.invokestatic 102, 6, 17, 0, 0, [3, 0, 0, 0, 0]),
  (.ifCond .eq 15, 9, 12, 0, 0, []),
  (.iload_n 2, 12, 2, 0, 0, []),
  (.i2l, 13, 0, 0, 0, []),
  (.lconst 0, 14, 0, 0, 0, []),
  (.ldc2_w 108, 15, 0, 0, 999, []),
  (.invokestatic 102, 18, 17, 0, 0, [3, 0, 0, 0, 0]),
  (.ifCond .ne 7, 21, 14, 0, 0, []),
  (.sipush (-1002), 24, 0, 0, (-1002), []),
  (.ireturn, 27, 0, 0, 0, []),
  (.aload_n 0, 28, 0, 0, 0, []),
  (.getfield 99, 29, 12, 0, 0, [0]),
  (.bipush 10, 32, 0, 0, 10, []),
  (.if_icmp .ne 7, 34, 20, 0, 0, []),
  (.sipush (-1004), 37, 0, 0, (-1004), []),
  (.ireturn, 40, 0, 0, 0, []),
  (.aload_n 0, 41, 0, 0, 0, []),
  (.getfield 7, 42, 12, 1, 0, [2]),
  (.aload_n 0, 45, 0, 0, 0, []),
  (.getfield 99, 46, 12, 0, 0, [0]),
  (.iload_n 1, 49, 1, 0, 0, []),
  (.iastore, 50, 0, 0, 0, []),
  (.aload_n 0, 51, 0, 0, 0, []),
  (.getfield 13, 52, 12, 2, 0, [2]),
  (.aload_n 0, 55, 0, 0, 0, []),
  (.getfield 99, 56, 12, 0, 0, [0]),
  (.iload_n 2, 59, 2, 0, 0, []),
  (.iastore, 60, 0, 0, 0, []),
  (.aload_n 0, 61, 0, 0, 0, []),
  (.getfield 16, 62, 12, 3, 0, [2]),
  (.aload_n 0, 65, 0, 0, 0, []),
  (.getfield 99, 66, 12, 0, 0, [0]),
  (.iconst 0, 69, 0, 0, 0, []),
  (.iastore, 70, 0, 0, 0, []),
  (.aload_n 0, 71, 0, 0, 0, []),
  (.dup, 72, 0, 0, 0, []),
  (.getfield 99, 73, 12, 0, 0, [0]),
  (.iconst 1, 76, 0, 0, 1, []),
  (.iadd, 77, 0, 0, 0, []),
  (.putfield 99, 78, 12, 0, 0, [0]),
  (.aload_n 0, 81, 0, 0, 0, []),
  (.iconst 0, 82, 0, 0, 0, []),
  (.putfield 110, 83, 12, 8, 0, [3]),
  (.aload_n 0, 86, 0, 0, 0, []),
  (.getfield 99, 87, 12, 0, 0, [0]),
  (.iconst 1, 90, 0, 0, 1, []),
  (.isub, 91, 0, 0, 0, []),
  (.ireturn, 92, 0, 0, 0, [])]
/-- 19: Shelf_has(I)Z -/
def kc19 : List In_ := [(.iload_n 1, 0, 1, 0, 0, []),
  (.ifCond .lt 15, 1, 8, 0, 0, []),
  (.iload_n 1, 4, 1, 0, 0, []),
  (.aload_n 0, 5, 0, 0, 0, []),
  (.getfield 18, 6, 1, 1, 0, [0]),
  (.if_icmp .ge 7, 9, 8, 0, 0, []),
  (.iconst 1, 12, 0, 0, 1, []),
  (.goto 4, 13, 9, 0, 0, []),
  (.iconst 0, 16, 0, 0, 0, []),
  (.ireturn, 17, 1, 0, 0, [])]
/-- 20: BW_isWord(I)Z -/
def kc20 : List In_ := [(.iload_n 0, 0, 0, 0, 0, []),
  (.iconst 1, 1, 0, 0, 1, []),
  (.if_icmp .lt 14, 2, 8, 0, 0, []),
  (.iload_n 0, 5, 0, 0, 0, []),
  (.sipush 200, 6, 0, 0, 200, []),
  (.if_icmp .gt 7, 9, 8, 0, 0, []),
  (.iconst 1, 12, 0, 0, 1, []),
  (.goto 4, 13, 9, 0, 0, []),
  (.iconst 0, 16, 0, 0, 0, []),
  (.ireturn, 17, 1, 0, 0, [])]
/-- 21: Text_hasRoomFor(I)Z -/
def kc21 : List In_ := [(.aload_n 0, 0, 0, 0, 0, []),
  (.getfield 15, 1, 0, 4, 0, [0]),
  (.iload_n 1, 4, 1, 0, 0, []),
  (.iadd, 5, 0, 0, 0, []),
  (.bipush 60, 6, 0, 0, 60, []),
  (.if_icmp .gt 7, 8, 8, 0, 0, []),
  (.iconst 1, 11, 0, 0, 1, []),
  (.goto 4, 12, 9, 0, 0, []),
  (.iconst 0, 15, 0, 0, 0, []),
  (.ireturn, 16, 1, 0, 0, [])]
/-- 22: Text_append(I)V -/
def kc22 : List In_ := [(.aload_n 0, 0, 0, 0, 0, []),
  (.getfield 15, 1, 0, 4, 0, [0]),
  (.bipush 60, 4, 0, 0, 60, []),
  (.if_icmp .lt 4, 6, 5, 0, 0, []),
  (.return_, 9, 0, 0, 0, []),
  (.aload_n 0, 10, 0, 0, 0, []),
  (.getfield 9, 11, 0, 0, 0, [2]),
  (.aload_n 0, 14, 0, 0, 0, []),
  (.getfield 15, 15, 0, 4, 0, [0]),
  (.iload_n 1, 18, 1, 0, 0, []),
  (.iastore, 19, 0, 0, 0, []),
  (.aload_n 0, 20, 0, 0, 0, []),
  (.dup, 21, 0, 0, 0, []),
  (.getfield 15, 22, 0, 4, 0, [0]),
  (.iconst 1, 25, 0, 0, 1, []),
  (.iadd, 26, 0, 0, 0, []),
  (.putfield 15, 27, 0, 4, 0, [0]),
  (.return_, 30, 0, 0, 0, [])]
/-- 23: BW_word(II)I -/
def kc23 : List In_ := [(.aload_n 0, 0, 0, 0, 0, []),
  (.getfield 10, 1, 11, 0, 0, [2]),
  (.iload_n 1, 4, 1, 0, 0, []),
  (.invokevirtual 102, 5, 19, 0, 0, [2, 1, 0, 0, 0, 0]),
  (.ifCond .ne 7, 8, 7, 0, 0, []),
  (.sipush (-1001), 11, 0, 0, (-1001), []),
  (.ireturn, 14, 0, 0, 0, []),
  (.iload_n 2, 15, 2, 0, 0, []),
  (.invokestatic 105, 16, 20, 0, 0, [1, 0, 0, 0, 0]),
  (.ifCond .ne 7, 19, 12, 0, 0, []),
  (.sipush (-1002), 22, 0, 0, (-1002), []),
  (.ireturn, 25, 0, 0, 0, []),
  (.aload_n 0, 26, 0, 0, 0, []),
  (.getfield 10, 27, 11, 0, 0, [2]),
  (.getfield 108, 30, 1, 0, 0, [2]),
  (.iload_n 1, 33, 1, 0, 0, []),
  (.aaload, 34, 0, 0, 0, []),
  (.astore_n 3, 35, 3, 0, 0, []),
  (.aload_n 3, 36, 3, 0, 0, []),
  (.iconst 1, 37, 0, 0, 1, []),
  (.invokevirtual 112, 38, 21, 0, 0, [2, 0, 0, 0, 0, 0]),
  (.ifCond .ne 7, 41, 24, 0, 0, []),
  (.sipush (-1004), 44, 0, 0, (-1004), []),
  (.ireturn, 47, 0, 0, 0, []),
  (.aload_n 0, 48, 0, 0, 0, []),
  (.invokevirtual 95, 49, 14, 0, 0, [1, 11, 0, 0, 0, 0]),
  (.aload_n 3, 52, 3, 0, 0, []),
  (.iload_n 2, 53, 2, 0, 0, []),
  (.invokevirtual 117, 54, 22, 0, 0, [2, 0, 0, 0, 0, 0]),
  (.aload_n 3, 57, 3, 0, 0, []),
  (.getfield 121, 58, 0, 4, 0, [0]),
  (.ireturn, 61, 0, 0, 0, [])]
/-- 24: Mo_isText(I)Z -/
def kc24 : List In_ := [(.iload_n 1, 0, 1, 0, 0, []),
  (.i2l, 1, 0, 0, 0, []),
  (.lconst 0, 2, 0, 0, 0, []),
  (.aload_n 0, 3, 0, 0, 0, []),
  (.getfield 99, 4, 12, 0, 0, [0]),
  (.iconst 1, 7, 0, 0, 1, []),
  (.isub, 8, 0, 0, 0, []),
  (.i2l, 9, 0, 0, 0, []),
  (.invokestatic 102, 10, 17, 0, 0, [3, 0, 0, 0, 0]),
  (.ireturn, 13, 1, 0, 0, [])]
/-- 25: Mo_put(IIZ)V -/
def kc25 : List In_ := [(.aload_n 0, 0, 0, 0, 0, []),
  (.getfield 19, 1, 12, 4, 0, [2]),
  (.bipush 60, 4, 0, 0, 60, []),
  (.iload_n 1, 6, 1, 0, 0, []),
  (.imul, 7, 0, 0, 0, []),
  (.aload_n 0, 8, 0, 0, 0, []),
  (.getfield 16, 9, 12, 3, 0, [2]),
  (.iload_n 1, 12, 1, 0, 0, []),
  (.iaload, 13, 0, 0, 0, []),
  (.iadd, 14, 0, 0, 0, []),
  (.iload_n 2, 15, 2, 0, 0, []),
  (.iastore, 16, 0, 0, 0, []),
  (.aload_n 0, 17, 0, 0, 0, []),
  (.getfield 22, 18, 12, 5, 0, [2]),
  (.bipush 60, 21, 0, 0, 60, []),
  (.iload_n 1, 23, 1, 0, 0, []),
  (.imul, 24, 0, 0, 0, []),
  (.aload_n 0, 25, 0, 0, 0, []),
  (.getfield 16, 26, 12, 3, 0, [2]),
  (.iload_n 1, 29, 1, 0, 0, []),
  (.iaload, 30, 0, 0, 0, []),
  (.iadd, 31, 0, 0, 0, []),
  (.iload_n 3, 32, 3, 0, 0, []),
  (.bastore, 33, 0, 0, 0, []),
  (.aload_n 0, 34, 0, 0, 0, []),
  (.getfield 16, 35, 12, 3, 0, [2]),
  (.iload_n 1, 38, 1, 0, 0, []),
  (.dup2, 39, 0, 0, 0, []),
  (.iaload, 40, 0, 0, 0, []),
  (.iconst 1, 41, 0, 0, 1, []),
  (.iadd, 42, 0, 0, 0, []),
  (.iastore, 43, 0, 0, 0, []),
  (.return_, 44, 0, 0, 0, [])]
/-- 26: Mo_word(II)I -/
def kc26 : List In_ := [(.aload_n 0, 0, 0, 0, 0, []),
  (.iload_n 1, 1, 1, 0, 0, []),
  (.invokevirtual 114, 2, 24, 0, 0, [2, 12, 0, 0, 0, 0]),
  (.ifCond .ne 7, 5, 6, 0, 0, []),
  (.sipush (-1001), 8, 0, 0, (-1001), []),
  (.ireturn, 11, 0, 0, 0, []),
  (.iload_n 2, 12, 2, 0, 0, []),
  (.i2l, 13, 0, 0, 0, []),
  (.lconst 1, 14, 0, 0, 1, []),
  (.ldc2_w 118, 15, 0, 0, 200, []),
  (.invokestatic 102, 18, 17, 0, 0, [3, 0, 0, 0, 0]),
  (.ifCond .ne 7, 21, 14, 0, 0, []),
  (.sipush (-1002), 24, 0, 0, (-1002), []),
  (.ireturn, 27, 0, 0, 0, []),
  (.aload_n 0, 28, 0, 0, 0, []),
  (.getfield 16, 29, 12, 3, 0, [2]),
  (.iload_n 1, 32, 1, 0, 0, []),
  (.iaload, 33, 0, 0, 0, []),
  (.bipush 60, 34, 0, 0, 60, []),
  (.if_icmp .ne 7, 36, 22, 0, 0, []),
  (.sipush (-1004), 39, 0, 0, (-1004), []),
  (.ireturn, 42, 0, 0, 0, []),
  (.aload_n 0, 43, 0, 0, 0, []),
  (.iload_n 1, 44, 1, 0, 0, []),
  (.iload_n 2, 45, 2, 0, 0, []),
  (.iconst 0, 46, 0, 0, 0, []),
  (.invokevirtual 120, 47, 25, 0, 0, [4, 12, 0, 0, 0, 0]),
  (.aload_n 0, 50, 0, 0, 0, []),
  (.iconst 0, 51, 0, 0, 0, []),
  (.putfield 110, 52, 12, 8, 0, [3]),
  (.aload_n 0, 55, 0, 0, 0, []),
  (.getfield 16, 56, 12, 3, 0, [2]),
  (.iload_n 1, 59, 1, 0, 0, []),
  (.iaload, 60, 0, 0, 0, []),
  (.ireturn, 61, 0, 0, 0, [])]
/-- 27: Text_stopsBehind(I)Z -/
def kc27 : List In_ := [(.aload_n 0, 0, 0, 0, 0, []),
  (.getfield 19, 1, 0, 1, 0, [1]),
  (.iload_n 1, 4, 1, 0, 0, []),
  (.lushr, 5, 0, 0, 0, []),
  (.lconst 1, 6, 0, 0, 1, []),
  (.land, 7, 0, 0, 0, []),
  (.lconst 0, 8, 0, 0, 0, []),
  (.lcmp, 9, 0, 0, 0, []),
  (.ifCond .eq 7, 10, 11, 0, 0, []),
  (.iconst 1, 13, 0, 0, 1, []),
  (.goto 4, 14, 12, 0, 0, []),
  (.iconst 0, 17, 0, 0, 0, []),
  (.ireturn, 18, 1, 0, 0, [])]
/-- 28: Text_endsWithStop()Z -/
def kc28 : List In_ := [(.aload_n 0, 0, 0, 0, 0, []),
  (.getfield 15, 1, 0, 4, 0, [0]),
  (.ifCond .le 20, 4, 12, 0, 0, []),
  (.aload_n 0, 7, 0, 0, 0, []),
  (.aload_n 0, 8, 0, 0, 0, []),
  (.getfield 15, 9, 0, 4, 0, [0]),
  (.iconst 1, 12, 0, 0, 1, []),
  (.isub, 13, 0, 0, 0, []),
  (.invokevirtual 23, 14, 27, 0, 0, [2, 0, 0, 0, 0, 0]),
  (.ifCond .eq 7, 17, 12, 0, 0, []),
  (.iconst 1, 20, 0, 0, 1, []),
  (.goto 4, 21, 13, 0, 0, []),
  (.iconst 0, 24, 0, 0, 0, []),
  (.ireturn, 25, 1, 0, 0, [])]
/-- 29: Text_appendStop()V -/
def kc29 : List In_ := [(.aload_n 0, 0, 0, 0, 0, []),
  (.getfield 15, 1, 0, 4, 0, [0]),
  (.ifCond .le 20, 4, 14, 0, 0, []),
  (.aload_n 0, 7, 0, 0, 0, []),
  (.dup, 8, 0, 0, 0, []),
  (.getfield 19, 9, 0, 1, 0, [1]),
  (.lconst 1, 12, 0, 0, 1, []),
  (.aload_n 0, 13, 0, 0, 0, []),
  (.getfield 15, 14, 0, 4, 0, [0]),
  (.iconst 1, 17, 0, 0, 1, []),
  (.isub, 18, 0, 0, 0, []),
  (.lshl, 19, 0, 0, 0, []),
  (.lor, 20, 0, 0, 0, []),
  (.putfield 19, 21, 0, 1, 0, [1]),
  (.return_, 24, 0, 0, 0, [])]
/-- 30: Long_bitCount(J)I -/
def kc30 : List In_ := [(.lload_n 0, 0, 0, 0, 0, []),
  (.lload_n 0, 1, 0, 0, 0, []),
  (.iconst 1, 2, 0, 0, 1, []),
  (.lushr, 3, 0, 0, 0, []),
  (.ldc2_w 314, 4, 0, 0, 6148914691236517205, []),
  (.land, 7, 0, 0, 0, []),
  (.lsub, 8, 0, 0, 0, []),
  (.lstore_n 0, 9, 0, 0, 0, []),
  (.lload_n 0, 10, 0, 0, 0, []),
  (.ldc2_w 316, 11, 0, 0, 3689348814741910323, []),
  (.land, 14, 0, 0, 0, []),
  (.lload_n 0, 15, 0, 0, 0, []),
  (.iconst 2, 16, 0, 0, 2, []),
  (.lushr, 17, 0, 0, 0, []),
  (.ldc2_w 316, 18, 0, 0, 3689348814741910323, []),
  (.land, 21, 0, 0, 0, []),
  (.ladd, 22, 0, 0, 0, []),
  (.lstore_n 0, 23, 0, 0, 0, []),
  (.lload_n 0, 24, 0, 0, 0, []),
  (.lload_n 0, 25, 0, 0, 0, []),
  (.iconst 4, 26, 0, 0, 4, []),
  (.lushr, 27, 0, 0, 0, []),
  (.ladd, 28, 0, 0, 0, []),
  (.ldc2_w 318, 29, 0, 0, 1085102592571150095, []),
  (.land, 32, 0, 0, 0, []),
  (.lstore_n 0, 33, 0, 0, 0, []),
  (.lload_n 0, 34, 0, 0, 0, []),
  (.lload_n 0, 35, 0, 0, 0, []),
  (.bipush 8, 36, 0, 0, 8, []),
  (.lushr, 38, 0, 0, 0, []),
  (.ladd, 39, 0, 0, 0, []),
  (.lstore_n 0, 40, 0, 0, 0, []),
  (.lload_n 0, 41, 0, 0, 0, []),
  (.lload_n 0, 42, 0, 0, 0, []),
  (.bipush 16, 43, 0, 0, 16, []),
  (.lushr, 45, 0, 0, 0, []),
  (.ladd, 46, 0, 0, 0, []),
  (.lstore_n 0, 47, 0, 0, 0, []),
  (.lload_n 0, 48, 0, 0, 0, []),
  (.lload_n 0, 49, 0, 0, 0, []),
  (.bipush 32, 50, 0, 0, 32, []),
  (.lushr, 52, 0, 0, 0, []),
  (.ladd, 53, 0, 0, 0, []),
  (.lstore_n 0, 54, 0, 0, 0, []),
  (.lload_n 0, 55, 0, 0, 0, []),
  (.l2i, 56, 0, 0, 0, []),
  (.bipush 127, 57, 0, 0, 127, []),
  (.iand, 59, 0, 0, 0, []),
  (.ireturn, 60, 0, 0, 0, [])]
/-- 31: BW_stop(I)I -/
def kc31 : List In_ := [(.aload_n 0, 0, 0, 0, 0, []),
  (.getfield 10, 1, 11, 0, 0, [2]),
  (.iload_n 1, 4, 1, 0, 0, []),
  (.invokevirtual 102, 5, 19, 0, 0, [2, 1, 0, 0, 0, 0]),
  (.ifCond .ne 7, 8, 7, 0, 0, []),
  (.sipush (-1001), 11, 0, 0, (-1001), []),
  (.ireturn, 14, 0, 0, 0, []),
  (.aload_n 0, 15, 0, 0, 0, []),
  (.getfield 10, 16, 11, 0, 0, [2]),
  (.getfield 108, 19, 1, 0, 0, [2]),
  (.iload_n 1, 22, 1, 0, 0, []),
  (.aaload, 23, 0, 0, 0, []),
  (.astore_n 2, 24, 2, 0, 0, []),
  (.aload_n 2, 25, 2, 0, 0, []),
  (.getfield 121, 26, 0, 4, 0, [0]),
  (.ifCond .eq 10, 29, 19, 0, 0, []),
  (.aload_n 2, 32, 2, 0, 0, []),
  (.invokevirtual 122, 33, 28, 0, 0, [1, 0, 0, 0, 0, 0]),
  (.ifCond .eq 7, 36, 21, 0, 0, []),
  (.sipush (-1003), 39, 0, 0, (-1003), []),
  (.ireturn, 42, 0, 0, 0, []),
  (.aload_n 2, 43, 2, 0, 0, []),
  (.invokevirtual 126, 44, 29, 0, 0, [1, 0, 0, 0, 0, 0]),
  (.aload_n 2, 47, 2, 0, 0, []),
  (.getfield 129, 48, 0, 1, 0, [1]),
  (.invokestatic 133, 51, 30, 0, 0, [1, 0, 0, 0, 0]),
  (.ireturn, 54, 0, 0, 0, [])]
/-- 32: Mo_stopMany(I)I -/
def kc32 : List In_ := [(.iconst 0, 0, 0, 0, 0, []),
  (.istore_n 2, 1, 2, 0, 0, []),
  (.iconst 0, 2, 0, 0, 0, []),
  (.istore_n 3, 3, 3, 0, 0, []),
  (.iload_n 3, 4, 3, 0, 0, []),
  (.aload_n 0, 5, 0, 0, 0, []),
  (.getfield 16, 6, 12, 3, 0, [2]),
  (.iload_n 1, 9, 1, 0, 0, []),
  (.iaload, 10, 0, 0, 0, []),
  (.if_icmp .ge 31, 11, 27, 0, 0, []),
  (.iload_n 2, 14, 2, 0, 0, []),
  (.aload_n 0, 15, 0, 0, 0, []),
  (.getfield 22, 16, 12, 5, 0, [2]),
  (.bipush 60, 19, 0, 0, 60, []),
  (.iload_n 1, 21, 1, 0, 0, []),
  (.imul, 22, 0, 0, 0, []),
  (.iload_n 3, 23, 3, 0, 0, []),
  (.iadd, 24, 0, 0, 0, []),
  (.baload, 25, 0, 0, 0, []),
  (.ifCond .eq 7, 26, 22, 0, 0, []),
  (.iconst 1, 29, 0, 0, 1, []),
  (.goto 4, 30, 23, 0, 0, []),
  (.iconst 0, 33, 0, 0, 0, []),
  (.iadd, 34, 0, 0, 0, []),
  (.istore_n 2, 35, 2, 0, 0, []),
  (.iinc 3 1, 36, 3, 0, 1, []),
  (.goto (-35), 39, 4, 0, 0, []),
  (.iload_n 2, 42, 2, 0, 0, []),
  (.ireturn, 43, 0, 0, 0, [])]
/-- 33: Mo_stop(I)I -/
def kc33 : List In_ := [(.aload_n 0, 0, 0, 0, 0, []),
  (.iload_n 1, 1, 1, 0, 0, []),
  (.invokevirtual 114, 2, 24, 0, 0, [2, 12, 0, 0, 0, 0]),
  (.ifCond .ne 7, 5, 6, 0, 0, []),
  (.sipush (-1001), 8, 0, 0, (-1001), []),
  (.ireturn, 11, 0, 0, 0, []),
  (.aload_n 0, 12, 0, 0, 0, []),
  (.getfield 16, 13, 12, 3, 0, [2]),
  (.iload_n 1, 16, 1, 0, 0, []),
  (.iaload, 17, 0, 0, 0, []),
  (.ifCond .eq 24, 18, 25, 0, 0, []),
  (.aload_n 0, 21, 0, 0, 0, []),
  (.getfield 22, 22, 12, 5, 0, [2]),
  (.bipush 60, 25, 0, 0, 60, []),
  (.iload_n 1, 27, 1, 0, 0, []),
  (.imul, 28, 0, 0, 0, []),
  (.aload_n 0, 29, 0, 0, 0, []),
  (.getfield 16, 30, 12, 3, 0, [2]),
  (.iload_n 1, 33, 1, 0, 0, []),
  (.iaload, 34, 0, 0, 0, []),
  (.iadd, 35, 0, 0, 0, []),
  (.iconst 1, 36, 0, 0, 1, []),
  (.isub, 37, 0, 0, 0, []),
  (.baload, 38, 0, 0, 0, []),
  (.ifCond .eq 7, 39, 27, 0, 0, []),
  (.sipush (-1003), 42, 0, 0, (-1003), []),
  (.ireturn, 45, 0, 0, 0, []),
  (.aload_n 0, 46, 0, 0, 0, []),
  (.getfield 22, 47, 12, 5, 0, [2]),
  (.bipush 60, 50, 0, 0, 60, []),
  (.iload_n 1, 52, 1, 0, 0, []),
  (.imul, 53, 0, 0, 0, []),
  (.aload_n 0, 54, 0, 0, 0, []),
  (.getfield 16, 55, 12, 3, 0, [2]),
  (.iload_n 1, 58, 1, 0, 0, []),
  (.iaload, 59, 0, 0, 0, []),
  (.iadd, 60, 0, 0, 0, []),
  (.iconst 1, 61, 0, 0, 1, []),
  (.isub, 62, 0, 0, 0, []),
  (.iconst 1, 63, 0, 0, 1, []),
  (.bastore, 64, 0, 0, 0, []),
  (.aload_n 0, 65, 0, 0, 0, []),
  (.iload_n 1, 66, 1, 0, 0, []),
  (.invokevirtual 124, 67, 32, 0, 0, [2, 12, 0, 0, 0, 0]),
  (.ireturn, 70, 0, 0, 0, [])]
/-- 34: Text_spans(II)Z -/
def kc34 : List In_ := [(.iload_n 1, 0, 1, 0, 0, []),
  (.ifCond .lt 20, 1, 11, 0, 0, []),
  (.iload_n 1, 4, 1, 0, 0, []),
  (.iload_n 2, 5, 2, 0, 0, []),
  (.if_icmp .gt 15, 6, 11, 0, 0, []),
  (.iload_n 2, 9, 2, 0, 0, []),
  (.aload_n 0, 10, 0, 0, 0, []),
  (.getfield 15, 11, 0, 4, 0, [0]),
  (.if_icmp .ge 7, 14, 11, 0, 0, []),
  (.iconst 1, 17, 0, 0, 1, []),
  (.goto 4, 18, 12, 0, 0, []),
  (.iconst 0, 21, 0, 0, 0, []),
  (.ireturn, 22, 1, 0, 0, [])]
/-- 35: BW_copy(IIII)I -/
def kc35 : List In_ := [(.aload_n 0, 0, 0, 0, 0, []),
  (.getfield 10, 1, 11, 0, 0, [2]),
  (.iload_n 1, 4, 1, 0, 0, []),
  (.invokevirtual 102, 5, 19, 0, 0, [2, 1, 0, 0, 0, 0]),
  (.ifCond .eq 14, 8, 10, 0, 0, []),
  (.aload_n 0, 11, 0, 0, 0, []),
  (.getfield 10, 12, 11, 0, 0, [2]),
  (.iload_n 2, 15, 2, 0, 0, []),
  (.invokevirtual 102, 16, 19, 0, 0, [2, 1, 0, 0, 0, 0]),
  (.ifCond .ne 7, 19, 12, 0, 0, []),
  (.sipush (-1001), 22, 0, 0, (-1001), []),
  (.ireturn, 25, 0, 0, 0, []),
  (.aload_n 0, 26, 0, 0, 0, []),
  (.getfield 10, 27, 11, 0, 0, [2]),
  (.getfield 108, 30, 1, 0, 0, [2]),
  (.iload_n 2, 33, 2, 0, 0, []),
  (.aaload, 34, 0, 0, 0, []),
  (.astore 5, 35, 5, 0, 0, []),
  (.aload 5, 37, 5, 0, 0, []),
  (.iload_n 3, 39, 3, 0, 0, []),
  (.iload 4, 40, 4, 0, 0, []),
  (.invokevirtual 139, 42, 34, 0, 0, [3, 0, 0, 0, 0, 0]),
  (.ifCond .ne 7, 45, 25, 0, 0, []),
  (.sipush (-1002), 48, 0, 0, (-1002), []),
  (.ireturn, 51, 0, 0, 0, []),
  (.aload_n 0, 52, 0, 0, 0, []),
  (.getfield 10, 53, 11, 0, 0, [2]),
  (.getfield 108, 56, 1, 0, 0, [2]),
  (.iload_n 1, 59, 1, 0, 0, []),
  (.aaload, 60, 0, 0, 0, []),
  (.astore 6, 61, 6, 0, 0, []),
  (.aload 6, 63, 6, 0, 0, []),
  (.iload 4, 65, 4, 0, 0, []),
  (.iload_n 3, 67, 3, 0, 0, []),
  (.isub, 68, 0, 0, 0, []),
  (.iconst 1, 69, 0, 0, 1, []),
  (.iadd, 70, 0, 0, 0, []),
  (.invokevirtual 112, 71, 21, 0, 0, [2, 0, 0, 0, 0, 0]),
  (.ifCond .ne 7, 74, 41, 0, 0, []),
  (.sipush (-1004), 77, 0, 0, (-1004), []),
  (.ireturn, 80, 0, 0, 0, []),
  (.aload_n 0, 81, 0, 0, 0, []),
  (.invokevirtual 95, 82, 14, 0, 0, [1, 11, 0, 0, 0, 0]),
  (.iload_n 3, 85, 3, 0, 0, []),
  (.istore 7, 86, 7, 0, 0, []),
  (.iload 7, 88, 7, 0, 0, []),
  (.iload 4, 90, 4, 0, 0, []),
  (.if_icmp .gt 37, 92, 62, 0, 0, []),
  (.aload 6, 95, 6, 0, 0, []),
  (.aload 5, 97, 5, 0, 0, []),
  (.getfield 143, 99, 0, 0, 0, [2]),
  (.iload 7, 102, 7, 0, 0, []),
  (.iaload, 104, 0, 0, 0, []),
  (.invokevirtual 117, 105, 22, 0, 0, [2, 0, 0, 0, 0, 0]),
  (.aload 5, 108, 5, 0, 0, []),
  (.iload 7, 110, 7, 0, 0, []),
  (.invokevirtual 147, 112, 27, 0, 0, [2, 0, 0, 0, 0, 0]),
  (.ifCond .eq 8, 115, 60, 0, 0, []),
  (.aload 6, 118, 6, 0, 0, []),
  (.invokevirtual 126, 120, 29, 0, 0, [1, 0, 0, 0, 0, 0]),
  (.iinc 7 1, 123, 7, 0, 1, []),
  (.goto (-38), 126, 45, 0, 0, []),
  (.aload 6, 129, 6, 0, 0, []),
  (.getfield 121, 131, 0, 4, 0, [0]),
  (.ireturn, 134, 0, 0, 0, [])]
/-- 36: Mo_wordOf(II)I -/
def kc36 : List In_ := [(.aload_n 0, 0, 0, 0, 0, []),
  (.getfield 19, 1, 12, 4, 0, [2]),
  (.bipush 60, 4, 0, 0, 60, []),
  (.iload_n 1, 6, 1, 0, 0, []),
  (.imul, 7, 0, 0, 0, []),
  (.iload_n 2, 8, 2, 0, 0, []),
  (.iadd, 9, 0, 0, 0, []),
  (.iaload, 10, 0, 0, 0, []),
  (.ireturn, 11, 0, 0, 0, [])]
/-- 37: Mo_copy(IIII)I -/
def kc37 : List In_ := [(.aload_n 0, 0, 0, 0, 0, []),
  (.iload_n 1, 1, 1, 0, 0, []),
  (.invokevirtual 114, 2, 24, 0, 0, [2, 12, 0, 0, 0, 0]),
  (.ifCond .eq 11, 5, 8, 0, 0, []),
  (.aload_n 0, 8, 0, 0, 0, []),
  (.iload_n 2, 9, 2, 0, 0, []),
  (.invokevirtual 114, 10, 24, 0, 0, [2, 12, 0, 0, 0, 0]),
  (.ifCond .ne 7, 13, 10, 0, 0, []),
  (.sipush (-1001), 16, 0, 0, (-1001), []),
  (.ireturn, 19, 0, 0, 0, []),
  (.iload 4, 20, 4, 0, 0, []),
  (.i2l, 22, 0, 0, 0, []),
  (.lconst 0, 23, 0, 0, 0, []),
  (.aload_n 0, 24, 0, 0, 0, []),
  (.getfield 16, 25, 12, 3, 0, [2]),
  (.iload_n 2, 28, 2, 0, 0, []),
  (.iaload, 29, 0, 0, 0, []),
  (.iconst 1, 30, 0, 0, 1, []),
  (.isub, 31, 0, 0, 0, []),
  (.i2l, 32, 0, 0, 0, []),
  (.invokestatic 102, 33, 17, 0, 0, [3, 0, 0, 0, 0]),
  (.ifCond .eq 15, 36, 29, 0, 0, []),
  (.iload_n 3, 39, 3, 0, 0, []),
  (.i2l, 40, 0, 0, 0, []),
  (.lconst 0, 41, 0, 0, 0, []),
  (.iload 4, 42, 4, 0, 0, []),
  (.i2l, 44, 0, 0, 0, []),
  (.invokestatic 102, 45, 17, 0, 0, [3, 0, 0, 0, 0]),
  (.ifCond .ne 7, 48, 31, 0, 0, []),
  (.sipush (-1002), 51, 0, 0, (-1002), []),
  (.ireturn, 54, 0, 0, 0, []),
  (.aload_n 0, 55, 0, 0, 0, []),
  (.getfield 16, 56, 12, 3, 0, [2]),
  (.iload_n 1, 59, 1, 0, 0, []),
  (.iaload, 60, 0, 0, 0, []),
  (.iload 4, 61, 4, 0, 0, []),
  (.iadd, 63, 0, 0, 0, []),
  (.iload_n 3, 64, 3, 0, 0, []),
  (.isub, 65, 0, 0, 0, []),
  (.iconst 1, 66, 0, 0, 1, []),
  (.iadd, 67, 0, 0, 0, []),
  (.bipush 60, 68, 0, 0, 60, []),
  (.if_icmp .le 7, 70, 45, 0, 0, []),
  (.sipush (-1004), 73, 0, 0, (-1004), []),
  (.ireturn, 76, 0, 0, 0, []),
  (.iload_n 3, 77, 3, 0, 0, []),
  (.istore 5, 78, 5, 0, 0, []),
  (.iload 5, 80, 5, 0, 0, []),
  (.iload 4, 82, 4, 0, 0, []),
  (.if_icmp .gt 33, 84, 67, 0, 0, []),
  (.aload_n 0, 87, 0, 0, 0, []),
  (.iload_n 1, 88, 1, 0, 0, []),
  (.aload_n 0, 89, 0, 0, 0, []),
  (.iload_n 2, 90, 2, 0, 0, []),
  (.iload 5, 91, 5, 0, 0, []),
  (.invokevirtual 128, 93, 36, 0, 0, [3, 12, 0, 0, 0, 0]),
  (.aload_n 0, 96, 0, 0, 0, []),
  (.getfield 22, 97, 12, 5, 0, [2]),
  (.bipush 60, 100, 0, 0, 60, []),
  (.iload_n 2, 102, 2, 0, 0, []),
  (.imul, 103, 0, 0, 0, []),
  (.iload 5, 104, 5, 0, 0, []),
  (.iadd, 106, 0, 0, 0, []),
  (.baload, 107, 0, 0, 0, []),
  (.invokevirtual 120, 108, 25, 0, 0, [4, 12, 0, 0, 0, 0]),
  (.iinc 5 1, 111, 5, 0, 1, []),
  (.goto (-34), 114, 47, 0, 0, []),
  (.aload_n 0, 117, 0, 0, 0, []),
  (.iconst 0, 118, 0, 0, 0, []),
  (.putfield 110, 119, 12, 8, 0, [3]),
  (.aload_n 0, 122, 0, 0, 0, []),
  (.getfield 16, 123, 12, 3, 0, [2]),
  (.iload_n 1, 126, 1, 0, 0, []),
  (.iaload, 127, 0, 0, 0, []),
  (.ireturn, 128, 0, 0, 0, [])]
/-- 38: Text_sentenceCount()I -/
def kc38 : List In_ := [(.aload_n 0, 0, 0, 0, 0, []),
  (.getfield 15, 1, 0, 4, 0, [0]),
  (.ifCond .le 14, 4, 8, 0, 0, []),
  (.aload_n 0, 7, 0, 0, 0, []),
  (.invokevirtual 27, 8, 28, 0, 0, [1, 0, 0, 0, 0, 0]),
  (.ifCond .ne 7, 11, 8, 0, 0, []),
  (.iconst 1, 14, 0, 0, 1, []),
  (.goto 4, 15, 9, 0, 0, []),
  (.iconst 0, 18, 0, 0, 0, []),
  (.istore_n 1, 19, 1, 0, 0, []),
  (.aload_n 0, 20, 0, 0, 0, []),
  (.getfield 19, 21, 0, 1, 0, [1]),
  (.invokestatic 31, 24, 30, 0, 0, [1, 0, 0, 0, 0]),
  (.iload_n 1, 27, 1, 0, 0, []),
  (.iadd, 28, 0, 0, 0, []),
  (.ireturn, 29, 0, 0, 0, [])]
/-- 39: Shelf_isOlder(II)Z -/
def kc39 : List In_ := [(.aload_n 0, 0, 0, 0, 0, []),
  (.getfield 11, 1, 1, 0, 0, [2]),
  (.iload_n 2, 4, 2, 0, 0, []),
  (.aaload, 5, 0, 0, 0, []),
  (.getfield 25, 6, 0, 3, 0, [0]),
  (.aload_n 0, 9, 0, 0, 0, []),
  (.getfield 11, 10, 1, 0, 0, [2]),
  (.iload_n 1, 13, 1, 0, 0, []),
  (.aaload, 14, 0, 0, 0, []),
  (.getfield 25, 15, 0, 3, 0, [0]),
  (.isub, 18, 0, 0, 0, []),
  (.istore_n 3, 19, 3, 0, 0, []),
  (.iload_n 3, 20, 3, 0, 0, []),
  (.ifCond .gt 12, 21, 19, 0, 0, []),
  (.iload_n 3, 24, 3, 0, 0, []),
  (.ifCond .ne 12, 25, 21, 0, 0, []),
  (.iload_n 1, 28, 1, 0, 0, []),
  (.iload_n 2, 29, 2, 0, 0, []),
  (.if_icmp .ge 7, 30, 21, 0, 0, []),
  (.iconst 1, 33, 0, 0, 1, []),
  (.goto 4, 34, 22, 0, 0, []),
  (.iconst 0, 37, 0, 0, 0, []),
  (.ireturn, 38, 1, 0, 0, [])]
/-- 40: Text_repeats(ILBorrowedWords$Text;II)Z -/
def kc40 : List In_ := [(.iload_n 1, 0, 1, 0, 0, []),
  (.ifCond .lt 16, 1, 10, 0, 0, []),
  (.iload_n 1, 4, 1, 0, 0, []),
  (.iload 4, 5, 4, 0, 0, []),
  (.iadd, 7, 0, 0, 0, []),
  (.iload_n 3, 8, 3, 0, 0, []),
  (.isub, 9, 0, 0, 0, []),
  (.aload_n 0, 10, 0, 0, 0, []),
  (.getfield 15, 11, 0, 4, 0, [0]),
  (.if_icmp .lt 5, 14, 12, 0, 0, []),
  (.iconst 0, 17, 0, 0, 0, []),
  (.ireturn, 18, 1, 0, 0, []),
  (.iconst 0, 19, 0, 0, 0, []),
  (.istore 5, 20, 5, 0, 0, []),
  (.iload 5, 22, 5, 0, 0, []),
  (.iload 4, 24, 4, 0, 0, []),
  (.iload_n 3, 26, 3, 0, 0, []),
  (.isub, 27, 0, 0, 0, []),
  (.if_icmp .gt 32, 28, 36, 0, 0, []),
  (.aload_n 0, 31, 0, 0, 0, []),
  (.getfield 9, 32, 0, 0, 0, [2]),
  (.iload_n 1, 35, 1, 0, 0, []),
  (.iload 5, 36, 5, 0, 0, []),
  (.iadd, 38, 0, 0, 0, []),
  (.iaload, 39, 0, 0, 0, []),
  (.aload_n 2, 40, 2, 0, 0, []),
  (.getfield 9, 41, 0, 0, 0, [2]),
  (.iload_n 3, 44, 3, 0, 0, []),
  (.iload 5, 45, 5, 0, 0, []),
  (.iadd, 47, 0, 0, 0, []),
  (.iaload, 48, 0, 0, 0, []),
  (.if_icmp .eq 5, 49, 34, 0, 0, []),
  (.iconst 0, 52, 0, 0, 0, []),
  (.ireturn, 53, 1, 0, 0, []),
  (.iinc 5 1, 54, 5, 0, 1, []),
  (.goto (-35), 57, 14, 0, 0, []),
  (.iconst 1, 60, 0, 0, 1, []),
  (.ireturn, 61, 1, 0, 0, [])]
/-- 41: Text_hasPassage(LBorrowedWords$Text;II)Z -/
def kc41 : List In_ := [(.iconst 0, 0, 0, 0, 0, []),
  (.istore 4, 1, 4, 0, 0, []),
  (.iload 4, 3, 4, 0, 0, []),
  (.iload_n 3, 5, 3, 0, 0, []),
  (.iadd, 6, 0, 0, 0, []),
  (.iload_n 2, 7, 2, 0, 0, []),
  (.isub, 8, 0, 0, 0, []),
  (.aload_n 0, 9, 0, 0, 0, []),
  (.getfield 15, 10, 0, 4, 0, [0]),
  (.if_icmp .ge 23, 13, 21, 0, 0, []),
  (.aload_n 0, 16, 0, 0, 0, []),
  (.iload 4, 17, 4, 0, 0, []),
  (.aload_n 1, 19, 1, 0, 0, []),
  (.iload_n 2, 20, 2, 0, 0, []),
  (.iload_n 3, 21, 3, 0, 0, []),
  (.invokevirtual 37, 22, 40, 0, 0, [5, 0, 0, 0, 0, 0]),
  (.ifCond .eq 5, 25, 19, 0, 0, []),
  (.iconst 1, 28, 0, 0, 1, []),
  (.ireturn, 29, 1, 0, 0, []),
  (.iinc 4 1, 30, 4, 0, 1, []),
  (.goto (-30), 33, 2, 0, 0, []),
  (.iconst 0, 36, 0, 0, 0, []),
  (.ireturn, 37, 1, 0, 0, [])]
/-- 42: Marks_standing(I)I -/
def kc42 : List In_ := [(.aload_n 0, 0, 0, 0, 0, []),
  (.getfield 9, 1, 3, 1, 0, [2]),
  (.iload_n 1, 4, 1, 0, 0, []),
  (.iaload, 5, 0, 0, 0, []),
  (.istore_n 2, 6, 2, 0, 0, []),
  (.aload_n 0, 7, 0, 0, 0, []),
  (.getfield 21, 8, 3, 4, 0, [2]),
  (.iload_n 1, 11, 1, 0, 0, []),
  (.iaload, 12, 0, 0, 0, []),
  (.istore_n 3, 13, 3, 0, 0, []),
  (.iload_n 3, 14, 3, 0, 0, []),
  (.iconst (-1), 15, 0, 0, (-1), []),
  (.if_icmp .ne 5, 16, 15, 0, 0, []),
  (.iconst 1, 19, 0, 0, 1, []),
  (.ireturn, 20, 0, 0, 0, []),
  (.aload_n 0, 21, 0, 0, 0, []),
  (.getfield 24, 22, 3, 0, 0, [2]),
  (.iload_n 3, 25, 3, 0, 0, []),
  (.iload_n 2, 26, 2, 0, 0, []),
  (.invokevirtual 32, 27, 39, 0, 0, [3, 1, 0, 0, 0, 0]),
  (.ifCond .ne 5, 30, 23, 0, 0, []),
  (.iconst 2, 33, 0, 0, 2, []),
  (.ireturn, 34, 0, 0, 0, []),
  (.aload_n 0, 35, 0, 0, 0, []),
  (.getfield 24, 36, 3, 0, 0, [2]),
  (.getfield 38, 39, 1, 0, 0, [2]),
  (.iload_n 3, 42, 3, 0, 0, []),
  (.aaload, 43, 0, 0, 0, []),
  (.aload_n 0, 44, 0, 0, 0, []),
  (.getfield 24, 45, 3, 0, 0, [2]),
  (.getfield 38, 48, 1, 0, 0, [2]),
  (.iload_n 2, 51, 2, 0, 0, []),
  (.aaload, 52, 0, 0, 0, []),
  (.aload_n 0, 53, 0, 0, 0, []),
  (.getfield 15, 54, 3, 2, 0, [2]),
  (.iload_n 1, 57, 1, 0, 0, []),
  (.iaload, 58, 0, 0, 0, []),
  (.aload_n 0, 59, 0, 0, 0, []),
  (.getfield 18, 60, 3, 3, 0, [2]),
  (.iload_n 1, 63, 1, 0, 0, []),
  (.iaload, 64, 0, 0, 0, []),
  (.invokevirtual 42, 65, 41, 0, 0, [4, 0, 0, 0, 0, 0]),
  (.ifCond .eq 7, 68, 45, 0, 0, []),
  (.iconst 0, 71, 0, 0, 0, []),
  (.goto 4, 72, 46, 0, 0, []),
  (.iconst 2, 75, 0, 0, 2, []),
  (.ireturn, 76, 0, 0, 0, [])]
/-- 43: Marks_howMany(II)I -/
def kc43 : List In_ := [(.iconst 0, 0, 0, 0, 0, []),
  (.istore_n 3, 1, 3, 0, 0, []),
  (.iconst 0, 2, 0, 0, 0, []),
  (.istore 4, 3, 4, 0, 0, []),
  (.iload 4, 5, 4, 0, 0, []),
  (.aload_n 0, 7, 0, 0, 0, []),
  (.getfield 28, 8, 3, 5, 0, [0]),
  (.if_icmp .ge 33, 11, 22, 0, 0, []),
  (.aload_n 0, 14, 0, 0, 0, []),
  (.getfield 9, 15, 3, 1, 0, [2]),
  (.iload 4, 18, 4, 0, 0, []),
  (.iaload, 20, 0, 0, 0, []),
  (.iload_n 1, 21, 1, 0, 0, []),
  (.if_icmp .ne 16, 22, 20, 0, 0, []),
  (.aload_n 0, 25, 0, 0, 0, []),
  (.iload 4, 26, 4, 0, 0, []),
  (.invokevirtual 48, 28, 42, 0, 0, [2, 3, 0, 0, 0, 0]),
  (.iload_n 2, 31, 2, 0, 0, []),
  (.if_icmp .ne 6, 32, 20, 0, 0, []),
  (.iinc 3 1, 35, 3, 0, 1, []),
  (.iinc 4 1, 38, 4, 0, 1, []),
  (.goto (-36), 41, 4, 0, 0, []),
  (.iload_n 3, 44, 3, 0, 0, []),
  (.ireturn, 45, 0, 0, 0, [])]
/-- 44: BW_about(II)I -/
def kc44 : List In_ := [(.aload_n 0, 0, 0, 0, 0, []),
  (.getfield 10, 1, 11, 0, 0, [2]),
  (.iload_n 1, 4, 1, 0, 0, []),
  (.invokevirtual 102, 5, 19, 0, 0, [2, 1, 0, 0, 0, 0]),
  (.ifCond .ne 7, 8, 7, 0, 0, []),
  (.sipush (-1001), 11, 0, 0, (-1001), []),
  (.ireturn, 14, 0, 0, 0, []),
  (.aload_n 0, 15, 0, 0, 0, []),
  (.getfield 10, 16, 11, 0, 0, [2]),
  (.getfield 108, 19, 1, 0, 0, [2]),
  (.iload_n 1, 22, 1, 0, 0, []),
  (.aaload, 23, 0, 0, 0, []),
  (.astore_n 3, 24, 3, 0, 0, []),
  (.iload_n 2, 25, 2, 0, 0, []),
  (.tableswitch 92 0 6 #[42, 47, 52, 57, 62, 72, 82], 26, 45, 0, 0, [15, 18, 21, 24, 27, 33, 39]),
  (.aload_n 3, 68, 3, 0, 0, []),
  (.getfield 150, 69, 0, 2, 0, [0]),
  (.ireturn, 72, 0, 0, 0, []),
  (.aload_n 3, 73, 3, 0, 0, []),
  (.getfield 153, 74, 0, 3, 0, [0]),
  (.ireturn, 77, 0, 0, 0, []),
  (.aload_n 3, 78, 3, 0, 0, []),
  (.getfield 121, 79, 0, 4, 0, [0]),
  (.ireturn, 82, 0, 0, 0, []),
  (.aload_n 3, 83, 3, 0, 0, []),
  (.invokevirtual 156, 84, 38, 0, 0, [1, 0, 0, 0, 0, 0]),
  (.ireturn, 87, 0, 0, 0, []),
  (.aload_n 0, 88, 0, 0, 0, []),
  (.getfield 28, 89, 11, 2, 0, [2]),
  (.iload_n 1, 92, 1, 0, 0, []),
  (.iconst 0, 93, 0, 0, 0, []),
  (.invokevirtual 160, 94, 43, 0, 0, [3, 3, 0, 0, 0, 0]),
  (.ireturn, 97, 0, 0, 0, []),
  (.aload_n 0, 98, 0, 0, 0, []),
  (.getfield 28, 99, 11, 2, 0, [2]),
  (.iload_n 1, 102, 1, 0, 0, []),
  (.iconst 1, 103, 0, 0, 1, []),
  (.invokevirtual 160, 104, 43, 0, 0, [3, 3, 0, 0, 0, 0]),
  (.ireturn, 107, 0, 0, 0, []),
  (.aload_n 0, 108, 0, 0, 0, []),
  (.getfield 28, 109, 11, 2, 0, [2]),
  (.iload_n 1, 112, 1, 0, 0, []),
  (.iconst 2, 113, 0, 0, 2, []),
  (.invokevirtual 160, 114, 43, 0, 0, [3, 3, 0, 0, 0, 0]),
  (.ireturn, 117, 0, 0, 0, []),
  (.sipush (-1002), 118, 0, 0, (-1002), []),
  (.ireturn, 121, 0, 0, 0, [])]
/-- 45: Mo_sentences(I)I -/
def kc45 : List In_ := [(.aload_n 0, 0, 0, 0, 0, []),
  (.getfield 16, 1, 12, 3, 0, [2]),
  (.iload_n 1, 4, 1, 0, 0, []),
  (.iaload, 5, 0, 0, 0, []),
  (.ifCond .le 28, 6, 21, 0, 0, []),
  (.aload_n 0, 9, 0, 0, 0, []),
  (.getfield 22, 10, 12, 5, 0, [2]),
  (.bipush 60, 13, 0, 0, 60, []),
  (.iload_n 1, 15, 1, 0, 0, []),
  (.imul, 16, 0, 0, 0, []),
  (.aload_n 0, 17, 0, 0, 0, []),
  (.getfield 16, 18, 12, 3, 0, [2]),
  (.iload_n 1, 21, 1, 0, 0, []),
  (.iaload, 22, 0, 0, 0, []),
  (.iadd, 23, 0, 0, 0, []),
  (.iconst 1, 24, 0, 0, 1, []),
  (.isub, 25, 0, 0, 0, []),
  (.baload, 26, 0, 0, 0, []),
  (.ifCond .ne 7, 27, 21, 0, 0, []),
  (.iconst 1, 30, 0, 0, 1, []),
  (.goto 4, 31, 22, 0, 0, []),
  (.iconst 0, 34, 0, 0, 0, []),
  (.istore_n 2, 35, 2, 0, 0, []),
  (.aload_n 0, 36, 0, 0, 0, []),
  (.iload_n 1, 37, 1, 0, 0, []),
  (.invokevirtual 124, 38, 32, 0, 0, [2, 12, 0, 0, 0, 0]),
  (.iload_n 2, 41, 2, 0, 0, []),
  (.ifCond .eq 7, 42, 30, 0, 0, []),
  (.iconst 1, 45, 0, 0, 1, []),
  (.goto 4, 46, 31, 0, 0, []),
  (.iconst 0, 49, 0, 0, 0, []),
  (.iadd, 50, 0, 0, 0, []),
  (.ireturn, 51, 0, 0, 0, [])]
/-- 46: Mo_isOlder(II)Z -/
def kc46 : List In_ := [(.aload_n 0, 0, 0, 0, 0, []),
  (.getfield 13, 1, 12, 2, 0, [2]),
  (.iload_n 1, 4, 1, 0, 0, []),
  (.iaload, 5, 0, 0, 0, []),
  (.aload_n 0, 6, 0, 0, 0, []),
  (.getfield 13, 7, 12, 2, 0, [2]),
  (.iload_n 2, 10, 2, 0, 0, []),
  (.iaload, 11, 0, 0, 0, []),
  (.if_icmp .lt 23, 12, 21, 0, 0, []),
  (.aload_n 0, 15, 0, 0, 0, []),
  (.getfield 13, 16, 12, 2, 0, [2]),
  (.iload_n 1, 19, 1, 0, 0, []),
  (.iaload, 20, 0, 0, 0, []),
  (.aload_n 0, 21, 0, 0, 0, []),
  (.getfield 13, 22, 12, 2, 0, [2]),
  (.iload_n 2, 25, 2, 0, 0, []),
  (.iaload, 26, 0, 0, 0, []),
  (.if_icmp .ne 12, 27, 23, 0, 0, []),
  (.iload_n 1, 30, 1, 0, 0, []),
  (.iload_n 2, 31, 2, 0, 0, []),
  (.if_icmp .ge 7, 32, 23, 0, 0, []),
  (.iconst 1, 35, 0, 0, 1, []),
  (.goto 4, 36, 24, 0, 0, []),
  (.iconst 0, 39, 0, 0, 0, []),
  (.ireturn, 40, 1, 0, 0, [])]
/-- 47: Mo_isThere(IIII)Z -/
def kc47 : List In_ := [(.iconst 0, 0, 0, 0, 0, []),
  (.istore 5, 1, 5, 0, 0, []),
  (.iload 5, 3, 5, 0, 0, []),
  (.iload_n 3, 5, 3, 0, 0, []),
  (.iadd, 6, 0, 0, 0, []),
  (.iload_n 2, 7, 2, 0, 0, []),
  (.isub, 8, 0, 0, 0, []),
  (.aload_n 0, 9, 0, 0, 0, []),
  (.getfield 16, 10, 12, 3, 0, [2]),
  (.iload 4, 13, 4, 0, 0, []),
  (.iaload, 15, 0, 0, 0, []),
  (.if_icmp .ge 55, 16, 39, 0, 0, []),
  (.iload_n 2, 19, 2, 0, 0, []),
  (.istore 6, 20, 6, 0, 0, []),
  (.iload 6, 22, 6, 0, 0, []),
  (.iload_n 3, 24, 3, 0, 0, []),
  (.if_icmp .gt 32, 25, 32, 0, 0, []),
  (.aload_n 0, 28, 0, 0, 0, []),
  (.iload_n 1, 29, 1, 0, 0, []),
  (.iload 6, 30, 6, 0, 0, []),
  (.invokevirtual 128, 32, 36, 0, 0, [3, 12, 0, 0, 0, 0]),
  (.aload_n 0, 35, 0, 0, 0, []),
  (.iload 4, 36, 4, 0, 0, []),
  (.iload 5, 38, 5, 0, 0, []),
  (.iload 6, 40, 6, 0, 0, []),
  (.iadd, 42, 0, 0, 0, []),
  (.iload_n 2, 43, 2, 0, 0, []),
  (.isub, 44, 0, 0, 0, []),
  (.invokevirtual 128, 45, 36, 0, 0, [3, 12, 0, 0, 0, 0]),
  (.if_icmp .ne 9, 48, 32, 0, 0, []),
  (.iinc 6 1, 51, 6, 0, 1, []),
  (.goto (-32), 54, 14, 0, 0, []),
  (.iload 6, 57, 6, 0, 0, []),
  (.iload_n 3, 59, 3, 0, 0, []),
  (.if_icmp .le 5, 60, 37, 0, 0, []),
  (.iconst 1, 63, 0, 0, 1, []),
  (.ireturn, 64, 1, 0, 0, []),
  (.iinc 5 1, 65, 5, 0, 1, []),
  (.goto (-65), 68, 2, 0, 0, []),
  (.iconst 0, 71, 0, 0, 0, []),
  (.ireturn, 72, 1, 0, 0, [])]
/-- 48: Mo_standing(I)I -/
def kc48 : List In_ := [(.aload_n 0, 0, 0, 0, 0, []),
  (.getfield 41, 1, 12, 13, 0, [2]),
  (.iload_n 1, 4, 1, 0, 0, []),
  (.iaload, 5, 0, 0, 0, []),
  (.ifCond .ge 5, 6, 7, 0, 0, []),
  (.iconst 1, 9, 0, 0, 1, []),
  (.ireturn, 10, 0, 0, 0, []),
  (.aload_n 0, 11, 0, 0, 0, []),
  (.aload_n 0, 12, 0, 0, 0, []),
  (.getfield 41, 13, 12, 13, 0, [2]),
  (.iload_n 1, 16, 1, 0, 0, []),
  (.iaload, 17, 0, 0, 0, []),
  (.aload_n 0, 18, 0, 0, 0, []),
  (.getfield 32, 19, 12, 10, 0, [2]),
  (.iload_n 1, 22, 1, 0, 0, []),
  (.iaload, 23, 0, 0, 0, []),
  (.invokevirtual 144, 24, 46, 0, 0, [3, 12, 0, 0, 0, 0]),
  (.ifCond .eq 38, 27, 39, 0, 0, []),
  (.aload_n 0, 30, 0, 0, 0, []),
  (.aload_n 0, 31, 0, 0, 0, []),
  (.getfield 32, 32, 12, 10, 0, [2]),
  (.iload_n 1, 35, 1, 0, 0, []),
  (.iaload, 36, 0, 0, 0, []),
  (.aload_n 0, 37, 0, 0, 0, []),
  (.getfield 35, 38, 12, 11, 0, [2]),
  (.iload_n 1, 41, 1, 0, 0, []),
  (.iaload, 42, 0, 0, 0, []),
  (.aload_n 0, 43, 0, 0, 0, []),
  (.getfield 38, 44, 12, 12, 0, [2]),
  (.iload_n 1, 47, 1, 0, 0, []),
  (.iaload, 48, 0, 0, 0, []),
  (.aload_n 0, 49, 0, 0, 0, []),
  (.getfield 41, 50, 12, 13, 0, [2]),
  (.iload_n 1, 53, 1, 0, 0, []),
  (.iaload, 54, 0, 0, 0, []),
  (.invokevirtual 148, 55, 47, 0, 0, [5, 12, 0, 0, 0, 0]),
  (.ifCond .eq 7, 58, 39, 0, 0, []),
  (.iconst 0, 61, 0, 0, 0, []),
  (.goto 4, 62, 40, 0, 0, []),
  (.iconst 2, 65, 0, 0, 2, []),
  (.ireturn, 66, 0, 0, 0, [])]
/-- 49: Mo_marksThat(II)I -/
def kc49 : List In_ := [(.iconst 0, 0, 0, 0, 0, []),
  (.istore_n 3, 1, 3, 0, 0, []),
  (.iconst 0, 2, 0, 0, 0, []),
  (.istore 4, 3, 4, 0, 0, []),
  (.iload 4, 5, 4, 0, 0, []),
  (.aload_n 0, 7, 0, 0, 0, []),
  (.getfield 141, 8, 12, 9, 0, [0]),
  (.if_icmp .ge 38, 11, 27, 0, 0, []),
  (.iload_n 3, 14, 3, 0, 0, []),
  (.aload_n 0, 15, 0, 0, 0, []),
  (.getfield 32, 16, 12, 10, 0, [2]),
  (.iload 4, 19, 4, 0, 0, []),
  (.iaload, 21, 0, 0, 0, []),
  (.iload_n 1, 22, 1, 0, 0, []),
  (.if_icmp .ne 17, 23, 22, 0, 0, []),
  (.aload_n 0, 26, 0, 0, 0, []),
  (.iload 4, 27, 4, 0, 0, []),
  (.invokevirtual 152, 29, 48, 0, 0, [2, 12, 0, 0, 0, 0]),
  (.iload_n 2, 32, 2, 0, 0, []),
  (.if_icmp .ne 7, 33, 22, 0, 0, []),
  (.iconst 1, 36, 0, 0, 1, []),
  (.goto 4, 37, 23, 0, 0, []),
  (.iconst 0, 40, 0, 0, 0, []),
  (.iadd, 41, 0, 0, 0, []),
  (.istore_n 3, 42, 3, 0, 0, []),
  (.iinc 4 1, 43, 4, 0, 1, []),
  (.goto (-41), 46, 4, 0, 0, []),
  (.iload_n 3, 49, 3, 0, 0, []),
  (.ireturn, 50, 0, 0, 0, [])]
/-- 50: Mo_about(II)I -/
def kc50 : List In_ := [(.aload_n 0, 0, 0, 0, 0, []),
  (.iload_n 1, 1, 1, 0, 0, []),
  (.invokevirtual 114, 2, 24, 0, 0, [2, 12, 0, 0, 0, 0]),
  (.ifCond .ne 7, 5, 6, 0, 0, []),
  (.sipush (-1001), 8, 0, 0, (-1001), []),
  (.ireturn, 11, 0, 0, 0, []),
  (.iload_n 2, 12, 2, 0, 0, []),
  (.tableswitch 79 0 6 #[43, 50, 57, 64, 70, 70, 70], 13, 34, 0, 0, [8, 13, 18, 23, 27, 27, 27]),
  (.aload_n 0, 56, 0, 0, 0, []),
  (.getfield 7, 57, 12, 1, 0, [2]),
  (.iload_n 1, 60, 1, 0, 0, []),
  (.iaload, 61, 0, 0, 0, []),
  (.ireturn, 62, 0, 0, 0, []),
  (.aload_n 0, 63, 0, 0, 0, []),
  (.getfield 13, 64, 12, 2, 0, [2]),
  (.iload_n 1, 67, 1, 0, 0, []),
  (.iaload, 68, 0, 0, 0, []),
  (.ireturn, 69, 0, 0, 0, []),
  (.aload_n 0, 70, 0, 0, 0, []),
  (.getfield 16, 71, 12, 3, 0, [2]),
  (.iload_n 1, 74, 1, 0, 0, []),
  (.iaload, 75, 0, 0, 0, []),
  (.ireturn, 76, 0, 0, 0, []),
  (.aload_n 0, 77, 0, 0, 0, []),
  (.iload_n 1, 78, 1, 0, 0, []),
  (.invokevirtual 132, 79, 45, 0, 0, [2, 12, 0, 0, 0, 0]),
  (.ireturn, 82, 0, 0, 0, []),
  (.aload_n 0, 83, 0, 0, 0, []),
  (.iload_n 1, 84, 1, 0, 0, []),
  (.iload_n 2, 85, 2, 0, 0, []),
  (.iconst 4, 86, 0, 0, 4, []),
  (.isub, 87, 0, 0, 0, []),
  (.invokevirtual 135, 88, 49, 0, 0, [3, 12, 0, 0, 0, 0]),
  (.ireturn, 91, 0, 0, 0, []),
  (.sipush (-1002), 92, 0, 0, (-1002), []),
  (.ireturn, 95, 0, 0, 0, [])]
/-- 51: Text_hasPlace(I)Z -/
def kc51 : List In_ := [(.iload_n 1, 0, 1, 0, 0, []),
  (.ifCond .lt 15, 1, 8, 0, 0, []),
  (.iload_n 1, 4, 1, 0, 0, []),
  (.aload_n 0, 5, 0, 0, 0, []),
  (.getfield 15, 6, 0, 4, 0, [0]),
  (.if_icmp .ge 7, 9, 8, 0, 0, []),
  (.iconst 1, 12, 0, 0, 1, []),
  (.goto 4, 13, 9, 0, 0, []),
  (.iconst 0, 16, 0, 0, 0, []),
  (.ireturn, 17, 1, 0, 0, [])]
/-- 52: BW_at(II)I -/
def kc52 : List In_ := [(.aload_n 0, 0, 0, 0, 0, []),
  (.getfield 10, 1, 11, 0, 0, [2]),
  (.iload_n 1, 4, 1, 0, 0, []),
  (.invokevirtual 102, 5, 19, 0, 0, [2, 1, 0, 0, 0, 0]),
  (.ifCond .ne 7, 8, 7, 0, 0, []),
  (.sipush (-1001), 11, 0, 0, (-1001), []),
  (.ireturn, 14, 0, 0, 0, []),
  (.aload_n 0, 15, 0, 0, 0, []),
  (.getfield 10, 16, 11, 0, 0, [2]),
  (.getfield 108, 19, 1, 0, 0, [2]),
  (.iload_n 1, 22, 1, 0, 0, []),
  (.aaload, 23, 0, 0, 0, []),
  (.astore_n 3, 24, 3, 0, 0, []),
  (.aload_n 3, 25, 3, 0, 0, []),
  (.iload_n 2, 26, 2, 0, 0, []),
  (.invokevirtual 163, 27, 51, 0, 0, [2, 0, 0, 0, 0, 0]),
  (.ifCond .eq 12, 30, 22, 0, 0, []),
  (.aload_n 3, 33, 3, 0, 0, []),
  (.getfield 143, 34, 0, 0, 0, [2]),
  (.iload_n 2, 37, 2, 0, 0, []),
  (.iaload, 38, 0, 0, 0, []),
  (.goto 4, 39, 23, 0, 0, []),
  (.iconst (-1), 42, 0, 0, (-1), []),
  (.ireturn, 43, 0, 0, 0, [])]
/-- 53: Mo_at(II)I -/
def kc53 : List In_ := [(.aload_n 0, 0, 0, 0, 0, []),
  (.iload_n 1, 1, 1, 0, 0, []),
  (.invokevirtual 114, 2, 24, 0, 0, [2, 12, 0, 0, 0, 0]),
  (.ifCond .ne 7, 5, 6, 0, 0, []),
  (.sipush (-1001), 8, 0, 0, (-1001), []),
  (.ireturn, 11, 0, 0, 0, []),
  (.iload_n 2, 12, 2, 0, 0, []),
  (.i2l, 13, 0, 0, 0, []),
  (.lconst 0, 14, 0, 0, 0, []),
  (.aload_n 0, 15, 0, 0, 0, []),
  (.getfield 16, 16, 12, 3, 0, [2]),
  (.iload_n 1, 19, 1, 0, 0, []),
  (.iaload, 20, 0, 0, 0, []),
  (.iconst 1, 21, 0, 0, 1, []),
  (.isub, 22, 0, 0, 0, []),
  (.i2l, 23, 0, 0, 0, []),
  (.invokestatic 102, 24, 17, 0, 0, [3, 0, 0, 0, 0]),
  (.ifCond .eq 12, 27, 23, 0, 0, []),
  (.aload_n 0, 30, 0, 0, 0, []),
  (.iload_n 1, 31, 1, 0, 0, []),
  (.iload_n 2, 32, 2, 0, 0, []),
  (.invokevirtual 128, 33, 36, 0, 0, [3, 12, 0, 0, 0, 0]),
  (.goto 4, 36, 24, 0, 0, []),
  (.iconst (-1), 39, 0, 0, (-1), []),
  (.ireturn, 40, 0, 0, 0, [])]
/-- 54: Lexicon_join(II)I -/
def kc54 : List In_ := [(.aload_n 0, 0, 0, 0, 0, []),
  (.getfield 9, 1, 2, 0, 0, [2]),
  (.iload_n 1, 4, 1, 0, 0, []),
  (.iaload, 5, 0, 0, 0, []),
  (.istore_n 3, 6, 3, 0, 0, []),
  (.aload_n 0, 7, 0, 0, 0, []),
  (.getfield 9, 8, 2, 0, 0, [2]),
  (.iload_n 2, 11, 2, 0, 0, []),
  (.iaload, 12, 0, 0, 0, []),
  (.istore 4, 13, 4, 0, 0, []),
  (.iconst 1, 15, 0, 0, 1, []),
  (.istore 5, 16, 5, 0, 0, []),
  (.iload 5, 18, 5, 0, 0, []),
  (.sipush 200, 20, 0, 0, 200, []),
  (.if_icmp .gt 29, 23, 28, 0, 0, []),
  (.aload_n 0, 26, 0, 0, 0, []),
  (.getfield 9, 27, 2, 0, 0, [2]),
  (.iload 5, 30, 5, 0, 0, []),
  (.iaload, 32, 0, 0, 0, []),
  (.iload 4, 33, 4, 0, 0, []),
  (.if_icmp .ne 11, 35, 26, 0, 0, []),
  (.aload_n 0, 38, 0, 0, 0, []),
  (.getfield 9, 39, 2, 0, 0, [2]),
  (.iload 5, 42, 5, 0, 0, []),
  (.iload_n 3, 44, 3, 0, 0, []),
  (.iastore, 45, 0, 0, 0, []),
  (.iinc 5 1, 46, 5, 0, 1, []),
  (.goto (-31), 49, 12, 0, 0, []),
  (.aload_n 0, 52, 0, 0, 0, []),
  (.getfield 15, 53, 2, 1, 0, [2]),
  (.iload_n 3, 56, 3, 0, 0, []),
  (.dup2, 57, 0, 0, 0, []),
  (.iaload, 58, 0, 0, 0, []),
  (.aload_n 0, 59, 0, 0, 0, []),
  (.getfield 15, 60, 2, 1, 0, [2]),
  (.iload 4, 63, 4, 0, 0, []),
  (.iaload, 65, 0, 0, 0, []),
  (.iadd, 66, 0, 0, 0, []),
  (.iastore, 67, 0, 0, 0, []),
  (.aload_n 0, 68, 0, 0, 0, []),
  (.getfield 15, 69, 2, 1, 0, [2]),
  (.iload_n 3, 72, 3, 0, 0, []),
  (.iaload, 73, 0, 0, 0, []),
  (.ireturn, 74, 0, 0, 0, [])]
/-- 55: BW_same(II)I -/
def kc55 : List In_ := [(.iload_n 1, 0, 1, 0, 0, []),
  (.invokestatic 105, 1, 20, 0, 0, [1, 0, 0, 0, 0]),
  (.ifCond .eq 10, 4, 6, 0, 0, []),
  (.iload_n 2, 7, 2, 0, 0, []),
  (.invokestatic 105, 8, 20, 0, 0, [1, 0, 0, 0, 0]),
  (.ifCond .ne 7, 11, 8, 0, 0, []),
  (.sipush (-1002), 14, 0, 0, (-1002), []),
  (.ireturn, 17, 0, 0, 0, []),
  (.aload_n 0, 18, 0, 0, 0, []),
  (.getfield 19, 19, 11, 1, 0, [2]),
  (.getfield 166, 22, 2, 0, 0, [2]),
  (.iload_n 1, 25, 1, 0, 0, []),
  (.iaload, 26, 0, 0, 0, []),
  (.aload_n 0, 27, 0, 0, 0, []),
  (.getfield 19, 28, 11, 1, 0, [2]),
  (.getfield 166, 31, 2, 0, 0, [2]),
  (.iload_n 2, 34, 2, 0, 0, []),
  (.iaload, 35, 0, 0, 0, []),
  (.if_icmp .ne 7, 36, 21, 0, 0, []),
  (.sipush (-1003), 39, 0, 0, (-1003), []),
  (.ireturn, 42, 0, 0, 0, []),
  (.aload_n 0, 43, 0, 0, 0, []),
  (.invokevirtual 95, 44, 14, 0, 0, [1, 11, 0, 0, 0, 0]),
  (.aload_n 0, 47, 0, 0, 0, []),
  (.getfield 19, 48, 11, 1, 0, [2]),
  (.iload_n 1, 51, 1, 0, 0, []),
  (.iload_n 2, 52, 2, 0, 0, []),
  (.invokevirtual 169, 53, 54, 0, 0, [3, 2, 0, 0, 0, 0]),
  (.ireturn, 56, 0, 0, 0, [])]
/-- 56: Mo_groupMany(I)I -/
def kc56 : List In_ := [(.iconst 0, 0, 0, 0, 0, []),
  (.istore_n 2, 1, 2, 0, 0, []),
  (.iconst 1, 2, 0, 0, 1, []),
  (.istore_n 3, 3, 3, 0, 0, []),
  (.iload_n 3, 4, 3, 0, 0, []),
  (.sipush 200, 5, 0, 0, 200, []),
  (.if_icmp .gt 27, 8, 21, 0, 0, []),
  (.iload_n 2, 11, 2, 0, 0, []),
  (.aload_n 0, 12, 0, 0, 0, []),
  (.getfield 26, 13, 12, 6, 0, [2]),
  (.iload_n 3, 16, 3, 0, 0, []),
  (.iaload, 17, 0, 0, 0, []),
  (.iload_n 1, 18, 1, 0, 0, []),
  (.if_icmp .ne 7, 19, 16, 0, 0, []),
  (.iconst 1, 22, 0, 0, 1, []),
  (.goto 4, 23, 17, 0, 0, []),
  (.iconst 0, 26, 0, 0, 0, []),
  (.iadd, 27, 0, 0, 0, []),
  (.istore_n 2, 28, 2, 0, 0, []),
  (.iinc 3 1, 29, 3, 0, 1, []),
  (.goto (-28), 32, 4, 0, 0, []),
  (.iload_n 2, 35, 2, 0, 0, []),
  (.ireturn, 36, 0, 0, 0, [])]
/-- 57: Mo_same(II)I -/
def kc57 : List In_ := [(.iload_n 1, 0, 1, 0, 0, []),
  (.i2l, 1, 0, 0, 0, []),
  (.lconst 1, 2, 0, 0, 1, []),
  (.ldc2_w 118, 3, 0, 0, 200, []),
  (.invokestatic 102, 6, 17, 0, 0, [3, 0, 0, 0, 0]),
  (.ifCond .eq 15, 9, 12, 0, 0, []),
  (.iload_n 2, 12, 2, 0, 0, []),
  (.i2l, 13, 0, 0, 0, []),
  (.lconst 1, 14, 0, 0, 1, []),
  (.ldc2_w 118, 15, 0, 0, 200, []),
  (.invokestatic 102, 18, 17, 0, 0, [3, 0, 0, 0, 0]),
  (.ifCond .ne 7, 21, 14, 0, 0, []),
  (.sipush (-1002), 24, 0, 0, (-1002), []),
  (.ireturn, 27, 0, 0, 0, []),
  (.aload_n 0, 28, 0, 0, 0, []),
  (.getfield 26, 29, 12, 6, 0, [2]),
  (.iload_n 1, 32, 1, 0, 0, []),
  (.iaload, 33, 0, 0, 0, []),
  (.istore_n 3, 34, 3, 0, 0, []),
  (.aload_n 0, 35, 0, 0, 0, []),
  (.getfield 26, 36, 12, 6, 0, [2]),
  (.iload_n 2, 39, 2, 0, 0, []),
  (.iaload, 40, 0, 0, 0, []),
  (.istore 4, 41, 4, 0, 0, []),
  (.iload_n 3, 43, 3, 0, 0, []),
  (.iload 4, 44, 4, 0, 0, []),
  (.if_icmp .ne 7, 46, 29, 0, 0, []),
  (.sipush (-1003), 49, 0, 0, (-1003), []),
  (.ireturn, 52, 0, 0, 0, []),
  (.iload_n 3, 53, 3, 0, 0, []),
  (.iload 4, 54, 4, 0, 0, []),
  (.if_icmp .ge 7, 56, 34, 0, 0, []),
  (.iload_n 3, 59, 3, 0, 0, []),
  (.goto 5, 60, 35, 0, 0, []),
  (.iload 4, 63, 4, 0, 0, []),
  (.istore 5, 65, 5, 0, 0, []),
  (.iconst 1, 67, 0, 0, 1, []),
  (.istore 6, 68, 6, 0, 0, []),
  (.iload 6, 70, 6, 0, 0, []),
  (.sipush 200, 72, 0, 0, 200, []),
  (.if_icmp .gt 51, 75, 65, 0, 0, []),
  (.aload_n 0, 78, 0, 0, 0, []),
  (.getfield 26, 79, 12, 6, 0, [2]),
  (.iload 6, 82, 6, 0, 0, []),
  (.aload_n 0, 84, 0, 0, 0, []),
  (.getfield 26, 85, 12, 6, 0, [2]),
  (.iload 6, 88, 6, 0, 0, []),
  (.iaload, 90, 0, 0, 0, []),
  (.iload_n 3, 91, 3, 0, 0, []),
  (.if_icmp .eq 15, 92, 56, 0, 0, []),
  (.aload_n 0, 95, 0, 0, 0, []),
  (.getfield 26, 96, 12, 6, 0, [2]),
  (.iload 6, 99, 6, 0, 0, []),
  (.iaload, 101, 0, 0, 0, []),
  (.iload 4, 102, 4, 0, 0, []),
  (.if_icmp .ne 8, 104, 58, 0, 0, []),
  (.iload 5, 107, 5, 0, 0, []),
  (.goto 10, 109, 62, 0, 0, []),
  (.aload_n 0, 112, 0, 0, 0, []),
  (.getfield 26, 113, 12, 6, 0, [2]),
  (.iload 6, 116, 6, 0, 0, []),
  (.iaload, 118, 0, 0, 0, []),
  (.iastore, 119, 0, 0, 0, []),
  (.iinc 6 1, 120, 6, 0, 1, []),
  (.goto (-53), 123, 38, 0, 0, []),
  (.aload_n 0, 126, 0, 0, 0, []),
  (.iconst 0, 127, 0, 0, 0, []),
  (.putfield 110, 128, 12, 8, 0, [3]),
  (.aload_n 0, 131, 0, 0, 0, []),
  (.iload 5, 132, 5, 0, 0, []),
  (.invokevirtual 138, 134, 56, 0, 0, [2, 12, 0, 0, 0, 0]),
  (.ireturn, 137, 0, 0, 0, [])]
/-- 58: BW_common(IZ)I -/
def kc58 : List In_ := [(.iload_n 1, 0, 1, 0, 0, []),
  (.invokestatic 105, 1, 20, 0, 0, [1, 0, 0, 0, 0]),
  (.ifCond .ne 7, 4, 5, 0, 0, []),
  (.sipush (-1002), 7, 0, 0, (-1002), []),
  (.ireturn, 10, 0, 0, 0, []),
  (.aload_n 0, 11, 0, 0, 0, []),
  (.getfield 19, 12, 11, 1, 0, [2]),
  (.getfield 172, 15, 2, 2, 0, [2]),
  (.iload_n 1, 18, 1, 0, 0, []),
  (.baload, 19, 0, 0, 0, []),
  (.ifCond .eq 7, 20, 13, 0, 0, []),
  (.iconst 1, 23, 0, 0, 1, []),
  (.goto 4, 24, 14, 0, 0, []),
  (.iconst 0, 27, 0, 0, 0, []),
  (.istore_n 3, 28, 3, 0, 0, []),
  (.aload_n 0, 29, 0, 0, 0, []),
  (.invokevirtual 95, 30, 14, 0, 0, [1, 11, 0, 0, 0, 0]),
  (.aload_n 0, 33, 0, 0, 0, []),
  (.getfield 19, 34, 11, 1, 0, [2]),
  (.getfield 172, 37, 2, 2, 0, [2]),
  (.iload_n 1, 40, 1, 0, 0, []),
  (.iload_n 2, 41, 2, 0, 0, []),
  (.bastore, 42, 0, 0, 0, []),
  (.iload_n 3, 43, 3, 0, 0, []),
  (.ireturn, 44, 0, 0, 0, [])]
/-- 59: Mo_common(IZ)I -/
def kc59 : List In_ := [(.iload_n 1, 0, 1, 0, 0, []),
  (.i2l, 1, 0, 0, 0, []),
  (.lconst 1, 2, 0, 0, 1, []),
  (.ldc2_w 118, 3, 0, 0, 200, []),
  (.invokestatic 102, 6, 17, 0, 0, [3, 0, 0, 0, 0]),
  (.ifCond .ne 7, 9, 8, 0, 0, []),
  (.sipush (-1002), 12, 0, 0, (-1002), []),
  (.ireturn, 15, 0, 0, 0, []),
  (.aload_n 0, 16, 0, 0, 0, []),
  (.getfield 29, 17, 12, 7, 0, [2]),
  (.iload_n 1, 20, 1, 0, 0, []),
  (.baload, 21, 0, 0, 0, []),
  (.ifCond .eq 7, 22, 15, 0, 0, []),
  (.iconst 1, 25, 0, 0, 1, []),
  (.goto 4, 26, 16, 0, 0, []),
  (.iconst 0, 29, 0, 0, 0, []),
  (.istore_n 3, 30, 3, 0, 0, []),
  (.aload_n 0, 31, 0, 0, 0, []),
  (.getfield 29, 32, 12, 7, 0, [2]),
  (.iload_n 1, 35, 1, 0, 0, []),
  (.iload_n 2, 36, 2, 0, 0, []),
  (.bastore, 37, 0, 0, 0, []),
  (.aload_n 0, 38, 0, 0, 0, []),
  (.iconst 0, 39, 0, 0, 0, []),
  (.putfield 110, 40, 12, 8, 0, [3]),
  (.iload_n 3, 43, 3, 0, 0, []),
  (.ireturn, 44, 0, 0, 0, [])]
/-- 60: Marks_add(IIII)I -/
def kc60 : List In_ := [(.aload_n 0, 0, 0, 0, 0, []),
  (.getfield 28, 1, 3, 5, 0, [0]),
  (.bipush 30, 4, 0, 0, 30, []),
  (.if_icmp .lt 7, 6, 6, 0, 0, []),
  (.sipush (-1004), 9, 0, 0, (-1004), []),
  (.ireturn, 12, 0, 0, 0, []),
  (.aload_n 0, 13, 0, 0, 0, []),
  (.getfield 9, 14, 3, 1, 0, [2]),
  (.aload_n 0, 17, 0, 0, 0, []),
  (.getfield 28, 18, 3, 5, 0, [0]),
  (.iload_n 1, 21, 1, 0, 0, []),
  (.iastore, 22, 0, 0, 0, []),
  (.aload_n 0, 23, 0, 0, 0, []),
  (.getfield 15, 24, 3, 2, 0, [2]),
  (.aload_n 0, 27, 0, 0, 0, []),
  (.getfield 28, 28, 3, 5, 0, [0]),
  (.iload_n 2, 31, 2, 0, 0, []),
  (.iastore, 32, 0, 0, 0, []),
  (.aload_n 0, 33, 0, 0, 0, []),
  (.getfield 18, 34, 3, 3, 0, [2]),
  (.aload_n 0, 37, 0, 0, 0, []),
  (.getfield 28, 38, 3, 5, 0, [0]),
  (.iload_n 3, 41, 3, 0, 0, []),
  (.iastore, 42, 0, 0, 0, []),
  (.aload_n 0, 43, 0, 0, 0, []),
  (.getfield 21, 44, 3, 4, 0, [2]),
  (.aload_n 0, 47, 0, 0, 0, []),
  (.getfield 28, 48, 3, 5, 0, [0]),
  (.iload 4, 51, 4, 0, 0, []),
  (.iastore, 53, 0, 0, 0, []),
  (.aload_n 0, 54, 0, 0, 0, []),
  (.dup, 55, 0, 0, 0, []),
  (.getfield 28, 56, 3, 5, 0, [0]),
  (.iconst 1, 59, 0, 0, 1, []),
  (.iadd, 60, 0, 0, 0, []),
  (.putfield 28, 61, 3, 5, 0, [0]),
  (.aload_n 0, 64, 0, 0, 0, []),
  (.getfield 28, 65, 3, 5, 0, [0]),
  (.iconst 1, 68, 0, 0, 1, []),
  (.isub, 69, 0, 0, 0, []),
  (.ireturn, 70, 0, 0, 0, [])]
/-- 61: BW_mark(IIII)I -/
def kc61 : List In_ := [(.aload_n 0, 0, 0, 0, 0, []),
  (.getfield 10, 1, 11, 0, 0, [2]),
  (.iload_n 1, 4, 1, 0, 0, []),
  (.invokevirtual 102, 5, 19, 0, 0, [2, 1, 0, 0, 0, 0]),
  (.ifCond .eq 21, 8, 13, 0, 0, []),
  (.iload 4, 11, 4, 0, 0, []),
  (.iconst (-1), 13, 0, 0, (-1), []),
  (.if_icmp .eq 19, 14, 15, 0, 0, []),
  (.aload_n 0, 17, 0, 0, 0, []),
  (.getfield 10, 18, 11, 0, 0, [2]),
  (.iload 4, 21, 4, 0, 0, []),
  (.invokevirtual 102, 23, 19, 0, 0, [2, 1, 0, 0, 0, 0]),
  (.ifCond .ne 7, 26, 15, 0, 0, []),
  (.sipush (-1001), 29, 0, 0, (-1001), []),
  (.ireturn, 32, 0, 0, 0, []),
  (.aload_n 0, 33, 0, 0, 0, []),
  (.getfield 10, 34, 11, 0, 0, [2]),
  (.getfield 108, 37, 1, 0, 0, [2]),
  (.iload_n 1, 40, 1, 0, 0, []),
  (.aaload, 41, 0, 0, 0, []),
  (.iload_n 2, 42, 2, 0, 0, []),
  (.iload_n 3, 43, 3, 0, 0, []),
  (.invokevirtual 139, 44, 34, 0, 0, [3, 0, 0, 0, 0, 0]),
  (.ifCond .eq 9, 47, 27, 0, 0, []),
  (.iload 4, 50, 4, 0, 0, []),
  (.iload_n 1, 52, 1, 0, 0, []),
  (.if_icmp .ne 7, 53, 29, 0, 0, []),
  (.sipush (-1002), 56, 0, 0, (-1002), []),
  (.ireturn, 59, 0, 0, 0, []),
  (.aload_n 0, 60, 0, 0, 0, []),
  (.getfield 28, 61, 11, 2, 0, [2]),
  (.getfield 176, 64, 3, 5, 0, [0]),
  (.bipush 30, 67, 0, 0, 30, []),
  (.if_icmp .lt 7, 69, 36, 0, 0, []),
  (.sipush (-1004), 72, 0, 0, (-1004), []),
  (.ireturn, 75, 0, 0, 0, []),
  (.aload_n 0, 76, 0, 0, 0, []),
  (.getfield 28, 77, 11, 2, 0, [2]),
  (.iload_n 1, 80, 1, 0, 0, []),
  (.iload_n 2, 81, 2, 0, 0, []),
  (.iload_n 3, 82, 3, 0, 0, []),
  (.iload 4, 83, 4, 0, 0, []),
  (.invokevirtual 177, 85, 60, 0, 0, [5, 3, 0, 0, 0, 0]),
  (.ireturn, 88, 0, 0, 0, [])]
/-- 62: Mo_mark(IIII)I -/
def kc62 : List In_ := [(.aload_n 0, 0, 0, 0, 0, []),
  (.iload_n 1, 1, 1, 0, 0, []),
  (.invokevirtual 114, 2, 24, 0, 0, [2, 12, 0, 0, 0, 0]),
  (.ifCond .eq 18, 5, 11, 0, 0, []),
  (.iload 4, 8, 4, 0, 0, []),
  (.iconst (-1), 10, 0, 0, (-1), []),
  (.if_icmp .eq 16, 11, 13, 0, 0, []),
  (.aload_n 0, 14, 0, 0, 0, []),
  (.iload 4, 15, 4, 0, 0, []),
  (.invokevirtual 114, 17, 24, 0, 0, [2, 12, 0, 0, 0, 0]),
  (.ifCond .ne 7, 20, 13, 0, 0, []),
  (.sipush (-1001), 23, 0, 0, (-1001), []),
  (.ireturn, 26, 0, 0, 0, []),
  (.iload_n 3, 27, 3, 0, 0, []),
  (.i2l, 28, 0, 0, 0, []),
  (.lconst 0, 29, 0, 0, 0, []),
  (.aload_n 0, 30, 0, 0, 0, []),
  (.getfield 16, 31, 12, 3, 0, [2]),
  (.iload_n 1, 34, 1, 0, 0, []),
  (.iaload, 35, 0, 0, 0, []),
  (.iconst 1, 36, 0, 0, 1, []),
  (.isub, 37, 0, 0, 0, []),
  (.i2l, 38, 0, 0, 0, []),
  (.invokestatic 102, 39, 17, 0, 0, [3, 0, 0, 0, 0]),
  (.ifCond .eq 20, 42, 35, 0, 0, []),
  (.iload_n 2, 45, 2, 0, 0, []),
  (.i2l, 46, 0, 0, 0, []),
  (.lconst 0, 47, 0, 0, 0, []),
  (.iload_n 3, 48, 3, 0, 0, []),
  (.i2l, 49, 0, 0, 0, []),
  (.invokestatic 102, 50, 17, 0, 0, [3, 0, 0, 0, 0]),
  (.ifCond .eq 9, 53, 35, 0, 0, []),
  (.iload_n 1, 56, 1, 0, 0, []),
  (.iload 4, 57, 4, 0, 0, []),
  (.if_icmp .ne 7, 59, 37, 0, 0, []),
  (.sipush (-1002), 62, 0, 0, (-1002), []),
  (.ireturn, 65, 0, 0, 0, []),
  (.aload_n 0, 66, 0, 0, 0, []),
  (.getfield 141, 67, 12, 9, 0, [0]),
  (.bipush 30, 70, 0, 0, 30, []),
  (.if_icmp .ne 7, 72, 43, 0, 0, []),
  (.sipush (-1004), 75, 0, 0, (-1004), []),
  (.ireturn, 78, 0, 0, 0, []),
  (.aload_n 0, 79, 0, 0, 0, []),
  (.getfield 32, 80, 12, 10, 0, [2]),
  (.aload_n 0, 83, 0, 0, 0, []),
  (.getfield 141, 84, 12, 9, 0, [0]),
  (.iload_n 1, 87, 1, 0, 0, []),
  (.iastore, 88, 0, 0, 0, []),
  (.aload_n 0, 89, 0, 0, 0, []),
  (.getfield 35, 90, 12, 11, 0, [2]),
  (.aload_n 0, 93, 0, 0, 0, []),
  (.getfield 141, 94, 12, 9, 0, [0]),
  (.iload_n 2, 97, 2, 0, 0, []),
  (.iastore, 98, 0, 0, 0, []),
  (.aload_n 0, 99, 0, 0, 0, []),
  (.getfield 38, 100, 12, 12, 0, [2]),
  (.aload_n 0, 103, 0, 0, 0, []),
  (.getfield 141, 104, 12, 9, 0, [0]),
  (.iload_n 3, 107, 3, 0, 0, []),
  (.iastore, 108, 0, 0, 0, []),
  (.aload_n 0, 109, 0, 0, 0, []),
  (.getfield 41, 110, 12, 13, 0, [2]),
  (.aload_n 0, 113, 0, 0, 0, []),
  (.getfield 141, 114, 12, 9, 0, [0]),
  (.iload 4, 117, 4, 0, 0, []),
  (.iastore, 119, 0, 0, 0, []),
  (.aload_n 0, 120, 0, 0, 0, []),
  (.dup, 121, 0, 0, 0, []),
  (.getfield 141, 122, 12, 9, 0, [0]),
  (.iconst 1, 125, 0, 0, 1, []),
  (.iadd, 126, 0, 0, 0, []),
  (.putfield 141, 127, 12, 9, 0, [0]),
  (.aload_n 0, 130, 0, 0, 0, []),
  (.getfield 141, 131, 12, 9, 0, [0]),
  (.iconst 1, 134, 0, 0, 1, []),
  (.isub, 135, 0, 0, 0, []),
  (.ireturn, 136, 0, 0, 0, [])]
/-- 63: Marks_has(I)Z -/
def kc63 : List In_ := [(.iload_n 1, 0, 1, 0, 0, []),
  (.ifCond .lt 15, 1, 8, 0, 0, []),
  (.iload_n 1, 4, 1, 0, 0, []),
  (.aload_n 0, 5, 0, 0, 0, []),
  (.getfield 28, 6, 3, 5, 0, [0]),
  (.if_icmp .ge 7, 9, 8, 0, 0, []),
  (.iconst 1, 12, 0, 0, 1, []),
  (.goto 4, 13, 9, 0, 0, []),
  (.iconst 0, 16, 0, 0, 0, []),
  (.ireturn, 17, 1, 0, 0, [])]
/-- 64: BW_stands(I)I -/
def kc64 : List In_ := [(.aload_n 0, 0, 0, 0, 0, []),
  (.getfield 28, 1, 11, 2, 0, [2]),
  (.iload_n 1, 4, 1, 0, 0, []),
  (.invokevirtual 181, 5, 63, 0, 0, [2, 3, 0, 0, 0, 0]),
  (.ifCond .eq 14, 8, 10, 0, 0, []),
  (.aload_n 0, 11, 0, 0, 0, []),
  (.getfield 28, 12, 11, 2, 0, [2]),
  (.iload_n 1, 15, 1, 0, 0, []),
  (.invokevirtual 182, 16, 42, 0, 0, [2, 3, 0, 0, 0, 0]),
  (.goto 6, 19, 11, 0, 0, []),
  (.sipush (-1001), 22, 0, 0, (-1001), []),
  (.ireturn, 25, 0, 0, 0, [])]
/-- 65: Mo_stands(I)I -/
def kc65 : List In_ := [(.iload_n 1, 0, 1, 0, 0, []),
  (.i2l, 1, 0, 0, 0, []),
  (.lconst 0, 2, 0, 0, 0, []),
  (.aload_n 0, 3, 0, 0, 0, []),
  (.getfield 141, 4, 12, 9, 0, [0]),
  (.iconst 1, 7, 0, 0, 1, []),
  (.isub, 8, 0, 0, 0, []),
  (.i2l, 9, 0, 0, 0, []),
  (.invokestatic 102, 10, 17, 0, 0, [3, 0, 0, 0, 0]),
  (.ifCond .eq 11, 13, 14, 0, 0, []),
  (.aload_n 0, 16, 0, 0, 0, []),
  (.iload_n 1, 17, 1, 0, 0, []),
  (.invokevirtual 152, 18, 48, 0, 0, [2, 12, 0, 0, 0, 0]),
  (.goto 6, 21, 15, 0, 0, []),
  (.sipush (-1001), 24, 0, 0, (-1001), []),
  (.ireturn, 27, 0, 0, 0, [])]
/-- 66: Shelf_wordCount()I -/
def kc66 : List In_ := [(.iconst 0, 0, 0, 0, 0, []),
  (.istore_n 1, 1, 1, 0, 0, []),
  (.iconst 0, 2, 0, 0, 0, []),
  (.istore_n 2, 3, 2, 0, 0, []),
  (.iload_n 2, 4, 2, 0, 0, []),
  (.aload_n 0, 5, 0, 0, 0, []),
  (.getfield 18, 6, 1, 1, 0, [0]),
  (.if_icmp .ge 21, 9, 18, 0, 0, []),
  (.iload_n 1, 12, 1, 0, 0, []),
  (.aload_n 0, 13, 0, 0, 0, []),
  (.getfield 11, 14, 1, 0, 0, [2]),
  (.iload_n 2, 17, 2, 0, 0, []),
  (.aaload, 18, 0, 0, 0, []),
  (.getfield 28, 19, 0, 4, 0, [0]),
  (.iadd, 22, 0, 0, 0, []),
  (.istore_n 1, 23, 1, 0, 0, []),
  (.iinc 2 1, 24, 2, 0, 1, []),
  (.goto (-23), 27, 4, 0, 0, []),
  (.iload_n 1, 30, 1, 0, 0, []),
  (.ireturn, 31, 0, 0, 0, [])]
/-- 67: Lexicon_countOfShared()I -/
def kc67 : List In_ := [(.iconst 0, 0, 0, 0, 0, []),
  (.istore_n 1, 1, 1, 0, 0, []),
  (.iconst 1, 2, 0, 0, 1, []),
  (.istore_n 2, 3, 2, 0, 0, []),
  (.iload_n 2, 4, 2, 0, 0, []),
  (.sipush 200, 5, 0, 0, 200, []),
  (.if_icmp .gt 27, 8, 19, 0, 0, []),
  (.aload_n 0, 11, 0, 0, 0, []),
  (.getfield 15, 12, 2, 1, 0, [2]),
  (.aload_n 0, 15, 0, 0, 0, []),
  (.getfield 9, 16, 2, 0, 0, [2]),
  (.iload_n 2, 19, 2, 0, 0, []),
  (.iaload, 20, 0, 0, 0, []),
  (.iaload, 21, 0, 0, 0, []),
  (.iconst 1, 22, 0, 0, 1, []),
  (.if_icmp .le 6, 23, 17, 0, 0, []),
  (.iinc 1 1, 26, 1, 0, 1, []),
  (.iinc 2 1, 29, 2, 0, 1, []),
  (.goto (-28), 32, 4, 0, 0, []),
  (.iload_n 1, 35, 1, 0, 0, []),
  (.ireturn, 36, 0, 0, 0, [])]
/-- 68: Lexicon_countOfCommon()I -/
def kc68 : List In_ := [(.iconst 0, 0, 0, 0, 0, []),
  (.istore_n 1, 1, 1, 0, 0, []),
  (.iconst 1, 2, 0, 0, 1, []),
  (.istore_n 2, 3, 2, 0, 0, []),
  (.iload_n 2, 4, 2, 0, 0, []),
  (.sipush 200, 5, 0, 0, 200, []),
  (.if_icmp .gt 21, 8, 15, 0, 0, []),
  (.aload_n 0, 11, 0, 0, 0, []),
  (.getfield 18, 12, 2, 2, 0, [2]),
  (.iload_n 2, 15, 2, 0, 0, []),
  (.baload, 16, 0, 0, 0, []),
  (.ifCond .eq 6, 17, 13, 0, 0, []),
  (.iinc 1 1, 20, 1, 0, 1, []),
  (.iinc 2 1, 23, 2, 0, 1, []),
  (.goto (-22), 26, 4, 0, 0, []),
  (.iload_n 1, 29, 1, 0, 0, []),
  (.ireturn, 30, 0, 0, 0, [])]
/-- 69: BW_count(I)I -/
def kc69 : List In_ := [(.iload_n 1, 0, 1, 0, 0, []),
  (.tableswitch 99 0 6 #[43, 51, 59, 67, 75, 83, 91], 1, 30, 0, 0, [2, 6, 10, 14, 18, 22, 26]),
  (.aload_n 0, 44, 0, 0, 0, []),
  (.getfield 10, 45, 11, 0, 0, [2]),
  (.getfield 91, 48, 1, 1, 0, [0]),
  (.ireturn, 51, 0, 0, 0, []),
  (.aload_n 0, 52, 0, 0, 0, []),
  (.getfield 10, 53, 11, 0, 0, [2]),
  (.invokevirtual 186, 56, 66, 0, 0, [1, 1, 0, 0, 0, 0]),
  (.ireturn, 59, 0, 0, 0, []),
  (.aload_n 0, 60, 0, 0, 0, []),
  (.getfield 28, 61, 11, 2, 0, [2]),
  (.getfield 176, 64, 3, 5, 0, [0]),
  (.ireturn, 67, 0, 0, 0, []),
  (.aload_n 0, 68, 0, 0, 0, []),
  (.getfield 42, 69, 11, 4, 0, [2]),
  (.getfield 189, 72, 5, 3, 0, [0]),
  (.ireturn, 75, 0, 0, 0, []),
  (.aload_n 0, 76, 0, 0, 0, []),
  (.getfield 35, 77, 11, 3, 0, [2]),
  (.getfield 190, 80, 4, 3, 0, [0]),
  (.ireturn, 83, 0, 0, 0, []),
  (.aload_n 0, 84, 0, 0, 0, []),
  (.getfield 19, 85, 11, 1, 0, [2]),
  (.invokevirtual 193, 88, 67, 0, 0, [1, 2, 0, 0, 0, 0]),
  (.ireturn, 91, 0, 0, 0, []),
  (.aload_n 0, 92, 0, 0, 0, []),
  (.getfield 19, 93, 11, 1, 0, [2]),
  (.invokevirtual 196, 96, 68, 0, 0, [1, 2, 0, 0, 0, 0]),
  (.ireturn, 99, 0, 0, 0, []),
  (.sipush (-1002), 100, 0, 0, (-1002), []),
  (.ireturn, 103, 0, 0, 0, [])]
/-- 70: Mo_count(I)I -/
def kc70 : List In_ := [(.iconst 0, 0, 0, 0, 0, []),
  (.istore_n 2, 1, 2, 0, 0, []),
  (.iconst 0, 2, 0, 0, 0, []),
  (.istore_n 3, 3, 3, 0, 0, []),
  (.iload_n 3, 4, 3, 0, 0, []),
  (.aload_n 0, 5, 0, 0, 0, []),
  (.getfield 99, 6, 12, 0, 0, [0]),
  (.if_icmp .ge 18, 9, 17, 0, 0, []),
  (.iload_n 2, 12, 2, 0, 0, []),
  (.aload_n 0, 13, 0, 0, 0, []),
  (.getfield 16, 14, 12, 3, 0, [2]),
  (.iload_n 3, 17, 3, 0, 0, []),
  (.iaload, 18, 0, 0, 0, []),
  (.iadd, 19, 0, 0, 0, []),
  (.istore_n 2, 20, 2, 0, 0, []),
  (.iinc 3 1, 21, 3, 0, 1, []),
  (.goto (-20), 24, 4, 0, 0, []),
  (.iconst 0, 27, 0, 0, 0, []),
  (.istore_n 3, 28, 3, 0, 0, []),
  (.iconst 0, 29, 0, 0, 0, []),
  (.istore 4, 30, 4, 0, 0, []),
  (.iconst 1, 32, 0, 0, 1, []),
  (.istore 5, 33, 5, 0, 0, []),
  (.iload 5, 35, 5, 0, 0, []),
  (.sipush 200, 37, 0, 0, 200, []),
  (.if_icmp .gt 52, 40, 53, 0, 0, []),
  (.iload_n 3, 43, 3, 0, 0, []),
  (.aload_n 0, 44, 0, 0, 0, []),
  (.aload_n 0, 45, 0, 0, 0, []),
  (.getfield 26, 46, 12, 6, 0, [2]),
  (.iload 5, 49, 5, 0, 0, []),
  (.iaload, 51, 0, 0, 0, []),
  (.invokevirtual 138, 52, 56, 0, 0, [2, 12, 0, 0, 0, 0]),
  (.iconst 1, 55, 0, 0, 1, []),
  (.if_icmp .le 7, 56, 37, 0, 0, []),
  (.iconst 1, 59, 0, 0, 1, []),
  (.goto 4, 60, 38, 0, 0, []),
  (.iconst 0, 63, 0, 0, 0, []),
  (.iadd, 64, 0, 0, 0, []),
  (.istore_n 3, 65, 3, 0, 0, []),
  (.iload 4, 66, 4, 0, 0, []),
  (.aload_n 0, 68, 0, 0, 0, []),
  (.getfield 29, 69, 12, 7, 0, [2]),
  (.iload 5, 72, 5, 0, 0, []),
  (.baload, 74, 0, 0, 0, []),
  (.ifCond .eq 7, 75, 48, 0, 0, []),
  (.iconst 1, 78, 0, 0, 1, []),
  (.goto 4, 79, 49, 0, 0, []),
  (.iconst 0, 82, 0, 0, 0, []),
  (.iadd, 83, 0, 0, 0, []),
  (.istore 4, 84, 4, 0, 0, []),
  (.iinc 5 1, 86, 5, 0, 1, []),
  (.goto (-54), 89, 23, 0, 0, []),
  (.iload_n 1, 92, 1, 0, 0, []),
  (.tableswitch 70 0 6 #[43, 48, 50, 55, 60, 65, 67], 93, 73, 0, 0, [55, 58, 60, 63, 66, 69, 71]),
  (.aload_n 0, 136, 0, 0, 0, []),
  (.getfield 99, 137, 12, 0, 0, [0]),
  (.ireturn, 140, 0, 0, 0, []),
  (.iload_n 2, 141, 2, 0, 0, []),
  (.ireturn, 142, 0, 0, 0, []),
  (.aload_n 0, 143, 0, 0, 0, []),
  (.getfield 141, 144, 12, 9, 0, [0]),
  (.ireturn, 147, 0, 0, 0, []),
  (.aload_n 0, 148, 0, 0, 0, []),
  (.getfield 155, 149, 12, 14, 0, [0]),
  (.ireturn, 152, 0, 0, 0, []),
  (.aload_n 0, 153, 0, 0, 0, []),
  (.getfield 158, 154, 12, 23, 0, [0]),
  (.ireturn, 157, 0, 0, 0, []),
  (.iload_n 3, 158, 3, 0, 0, []),
  (.ireturn, 159, 0, 0, 0, []),
  (.iload 4, 160, 4, 0, 0, []),
  (.ireturn, 162, 0, 0, 0, []),
  (.sipush (-1002), 163, 0, 0, (-1002), []),
  (.ireturn, 166, 0, 0, 0, [])]
/-- 71: RuleReader_append(I)V -/
def kc71 : List In_ := [(.aload_n 0, 0, 0, 0, 0, []),
  (.getfield 22, 1, 4, 3, 0, [0]),
  (.bipush 120, 4, 0, 0, 120, []),
  (.if_icmp .lt 4, 6, 5, 0, 0, []),
  (.return_, 9, 0, 0, 0, []),
  (.aload_n 0, 10, 0, 0, 0, []),
  (.getfield 9, 11, 4, 0, 0, [2]),
  (.aload_n 0, 14, 0, 0, 0, []),
  (.getfield 22, 15, 4, 3, 0, [0]),
  (.iload_n 1, 18, 1, 0, 0, []),
  (.iastore, 19, 0, 0, 0, []),
  (.aload_n 0, 20, 0, 0, 0, []),
  (.dup, 21, 0, 0, 0, []),
  (.getfield 22, 22, 4, 3, 0, [0]),
  (.iconst 1, 25, 0, 0, 1, []),
  (.iadd, 26, 0, 0, 0, []),
  (.putfield 22, 27, 4, 3, 0, [0]),
  (.return_, 30, 0, 0, 0, [])]
/-- 72: BW_feed(IJ)I -/
def kc72 : List In_ := [(.iload_n 1, 0, 1, 0, 0, []),
  (.iconst 1, 1, 0, 0, 1, []),
  (.if_icmp .lt 9, 2, 6, 0, 0, []),
  (.iload_n 1, 5, 1, 0, 0, []),
  (.bipush 8, 6, 0, 0, 8, []),
  (.if_icmp .le 7, 8, 8, 0, 0, []),
  (.sipush (-1002), 11, 0, 0, (-1002), []),
  (.ireturn, 14, 0, 0, 0, []),
  (.aload_n 0, 15, 0, 0, 0, []),
  (.getfield 35, 16, 11, 3, 0, [2]),
  (.getfield 190, 19, 4, 3, 0, [0]),
  (.iload_n 1, 22, 1, 0, 0, []),
  (.iadd, 23, 0, 0, 0, []),
  (.bipush 120, 24, 0, 0, 120, []),
  (.if_icmp .le 7, 26, 17, 0, 0, []),
  (.sipush (-1004), 29, 0, 0, (-1004), []),
  (.ireturn, 32, 0, 0, 0, []),
  (.iload_n 1, 33, 1, 0, 0, []),
  (.iconst 1, 34, 0, 0, 1, []),
  (.isub, 35, 0, 0, 0, []),
  (.istore 4, 36, 4, 0, 0, []),
  (.iload 4, 38, 4, 0, 0, []),
  (.ifCond .lt 28, 40, 36, 0, 0, []),
  (.aload_n 0, 43, 0, 0, 0, []),
  (.getfield 35, 44, 11, 3, 0, [2]),
  (.lload_n 2, 47, 2, 0, 0, []),
  (.bipush 8, 48, 0, 0, 8, []),
  (.iload 4, 50, 4, 0, 0, []),
  (.imul, 52, 0, 0, 0, []),
  (.lushr, 53, 0, 0, 0, []),
  (.ldc2_w 199, 54, 0, 0, 255, []),
  (.land, 57, 0, 0, 0, []),
  (.l2i, 58, 0, 0, 0, []),
  (.invokevirtual 201, 59, 71, 0, 0, [2, 4, 0, 0, 0, 0]),
  (.iinc 4 (-1), 62, 4, 0, (-1), []),
  (.goto (-27), 65, 21, 0, 0, []),
  (.aload_n 0, 68, 0, 0, 0, []),
  (.getfield 35, 69, 11, 3, 0, [2]),
  (.getfield 190, 72, 4, 3, 0, [0]),
  (.ireturn, 75, 0, 0, 0, [])]
/-- 73: Mo_feed(IJ)I -/
def kc73 : List In_ := [(.iload_n 1, 0, 1, 0, 0, []),
  (.i2l, 1, 0, 0, 0, []),
  (.lconst 1, 2, 0, 0, 1, []),
  (.ldc2_w 164, 3, 0, 0, 8, []),
  (.invokestatic 102, 6, 17, 0, 0, [3, 0, 0, 0, 0]),
  (.ifCond .ne 7, 9, 8, 0, 0, []),
  (.sipush (-1002), 12, 0, 0, (-1002), []),
  (.ireturn, 15, 0, 0, 0, []),
  (.aload_n 0, 16, 0, 0, 0, []),
  (.getfield 158, 17, 12, 23, 0, [0]),
  (.iload_n 1, 20, 1, 0, 0, []),
  (.iadd, 21, 0, 0, 0, []),
  (.bipush 120, 22, 0, 0, 120, []),
  (.if_icmp .le 7, 24, 16, 0, 0, []),
  (.sipush (-1004), 27, 0, 0, (-1004), []),
  (.ireturn, 30, 0, 0, 0, []),
  (.iload_n 1, 31, 1, 0, 0, []),
  (.iconst 1, 32, 0, 0, 1, []),
  (.isub, 33, 0, 0, 0, []),
  (.istore 4, 34, 4, 0, 0, []),
  (.iload 4, 36, 4, 0, 0, []),
  (.ifCond .lt 40, 38, 43, 0, 0, []),
  (.aload_n 0, 41, 0, 0, 0, []),
  (.getfield 62, 42, 12, 22, 0, [2]),
  (.aload_n 0, 45, 0, 0, 0, []),
  (.getfield 158, 46, 12, 23, 0, [0]),
  (.lload_n 2, 49, 2, 0, 0, []),
  (.bipush 8, 50, 0, 0, 8, []),
  (.iload 4, 52, 4, 0, 0, []),
  (.imul, 54, 0, 0, 0, []),
  (.lshr, 55, 0, 0, 0, []),
  (.ldc2_w 166, 56, 0, 0, 255, []),
  (.land, 59, 0, 0, 0, []),
  (.l2i, 60, 0, 0, 0, []),
  (.iastore, 61, 0, 0, 0, []),
  (.aload_n 0, 62, 0, 0, 0, []),
  (.dup, 63, 0, 0, 0, []),
  (.getfield 158, 64, 12, 23, 0, [0]),
  (.iconst 1, 67, 0, 0, 1, []),
  (.iadd, 68, 0, 0, 0, []),
  (.putfield 158, 69, 12, 23, 0, [0]),
  (.iinc 4 (-1), 72, 4, 0, (-1), []),
  (.goto (-39), 75, 20, 0, 0, []),
  (.aload_n 0, 78, 0, 0, 0, []),
  (.getfield 158, 79, 12, 23, 0, [0]),
  (.ireturn, 82, 0, 0, 0, [])]
/-- 74: RuleReader_skipBlanks()V -/
def kc74 : List In_ := [(.aload_n 0, 0, 0, 0, 0, []),
  (.getfield 28, 1, 4, 4, 0, [0]),
  (.aload_n 0, 4, 0, 0, 0, []),
  (.getfield 22, 5, 4, 3, 0, [0]),
  (.if_icmp .ge 30, 8, 19, 0, 0, []),
  (.aload_n 0, 11, 0, 0, 0, []),
  (.getfield 9, 12, 4, 0, 0, [2]),
  (.aload_n 0, 15, 0, 0, 0, []),
  (.getfield 28, 16, 4, 4, 0, [0]),
  (.iaload, 19, 0, 0, 0, []),
  (.bipush 32, 20, 0, 0, 32, []),
  (.if_icmp .ne 16, 22, 19, 0, 0, []),
  (.aload_n 0, 25, 0, 0, 0, []),
  (.dup, 26, 0, 0, 0, []),
  (.getfield 28, 27, 4, 4, 0, [0]),
  (.iconst 1, 30, 0, 0, 1, []),
  (.iadd, 31, 0, 0, 0, []),
  (.putfield 28, 32, 4, 4, 0, [0]),
  (.goto (-35), 35, 0, 0, 0, []),
  (.return_, 38, 0, 0, 0, [])]
/-- 75: RuleReader_endOfWord(I)I -/
def kc75 : List In_ := [(.iload_n 1, 0, 1, 0, 0, []),
  (.istore_n 2, 1, 2, 0, 0, []),
  (.iload_n 2, 2, 2, 0, 0, []),
  (.aload_n 0, 3, 0, 0, 0, []),
  (.getfield 22, 4, 4, 3, 0, [0]),
  (.if_icmp .ge 31, 7, 20, 0, 0, []),
  (.aload_n 0, 10, 0, 0, 0, []),
  (.getfield 9, 11, 4, 0, 0, [2]),
  (.iload_n 2, 14, 2, 0, 0, []),
  (.iaload, 15, 0, 0, 0, []),
  (.bipush 97, 16, 0, 0, 97, []),
  (.if_icmp .lt 20, 18, 20, 0, 0, []),
  (.aload_n 0, 21, 0, 0, 0, []),
  (.getfield 9, 22, 4, 0, 0, [2]),
  (.iload_n 2, 25, 2, 0, 0, []),
  (.iaload, 26, 0, 0, 0, []),
  (.bipush 122, 27, 0, 0, 122, []),
  (.if_icmp .gt 9, 29, 20, 0, 0, []),
  (.iinc 2 1, 32, 2, 0, 1, []),
  (.goto (-33), 35, 2, 0, 0, []),
  (.iload_n 2, 38, 2, 0, 0, []),
  (.ireturn, 39, 0, 0, 0, [])]
/-- 76: String_coder()B -/
def kc76 : List In_ := [(.getstatic 38, 0, 1, 0, 1, []),
  (.ifCond .eq 10, 3, 5, 0, 0, []),
  (.aload_n 0, 6, 0, 0, 0, []),
  (.getfield 15, 7, 13, 1, 0, [0]),
  (.goto 4, 10, 6, 0, 0, []),
  (.iconst 1, 13, 0, 0, 1, []),
  (.ireturn, 14, 2, 0, 0, [])]
/-- 77: String_length()I -/
def kc77 : List In_ := [(.aload_n 0, 0, 0, 0, 0, []),
  (.getfield 9, 1, 13, 0, 0, [2]),
  (.arraylength, 4, 0, 0, 0, []),
  (.aload_n 0, 5, 0, 0, 0, []),
  (.invokevirtual 335, 6, 76, 0, 0, [1, 13, 0, 0, 0, 0]),
  (.ishr, 9, 0, 0, 0, []),
  (.ireturn, 10, 0, 0, 0, [])]
/-- 78: String_isLatin1()Z -/
def kc78 : List In_ := [(.getstatic 38, 0, 1, 0, 1, []),
  (.ifCond .eq 14, 3, 7, 0, 0, []),
  (.aload_n 0, 6, 0, 0, 0, []),
  (.getfield 15, 7, 13, 1, 0, [0]),
  (.ifCond .ne 7, 10, 7, 0, 0, []),
  (.iconst 1, 13, 0, 0, 1, []),
  (.goto 4, 14, 8, 0, 0, []),
  (.iconst 0, 17, 0, 0, 0, []),
  (.ireturn, 18, 1, 0, 0, [])]
/-- 79: Precond_checkIndex(IILjava/util/function/BiFunction;)I -/
def kc79 : List In_ := [(.iload_n 0, 0, 0, 0, 0, []),
  (.ifCond .lt 8, 1, 5, 0, 0, []),
  (.iload_n 0, 4, 0, 0, 0, []),
  (.iload_n 1, 5, 1, 0, 0, []),
  (.if_icmp .lt 10, 6, 10, 0, 0, []),
  (.aload_n 2, 9, 2, 0, 0, []),
  (.iload_n 0, 10, 0, 0, 0, []),
  (.iload_n 1, 11, 1, 0, 0, []),
  (.invokestatic 95, 12, 0, 0, 0, [0, 0]),
  (.athrow, 15, 0, 0, 0, []),
  (.iload_n 0, 16, 0, 0, 0, []),
  (.ireturn, 17, 0, 0, 0, [])]
/-- 80: String_checkIndex(II)V -/
def kc80 : List In_ := [(.iload_n 0, 0, 0, 0, 0, []),
  (.iload_n 1, 1, 1, 0, 0, []),
  (.getstatic 1053, 2, 2, 2, (-6), []),
  (.invokestatic 1059, 5, 79, 0, 0, [3, 0, 0, 0, 0]),
  (.pop, 8, 0, 0, 0, []),
  (.return_, 9, 0, 0, 0, [])]
/-- 81: Latin1_charAt([BI)C -/
def kc81 : List In_ := [(.iload_n 1, 0, 1, 0, 0, []),
  (.aload_n 0, 1, 0, 0, 0, []),
  (.arraylength, 2, 0, 0, 0, []),
  (.invokestatic 9, 3, 80, 0, 0, [2, 0, 0, 0, 0]),
  (.aload_n 0, 6, 0, 0, 0, []),
  (.iload_n 1, 7, 1, 0, 0, []),
  (.baload, 8, 0, 0, 0, []),
  (.sipush 255, 9, 0, 0, 255, []),
  (.iand, 12, 0, 0, 0, []),
  (.i2c, 13, 0, 0, 0, []),
  (.ireturn, 14, 3, 0, 0, [])]
/-- 82: String_charAt(I)C -/
def kc82 : List In_ := [(.aload_n 0, 0, 0, 0, 0, []),
  (.invokevirtual 492, 1, 78, 0, 0, [1, 13, 0, 0, 0, 0]),
  (.ifCond .eq 12, 4, 8, 0, 0, []),
  (.aload_n 0, 7, 0, 0, 0, []),
  (.getfield 9, 8, 13, 0, 0, [2]),
  (.iload_n 1, 11, 1, 0, 0, []),
  (.invokestatic 495, 12, 81, 0, 0, [2, 0, 0, 0, 0]),
  (.ireturn, 15, 3, 0, 0, []),
  (.aload_n 0, 16, 0, 0, 0, []),
  (.getfield 9, 17, 13, 0, 0, [2]),
  (.iload_n 1, 20, 1, 0, 0, []),
  (.invokestatic 498, 21, 0, 0, 0, [0, 0]),
  (.ireturn, 24, 3, 0, 0, [])]
/-- 83: RuleReader_spells(IILjava/lang/String;)Z -/
def kc83 : List In_ := [(.iload_n 2, 0, 2, 0, 0, []),
  (.iload_n 1, 1, 1, 0, 0, []),
  (.isub, 2, 0, 0, 0, []),
  (.aload_n 3, 3, 3, 0, 0, []),
  (.invokevirtual 96, 4, 77, 0, 0, [1, 13, 0, 0, 0, 0]),
  (.if_icmp .eq 5, 7, 8, 0, 0, []),
  (.iconst 0, 10, 0, 0, 0, []),
  (.ireturn, 11, 1, 0, 0, []),
  (.iconst 0, 12, 0, 0, 0, []),
  (.istore 4, 13, 4, 0, 0, []),
  (.iload 4, 15, 4, 0, 0, []),
  (.aload_n 3, 17, 3, 0, 0, []),
  (.invokevirtual 96, 18, 77, 0, 0, [1, 13, 0, 0, 0, 0]),
  (.if_icmp .ge 29, 21, 28, 0, 0, []),
  (.aload_n 0, 24, 0, 0, 0, []),
  (.getfield 9, 25, 4, 0, 0, [2]),
  (.iload_n 1, 28, 1, 0, 0, []),
  (.iload 4, 29, 4, 0, 0, []),
  (.iadd, 31, 0, 0, 0, []),
  (.iaload, 32, 0, 0, 0, []),
  (.aload_n 3, 33, 3, 0, 0, []),
  (.iload 4, 34, 4, 0, 0, []),
  (.invokevirtual 100, 36, 82, 0, 0, [2, 13, 0, 0, 0, 0]),
  (.if_icmp .eq 5, 39, 26, 0, 0, []),
  (.iconst 0, 42, 0, 0, 0, []),
  (.ireturn, 43, 1, 0, 0, []),
  (.iinc 4 1, 44, 4, 0, 1, []),
  (.goto (-32), 47, 10, 0, 0, []),
  (.iconst 1, 50, 0, 0, 1, []),
  (.ireturn, 51, 1, 0, 0, [])]
/-- 84: RuleReader_kindOf(II)I -/
def kc84 : List In_ := [(.aload_n 0, 0, 0, 0, 0, []),
  (.iload_n 1, 1, 1, 0, 0, []),
  (.iload_n 2, 2, 2, 0, 0, []),
  (.ldc 80, 3, 2, 0, (-10), []),
  (.invokevirtual 74, 5, 83, 0, 0, [4, 4, 0, 0, 0, 0]),
  (.ifCond .eq 5, 8, 8, 0, 0, []),
  (.iconst 0, 11, 0, 0, 0, []),
  (.ireturn, 12, 0, 0, 0, []),
  (.aload_n 0, 13, 0, 0, 0, []),
  (.iload_n 1, 14, 1, 0, 0, []),
  (.iload_n 2, 15, 2, 0, 0, []),
  (.ldc 82, 16, 2, 0, (-11), []),
  (.invokevirtual 74, 18, 83, 0, 0, [4, 4, 0, 0, 0, 0]),
  (.ifCond .eq 5, 21, 16, 0, 0, []),
  (.iconst 1, 24, 0, 0, 1, []),
  (.ireturn, 25, 0, 0, 0, []),
  (.aload_n 0, 26, 0, 0, 0, []),
  (.iload_n 1, 27, 1, 0, 0, []),
  (.iload_n 2, 28, 2, 0, 0, []),
  (.ldc 84, 29, 2, 0, (-12), []),
  (.invokevirtual 74, 31, 83, 0, 0, [4, 4, 0, 0, 0, 0]),
  (.ifCond .eq 5, 34, 24, 0, 0, []),
  (.iconst 2, 37, 0, 0, 2, []),
  (.ireturn, 38, 0, 0, 0, []),
  (.aload_n 0, 39, 0, 0, 0, []),
  (.iload_n 1, 40, 1, 0, 0, []),
  (.iload_n 2, 41, 2, 0, 0, []),
  (.ldc 86, 42, 2, 0, (-13), []),
  (.invokevirtual 74, 44, 83, 0, 0, [4, 4, 0, 0, 0, 0]),
  (.ifCond .eq 5, 47, 32, 0, 0, []),
  (.iconst 3, 50, 0, 0, 3, []),
  (.ireturn, 51, 0, 0, 0, []),
  (.aload_n 0, 52, 0, 0, 0, []),
  (.iload_n 1, 53, 1, 0, 0, []),
  (.iload_n 2, 54, 2, 0, 0, []),
  (.ldc 88, 55, 2, 0, (-14), []),
  (.invokevirtual 74, 57, 83, 0, 0, [4, 4, 0, 0, 0, 0]),
  (.ifCond .eq 5, 60, 40, 0, 0, []),
  (.iconst 4, 63, 0, 0, 4, []),
  (.ireturn, 64, 0, 0, 0, []),
  (.aload_n 0, 65, 0, 0, 0, []),
  (.iload_n 1, 66, 1, 0, 0, []),
  (.iload_n 2, 67, 2, 0, 0, []),
  (.ldc 90, 68, 2, 0, (-15), []),
  (.invokevirtual 74, 70, 83, 0, 0, [4, 4, 0, 0, 0, 0]),
  (.ifCond .eq 5, 73, 48, 0, 0, []),
  (.iconst 5, 76, 0, 0, 5, []),
  (.ireturn, 77, 0, 0, 0, []),
  (.aload_n 0, 78, 0, 0, 0, []),
  (.iload_n 1, 79, 1, 0, 0, []),
  (.iload_n 2, 80, 2, 0, 0, []),
  (.ldc 92, 81, 2, 0, (-16), []),
  (.invokevirtual 74, 83, 83, 0, 0, [4, 4, 0, 0, 0, 0]),
  (.ifCond .eq 6, 86, 56, 0, 0, []),
  (.bipush 6, 89, 0, 0, 6, []),
  (.ireturn, 91, 0, 0, 0, []),
  (.aload_n 0, 92, 0, 0, 0, []),
  (.iload_n 1, 93, 1, 0, 0, []),
  (.iload_n 2, 94, 2, 0, 0, []),
  (.ldc 94, 95, 2, 0, (-17), []),
  (.invokevirtual 74, 97, 83, 0, 0, [4, 4, 0, 0, 0, 0]),
  (.ifCond .eq 8, 100, 64, 0, 0, []),
  (.bipush 7, 103, 0, 0, 7, []),
  (.goto 4, 105, 65, 0, 0, []),
  (.iconst (-1), 108, 0, 0, (-1), []),
  (.ireturn, 109, 0, 0, 0, [])]
/-- 85: RuleReader_fail(II)V -/
def kc85 : List In_ := [(.aload_n 0, 0, 0, 0, 0, []),
  (.iload_n 1, 1, 1, 0, 0, []),
  (.putfield 25, 2, 4, 5, 0, [0]),
  (.aload_n 0, 5, 0, 0, 0, []),
  (.iload_n 2, 6, 2, 0, 0, []),
  (.putfield 18, 7, 4, 6, 0, [0]),
  (.return_, 10, 0, 0, 0, [])]
/-- 86: RuleReader_readNumber()I -/
def kc86 : List In_ := [(.aload_n 0, 0, 0, 0, 0, []),
  (.getfield 28, 1, 4, 4, 0, [0]),
  (.istore_n 1, 4, 1, 0, 0, []),
  (.iconst 0, 5, 0, 0, 0, []),
  (.istore_n 2, 6, 2, 0, 0, []),
  (.aload_n 0, 7, 0, 0, 0, []),
  (.getfield 28, 8, 4, 4, 0, [0]),
  (.aload_n 0, 11, 0, 0, 0, []),
  (.getfield 22, 12, 4, 3, 0, [0]),
  (.if_icmp .ge 72, 15, 49, 0, 0, []),
  (.aload_n 0, 18, 0, 0, 0, []),
  (.getfield 9, 19, 4, 0, 0, [2]),
  (.aload_n 0, 22, 0, 0, 0, []),
  (.getfield 28, 23, 4, 4, 0, [0]),
  (.iaload, 26, 0, 0, 0, []),
  (.bipush 48, 27, 0, 0, 48, []),
  (.if_icmp .lt 58, 29, 49, 0, 0, []),
  (.aload_n 0, 32, 0, 0, 0, []),
  (.getfield 9, 33, 4, 0, 0, [2]),
  (.aload_n 0, 36, 0, 0, 0, []),
  (.getfield 28, 37, 4, 4, 0, [0]),
  (.iaload, 40, 0, 0, 0, []),
  (.bipush 57, 41, 0, 0, 57, []),
  (.if_icmp .gt 44, 43, 49, 0, 0, []),
  (.aload_n 0, 46, 0, 0, 0, []),
  (.getfield 28, 47, 4, 4, 0, [0]),
  (.iload_n 1, 50, 1, 0, 0, []),
  (.isub, 51, 0, 0, 0, []),
  (.iconst 3, 52, 0, 0, 3, []),
  (.if_icmp .ge 21, 53, 42, 0, 0, []),
  (.iload_n 2, 56, 2, 0, 0, []),
  (.bipush 10, 57, 0, 0, 10, []),
  (.imul, 59, 0, 0, 0, []),
  (.aload_n 0, 60, 0, 0, 0, []),
  (.getfield 9, 61, 4, 0, 0, [2]),
  (.aload_n 0, 64, 0, 0, 0, []),
  (.getfield 28, 65, 4, 4, 0, [0]),
  (.iaload, 68, 0, 0, 0, []),
  (.iadd, 69, 0, 0, 0, []),
  (.bipush 48, 70, 0, 0, 48, []),
  (.isub, 72, 0, 0, 0, []),
  (.istore_n 2, 73, 2, 0, 0, []),
  (.aload_n 0, 74, 0, 0, 0, []),
  (.dup, 75, 0, 0, 0, []),
  (.getfield 28, 76, 4, 4, 0, [0]),
  (.iconst 1, 79, 0, 0, 1, []),
  (.iadd, 80, 0, 0, 0, []),
  (.putfield 28, 81, 4, 4, 0, [0]),
  (.goto (-77), 84, 5, 0, 0, []),
  (.aload_n 0, 87, 0, 0, 0, []),
  (.getfield 28, 88, 4, 4, 0, [0]),
  (.iload_n 1, 91, 1, 0, 0, []),
  (.if_icmp .ne 12, 92, 58, 0, 0, []),
  (.aload_n 0, 95, 0, 0, 0, []),
  (.iconst 1, 96, 0, 0, 1, []),
  (.iload_n 1, 97, 1, 0, 0, []),
  (.invokevirtual 49, 98, 85, 0, 0, [3, 4, 0, 0, 0, 0]),
  (.goto 19, 101, 68, 0, 0, []),
  (.aload_n 0, 104, 0, 0, 0, []),
  (.getfield 28, 105, 4, 4, 0, [0]),
  (.iload_n 1, 108, 1, 0, 0, []),
  (.isub, 109, 0, 0, 0, []),
  (.iconst 3, 110, 0, 0, 3, []),
  (.if_icmp .le 9, 111, 68, 0, 0, []),
  (.aload_n 0, 114, 0, 0, 0, []),
  (.iconst 2, 115, 0, 0, 2, []),
  (.iload_n 1, 116, 1, 0, 0, []),
  (.invokevirtual 49, 117, 85, 0, 0, [3, 4, 0, 0, 0, 0]),
  (.iload_n 2, 120, 2, 0, 0, []),
  (.ireturn, 121, 0, 0, 0, [])]
/-- 87: RuleReader_readStrike(I)V -/
def kc87 : List In_ := [(.aload_n 0, 0, 0, 0, 0, []),
  (.getfield 28, 1, 4, 4, 0, [0]),
  (.istore_n 2, 4, 2, 0, 0, []),
  (.aload_n 0, 5, 0, 0, 0, []),
  (.invokevirtual 62, 6, 86, 0, 0, [1, 4, 0, 0, 0, 0]),
  (.istore_n 3, 9, 3, 0, 0, []),
  (.aload_n 0, 10, 0, 0, 0, []),
  (.getfield 25, 11, 4, 5, 0, [0]),
  (.ifCond .eq 4, 14, 10, 0, 0, []),
  (.return_, 17, 0, 0, 0, []),
  (.iload_n 3, 18, 3, 0, 0, []),
  (.iload_n 1, 19, 1, 0, 0, []),
  (.if_icmp .lt 12, 20, 18, 0, 0, []),
  (.aload_n 0, 23, 0, 0, 0, []),
  (.iconst 3, 24, 0, 0, 3, []),
  (.iload_n 2, 25, 2, 0, 0, []),
  (.invokevirtual 49, 26, 85, 0, 0, [3, 4, 0, 0, 0, 0]),
  (.goto 15, 29, 26, 0, 0, []),
  (.aload_n 0, 32, 0, 0, 0, []),
  (.dup, 33, 0, 0, 0, []),
  (.getfield 31, 34, 4, 2, 0, [0]),
  (.iconst 1, 37, 0, 0, 1, []),
  (.iload_n 3, 38, 3, 0, 0, []),
  (.ishl, 39, 0, 0, 0, []),
  (.ior, 40, 0, 0, 0, []),
  (.putfield 31, 41, 4, 2, 0, [0]),
  (.return_, 44, 0, 0, 0, [])]
/-- 88: RuleReader_readYes(I)V -/
def kc88 : List In_ := [(.aload_n 0, 0, 0, 0, 0, []),
  (.getfield 28, 1, 4, 4, 0, [0]),
  (.istore_n 2, 4, 2, 0, 0, []),
  (.aload_n 0, 5, 0, 0, 0, []),
  (.iload_n 2, 6, 2, 0, 0, []),
  (.invokevirtual 41, 7, 75, 0, 0, [2, 4, 0, 0, 0, 0]),
  (.istore_n 3, 10, 3, 0, 0, []),
  (.aload_n 0, 11, 0, 0, 0, []),
  (.iload_n 2, 12, 2, 0, 0, []),
  (.iload_n 3, 13, 3, 0, 0, []),
  (.ldc 72, 14, 2, 0, (-18), []),
  (.invokevirtual 74, 16, 83, 0, 0, [4, 4, 0, 0, 0, 0]),
  (.ifCond .eq 13, 19, 19, 0, 0, []),
  (.aload_n 0, 22, 0, 0, 0, []),
  (.getfield 15, 23, 4, 1, 0, [2]),
  (.iload_n 1, 26, 1, 0, 0, []),
  (.iconst 1, 27, 0, 0, 1, []),
  (.iastore, 28, 0, 0, 0, []),
  (.goto 30, 29, 35, 0, 0, []),
  (.aload_n 0, 32, 0, 0, 0, []),
  (.iload_n 2, 33, 2, 0, 0, []),
  (.iload_n 3, 34, 3, 0, 0, []),
  (.ldc 78, 35, 2, 0, (-19), []),
  (.invokevirtual 74, 37, 83, 0, 0, [4, 4, 0, 0, 0, 0]),
  (.ifCond .eq 13, 40, 31, 0, 0, []),
  (.aload_n 0, 43, 0, 0, 0, []),
  (.getfield 15, 44, 4, 1, 0, [2]),
  (.iload_n 1, 47, 1, 0, 0, []),
  (.iconst 0, 48, 0, 0, 0, []),
  (.iastore, 49, 0, 0, 0, []),
  (.goto 9, 50, 35, 0, 0, []),
  (.aload_n 0, 53, 0, 0, 0, []),
  (.iconst 1, 54, 0, 0, 1, []),
  (.iload_n 2, 55, 2, 0, 0, []),
  (.invokevirtual 49, 56, 85, 0, 0, [3, 4, 0, 0, 0, 0]),
  (.aload_n 0, 59, 0, 0, 0, []),
  (.iload_n 3, 60, 3, 0, 0, []),
  (.putfield 28, 61, 4, 4, 0, [0]),
  (.return_, 64, 0, 0, 0, [])]
/-- 89: RuleReader_readSetting(I)V -/
def kc89 : List In_ := [(.aload_n 0, 0, 0, 0, 0, []),
  (.getfield 28, 1, 4, 4, 0, [0]),
  (.istore_n 2, 4, 2, 0, 0, []),
  (.aload_n 0, 5, 0, 0, 0, []),
  (.invokevirtual 62, 6, 86, 0, 0, [1, 4, 0, 0, 0, 0]),
  (.istore_n 3, 9, 3, 0, 0, []),
  (.aload_n 0, 10, 0, 0, 0, []),
  (.getfield 25, 11, 4, 5, 0, [0]),
  (.ifCond .eq 4, 14, 10, 0, 0, []),
  (.return_, 17, 0, 0, 0, []),
  (.iload_n 3, 18, 3, 0, 0, []),
  (.getstatic 66, 19, 3, 2, (-4), []),
  (.iload_n 1, 22, 1, 0, 0, []),
  (.iaload, 23, 0, 0, 0, []),
  (.if_icmp .lt 12, 24, 20, 0, 0, []),
  (.iload_n 3, 27, 3, 0, 0, []),
  (.getstatic 69, 28, 3, 2, (-5), []),
  (.iload_n 1, 31, 1, 0, 0, []),
  (.iaload, 32, 0, 0, 0, []),
  (.if_icmp .le 12, 33, 25, 0, 0, []),
  (.aload_n 0, 36, 0, 0, 0, []),
  (.iconst 2, 37, 0, 0, 2, []),
  (.iload_n 2, 38, 2, 0, 0, []),
  (.invokevirtual 49, 39, 85, 0, 0, [3, 4, 0, 0, 0, 0]),
  (.goto 10, 42, 30, 0, 0, []),
  (.aload_n 0, 45, 0, 0, 0, []),
  (.getfield 15, 46, 4, 1, 0, [2]),
  (.iload_n 1, 49, 1, 0, 0, []),
  (.iload_n 3, 50, 3, 0, 0, []),
  (.iastore, 51, 0, 0, 0, []),
  (.return_, 52, 0, 0, 0, [])]
/-- 90: RuleReader_readClause(II)V -/
def kc90 : List In_ := [(.aload_n 0, 0, 0, 0, 0, []),
  (.getfield 28, 1, 4, 4, 0, [0]),
  (.istore_n 3, 4, 3, 0, 0, []),
  (.aload_n 0, 5, 0, 0, 0, []),
  (.iload_n 3, 6, 3, 0, 0, []),
  (.aload_n 0, 7, 0, 0, 0, []),
  (.iload_n 3, 8, 3, 0, 0, []),
  (.invokevirtual 41, 9, 75, 0, 0, [2, 4, 0, 0, 0, 0]),
  (.invokevirtual 45, 12, 84, 0, 0, [3, 4, 0, 0, 0, 0]),
  (.istore 4, 15, 4, 0, 0, []),
  (.iload 4, 17, 4, 0, 0, []),
  (.iconst (-1), 19, 0, 0, (-1), []),
  (.if_icmp .ne 10, 20, 18, 0, 0, []),
  (.aload_n 0, 23, 0, 0, 0, []),
  (.iconst 1, 24, 0, 0, 1, []),
  (.iload_n 3, 25, 3, 0, 0, []),
  (.invokevirtual 49, 26, 85, 0, 0, [3, 4, 0, 0, 0, 0]),
  (.return_, 29, 0, 0, 0, []),
  (.iload_n 1, 30, 1, 0, 0, []),
  (.bipush 8, 31, 0, 0, 8, []),
  (.if_icmp .lt 10, 33, 26, 0, 0, []),
  (.aload_n 0, 36, 0, 0, 0, []),
  (.iconst 4, 37, 0, 0, 4, []),
  (.iload_n 3, 38, 3, 0, 0, []),
  (.invokevirtual 49, 39, 85, 0, 0, [3, 4, 0, 0, 0, 0]),
  (.return_, 42, 0, 0, 0, []),
  (.aload_n 0, 43, 0, 0, 0, []),
  (.aload_n 0, 44, 0, 0, 0, []),
  (.iload_n 3, 45, 3, 0, 0, []),
  (.invokevirtual 41, 46, 75, 0, 0, [2, 4, 0, 0, 0, 0]),
  (.putfield 28, 49, 4, 4, 0, [0]),
  (.aload_n 0, 52, 0, 0, 0, []),
  (.invokevirtual 34, 53, 74, 0, 0, [1, 4, 0, 0, 0, 0]),
  (.iload 4, 56, 4, 0, 0, []),
  (.bipush 7, 58, 0, 0, 7, []),
  (.if_icmp .ne 11, 60, 40, 0, 0, []),
  (.aload_n 0, 63, 0, 0, 0, []),
  (.iload_n 2, 64, 2, 0, 0, []),
  (.invokevirtual 52, 65, 87, 0, 0, [2, 4, 0, 0, 0, 0]),
  (.goto 30, 68, 53, 0, 0, []),
  (.iload 4, 71, 4, 0, 0, []),
  (.iconst 2, 73, 0, 0, 2, []),
  (.if_icmp .eq 9, 74, 46, 0, 0, []),
  (.iload 4, 77, 4, 0, 0, []),
  (.iconst 3, 79, 0, 0, 3, []),
  (.if_icmp .ne 12, 80, 50, 0, 0, []),
  (.aload_n 0, 83, 0, 0, 0, []),
  (.iload 4, 84, 4, 0, 0, []),
  (.invokevirtual 56, 86, 88, 0, 0, [2, 4, 0, 0, 0, 0]),
  (.goto 9, 89, 53, 0, 0, []),
  (.aload_n 0, 92, 0, 0, 0, []),
  (.iload 4, 93, 4, 0, 0, []),
  (.invokevirtual 59, 95, 89, 0, 0, [2, 4, 0, 0, 0, 0]),
  (.aload_n 0, 98, 0, 0, 0, []),
  (.invokevirtual 34, 99, 74, 0, 0, [1, 4, 0, 0, 0, 0]),
  (.aload_n 0, 102, 0, 0, 0, []),
  (.getfield 25, 103, 4, 5, 0, [0]),
  (.ifCond .eq 4, 106, 59, 0, 0, []),
  (.return_, 109, 0, 0, 0, []),
  (.aload_n 0, 110, 0, 0, 0, []),
  (.getfield 28, 111, 4, 4, 0, [0]),
  (.aload_n 0, 114, 0, 0, 0, []),
  (.getfield 22, 115, 4, 3, 0, [0]),
  (.if_icmp .ge 30, 118, 78, 0, 0, []),
  (.aload_n 0, 121, 0, 0, 0, []),
  (.getfield 9, 122, 4, 0, 0, [2]),
  (.aload_n 0, 125, 0, 0, 0, []),
  (.getfield 28, 126, 4, 4, 0, [0]),
  (.iaload, 129, 0, 0, 0, []),
  (.bipush 59, 130, 0, 0, 59, []),
  (.if_icmp .ne 16, 132, 78, 0, 0, []),
  (.aload_n 0, 135, 0, 0, 0, []),
  (.dup, 136, 0, 0, 0, []),
  (.getfield 28, 137, 4, 4, 0, [0]),
  (.iconst 1, 140, 0, 0, 1, []),
  (.iadd, 141, 0, 0, 0, []),
  (.putfield 28, 142, 4, 4, 0, [0]),
  (.goto 12, 145, 83, 0, 0, []),
  (.aload_n 0, 148, 0, 0, 0, []),
  (.iconst 1, 149, 0, 0, 1, []),
  (.aload_n 0, 150, 0, 0, 0, []),
  (.getfield 28, 151, 4, 4, 0, [0]),
  (.invokevirtual 49, 154, 85, 0, 0, [3, 4, 0, 0, 0, 0]),
  (.return_, 157, 0, 0, 0, [])]
/-- 91: RuleReader_read(I)I -/
def kc91 : List In_ := [(.aload_n 0, 0, 0, 0, 0, []),
  (.iconst 0, 1, 0, 0, 0, []),
  (.putfield 25, 2, 4, 5, 0, [0]),
  (.aload_n 0, 5, 0, 0, 0, []),
  (.iconst (-1), 6, 0, 0, (-1), []),
  (.putfield 18, 7, 4, 6, 0, [0]),
  (.aload_n 0, 10, 0, 0, 0, []),
  (.iconst 0, 11, 0, 0, 0, []),
  (.putfield 28, 12, 4, 4, 0, [0]),
  (.aload_n 0, 15, 0, 0, 0, []),
  (.iconst 0, 16, 0, 0, 0, []),
  (.putfield 31, 17, 4, 2, 0, [0]),
  (.iconst 0, 20, 0, 0, 0, []),
  (.istore_n 2, 21, 2, 0, 0, []),
  (.iload_n 2, 22, 2, 0, 0, []),
  (.bipush 7, 23, 0, 0, 7, []),
  (.if_icmp .ge 16, 25, 24, 0, 0, []),
  (.aload_n 0, 28, 0, 0, 0, []),
  (.getfield 15, 29, 4, 1, 0, [2]),
  (.iload_n 2, 32, 2, 0, 0, []),
  (.iconst (-1), 33, 0, 0, (-1), []),
  (.iastore, 34, 0, 0, 0, []),
  (.iinc 2 1, 35, 2, 0, 1, []),
  (.goto (-16), 38, 14, 0, 0, []),
  (.aload_n 0, 41, 0, 0, 0, []),
  (.invokevirtual 34, 42, 74, 0, 0, [1, 4, 0, 0, 0, 0]),
  (.iconst 0, 45, 0, 0, 0, []),
  (.istore_n 2, 46, 2, 0, 0, []),
  (.iload_n 2, 47, 2, 0, 0, []),
  (.bipush 8, 48, 0, 0, 8, []),
  (.if_icmp .gt 37, 50, 47, 0, 0, []),
  (.aload_n 0, 53, 0, 0, 0, []),
  (.getfield 28, 54, 4, 4, 0, [0]),
  (.aload_n 0, 57, 0, 0, 0, []),
  (.getfield 22, 58, 4, 3, 0, [0]),
  (.if_icmp .ge 26, 61, 47, 0, 0, []),
  (.aload_n 0, 64, 0, 0, 0, []),
  (.getfield 25, 65, 4, 5, 0, [0]),
  (.ifCond .ne 19, 68, 47, 0, 0, []),
  (.aload_n 0, 71, 0, 0, 0, []),
  (.iload_n 2, 72, 2, 0, 0, []),
  (.iload_n 1, 73, 1, 0, 0, []),
  (.invokevirtual 37, 74, 90, 0, 0, [3, 4, 0, 0, 0, 0]),
  (.aload_n 0, 77, 0, 0, 0, []),
  (.invokevirtual 34, 78, 74, 0, 0, [1, 4, 0, 0, 0, 0]),
  (.iinc 2 1, 81, 2, 0, 1, []),
  (.goto (-37), 84, 28, 0, 0, []),
  (.aload_n 0, 87, 0, 0, 0, []),
  (.iconst 0, 88, 0, 0, 0, []),
  (.putfield 22, 89, 4, 3, 0, [0]),
  (.aload_n 0, 92, 0, 0, 0, []),
  (.getfield 25, 93, 4, 5, 0, [0]),
  (.ireturn, 96, 0, 0, 0, [])]
/-- 92: RuleBook_add(I[II)I -/
def kc92 : List In_ := [(.aload_n 0, 0, 0, 0, 0, []),
  (.getfield 23, 1, 5, 3, 0, [0]),
  (.bipush 8, 4, 0, 0, 8, []),
  (.if_icmp .lt 7, 6, 6, 0, 0, []),
  (.sipush (-1004), 9, 0, 0, (-1004), []),
  (.ireturn, 12, 0, 0, 0, []),
  (.aload_n 0, 13, 0, 0, 0, []),
  (.getfield 9, 14, 5, 0, 0, [2]),
  (.aload_n 0, 17, 0, 0, 0, []),
  (.getfield 23, 18, 5, 3, 0, [0]),
  (.iload_n 1, 21, 1, 0, 0, []),
  (.iastore, 22, 0, 0, 0, []),
  (.aload_n 0, 23, 0, 0, 0, []),
  (.getfield 15, 24, 5, 1, 0, [2]),
  (.aload_n 0, 27, 0, 0, 0, []),
  (.getfield 23, 28, 5, 3, 0, [0]),
  (.iload_n 3, 31, 3, 0, 0, []),
  (.iastore, 32, 0, 0, 0, []),
  (.iconst 0, 33, 0, 0, 0, []),
  (.istore 4, 34, 4, 0, 0, []),
  (.iload 4, 36, 4, 0, 0, []),
  (.bipush 7, 38, 0, 0, 7, []),
  (.if_icmp .ge 25, 40, 35, 0, 0, []),
  (.aload_n 0, 43, 0, 0, 0, []),
  (.getfield 20, 44, 5, 2, 0, [2]),
  (.aload_n 0, 47, 0, 0, 0, []),
  (.getfield 23, 48, 5, 3, 0, [0]),
  (.aaload, 51, 0, 0, 0, []),
  (.iload 4, 52, 4, 0, 0, []),
  (.aload_n 2, 54, 2, 0, 0, []),
  (.iload 4, 55, 4, 0, 0, []),
  (.iaload, 57, 0, 0, 0, []),
  (.iastore, 58, 0, 0, 0, []),
  (.iinc 4 1, 59, 4, 0, 1, []),
  (.goto (-26), 62, 20, 0, 0, []),
  (.aload_n 0, 65, 0, 0, 0, []),
  (.dup, 66, 0, 0, 0, []),
  (.getfield 23, 67, 5, 3, 0, [0]),
  (.iconst 1, 70, 0, 0, 1, []),
  (.iadd, 71, 0, 0, 0, []),
  (.putfield 23, 72, 5, 3, 0, [0]),
  (.aload_n 0, 75, 0, 0, 0, []),
  (.getfield 23, 76, 5, 3, 0, [0]),
  (.iconst 1, 79, 0, 0, 1, []),
  (.isub, 80, 0, 0, 0, []),
  (.ireturn, 81, 0, 0, 0, [])]
/-- 93: BW_rule(I)I -/
def kc93 : List In_ := [(.iload_n 1, 0, 1, 0, 0, []),
  (.invokestatic 87, 1, 13, 0, 0, [1, 0, 0, 0, 0]),
  (.ifCond .ne 7, 4, 5, 0, 0, []),
  (.sipush (-1002), 7, 0, 0, (-1002), []),
  (.ireturn, 10, 0, 0, 0, []),
  (.aload_n 0, 11, 0, 0, 0, []),
  (.getfield 42, 12, 11, 4, 0, [2]),
  (.getfield 189, 15, 5, 3, 0, [0]),
  (.bipush 8, 18, 0, 0, 8, []),
  (.if_icmp .lt 7, 20, 12, 0, 0, []),
  (.sipush (-1004), 23, 0, 0, (-1004), []),
  (.ireturn, 26, 0, 0, 0, []),
  (.aload_n 0, 27, 0, 0, 0, []),
  (.getfield 35, 28, 11, 3, 0, [2]),
  (.aload_n 0, 31, 0, 0, 0, []),
  (.getfield 42, 32, 11, 4, 0, [2]),
  (.getfield 189, 35, 5, 3, 0, [0]),
  (.invokevirtual 202, 38, 91, 0, 0, [2, 4, 0, 0, 0, 0]),
  (.istore_n 2, 41, 2, 0, 0, []),
  (.iload_n 2, 42, 2, 0, 0, []),
  (.ifCond .eq 8, 43, 25, 0, 0, []),
  (.bipush (-10), 46, 0, 0, (-10), []),
  (.iload_n 2, 48, 2, 0, 0, []),
  (.isub, 49, 0, 0, 0, []),
  (.ireturn, 50, 0, 0, 0, []),
  (.aload_n 0, 51, 0, 0, 0, []),
  (.invokevirtual 95, 52, 14, 0, 0, [1, 11, 0, 0, 0, 0]),
  (.aload_n 0, 55, 0, 0, 0, []),
  (.getfield 42, 56, 11, 4, 0, [2]),
  (.iload_n 1, 59, 1, 0, 0, []),
  (.aload_n 0, 60, 0, 0, 0, []),
  (.getfield 35, 61, 11, 3, 0, [2]),
  (.getfield 205, 64, 4, 1, 0, [2]),
  (.aload_n 0, 67, 0, 0, 0, []),
  (.getfield 35, 68, 11, 3, 0, [2]),
  (.getfield 208, 71, 4, 2, 0, [0]),
  (.invokevirtual 211, 74, 92, 0, 0, [4, 5, 0, 0, 0, 0]),
  (.ireturn, 77, 0, 0, 0, [])]
/-- 94: Mo_here()I -/
def kc94 : List In_ := [(.aload_n 0, 0, 0, 0, 0, []),
  (.getfield 168, 1, 12, 25, 0, [0]),
  (.aload_n 0, 4, 0, 0, 0, []),
  (.getfield 158, 5, 12, 23, 0, [0]),
  (.if_icmp .ge 30, 8, 19, 0, 0, []),
  (.aload_n 0, 11, 0, 0, 0, []),
  (.getfield 62, 12, 12, 22, 0, [2]),
  (.aload_n 0, 15, 0, 0, 0, []),
  (.getfield 168, 16, 12, 25, 0, [0]),
  (.iaload, 19, 0, 0, 0, []),
  (.bipush 32, 20, 0, 0, 32, []),
  (.if_icmp .ne 16, 22, 19, 0, 0, []),
  (.aload_n 0, 25, 0, 0, 0, []),
  (.dup, 26, 0, 0, 0, []),
  (.getfield 168, 27, 12, 25, 0, [0]),
  (.iconst 1, 30, 0, 0, 1, []),
  (.iadd, 31, 0, 0, 0, []),
  (.putfield 168, 32, 12, 25, 0, [0]),
  (.goto (-35), 35, 0, 0, 0, []),
  (.aload_n 0, 38, 0, 0, 0, []),
  (.getfield 168, 39, 12, 25, 0, [0]),
  (.aload_n 0, 42, 0, 0, 0, []),
  (.getfield 158, 43, 12, 23, 0, [0]),
  (.if_icmp .ge 15, 46, 30, 0, 0, []),
  (.aload_n 0, 49, 0, 0, 0, []),
  (.getfield 62, 50, 12, 22, 0, [2]),
  (.aload_n 0, 53, 0, 0, 0, []),
  (.getfield 168, 54, 12, 25, 0, [0]),
  (.iaload, 57, 0, 0, 0, []),
  (.goto 4, 58, 31, 0, 0, []),
  (.iconst (-1), 61, 0, 0, (-1), []),
  (.ireturn, 62, 0, 0, 0, [])]
/-- 95: Mo_readWord()V -/
def kc95 : List In_ := [(.aload_n 0, 0, 0, 0, 0, []),
  (.invokevirtual 171, 1, 94, 0, 0, [1, 12, 0, 0, 0, 0]),
  (.istore_n 1, 4, 1, 0, 0, []),
  (.aload_n 0, 5, 0, 0, 0, []),
  (.lconst 0, 6, 0, 0, 0, []),
  (.putfield 175, 7, 12, 26, 0, [1]),
  (.aload_n 0, 10, 0, 0, 0, []),
  (.aload_n 0, 11, 0, 0, 0, []),
  (.getfield 168, 12, 12, 25, 0, [0]),
  (.putfield 179, 15, 12, 27, 0, [0]),
  (.aload_n 0, 18, 0, 0, 0, []),
  (.getfield 179, 19, 12, 27, 0, [0]),
  (.aload_n 0, 22, 0, 0, 0, []),
  (.getfield 158, 23, 12, 23, 0, [0]),
  (.if_icmp .ge 82, 26, 54, 0, 0, []),
  (.aload_n 0, 29, 0, 0, 0, []),
  (.getfield 62, 30, 12, 22, 0, [2]),
  (.aload_n 0, 33, 0, 0, 0, []),
  (.getfield 179, 34, 12, 27, 0, [0]),
  (.iaload, 37, 0, 0, 0, []),
  (.i2l, 38, 0, 0, 0, []),
  (.ldc2_w 182, 39, 0, 0, 97, []),
  (.ldc2_w 184, 42, 0, 0, 122, []),
  (.invokestatic 102, 45, 17, 0, 0, [3, 0, 0, 0, 0]),
  (.ifCond .eq 60, 48, 54, 0, 0, []),
  (.aload_n 0, 51, 0, 0, 0, []),
  (.aload_n 0, 52, 0, 0, 0, []),
  (.getfield 175, 53, 12, 26, 0, [1]),
  (.ldc2_w 186, 56, 0, 0, 10000000000, []),
  (.lcmp, 59, 0, 0, 0, []),
  (.ifCond .le 9, 60, 33, 0, 0, []),
  (.ldc2_w 188, 63, 0, 0, 20000000000, []),
  (.goto 26, 66, 46, 0, 0, []),
  (.ldc2_w 190, 69, 0, 0, 27, []),
  (.aload_n 0, 72, 0, 0, 0, []),
  (.getfield 175, 73, 12, 26, 0, [1]),
  (.lmul, 76, 0, 0, 0, []),
  (.aload_n 0, 77, 0, 0, 0, []),
  (.getfield 62, 78, 12, 22, 0, [2]),
  (.aload_n 0, 81, 0, 0, 0, []),
  (.getfield 179, 82, 12, 27, 0, [0]),
  (.iaload, 85, 0, 0, 0, []),
  (.i2l, 86, 0, 0, 0, []),
  (.ladd, 87, 0, 0, 0, []),
  (.ldc2_w 192, 88, 0, 0, 96, []),
  (.lsub, 91, 0, 0, 0, []),
  (.putfield 175, 92, 12, 26, 0, [1]),
  (.aload_n 0, 95, 0, 0, 0, []),
  (.dup, 96, 0, 0, 0, []),
  (.getfield 179, 97, 12, 27, 0, [0]),
  (.iconst 1, 100, 0, 0, 1, []),
  (.iadd, 101, 0, 0, 0, []),
  (.putfield 179, 102, 12, 27, 0, [0]),
  (.goto (-87), 105, 10, 0, 0, []),
  (.return_, 108, 0, 0, 0, [])]
/-- 96: Mo_code(IIIIII)J -/
def kc96 : List In_ := [(.ldc2_w 190, 0, 0, 0, 27, []),
  (.iload_n 0, 3, 0, 0, 0, []),
  (.i2l, 4, 0, 0, 0, []),
  (.ldc2_w 192, 5, 0, 0, 96, []),
  (.lsub, 8, 0, 0, 0, []),
  (.lmul, 9, 0, 0, 0, []),
  (.iload_n 1, 10, 1, 0, 0, []),
  (.i2l, 11, 0, 0, 0, []),
  (.ladd, 12, 0, 0, 0, []),
  (.ldc2_w 192, 13, 0, 0, 96, []),
  (.lsub, 16, 0, 0, 0, []),
  (.lstore 6, 17, 6, 0, 0, []),
  (.iload_n 2, 19, 2, 0, 0, []),
  (.ifCond .ne 8, 20, 16, 0, 0, []),
  (.lload 6, 23, 6, 0, 0, []),
  (.goto 16, 25, 24, 0, 0, []),
  (.ldc2_w 190, 28, 0, 0, 27, []),
  (.lload 6, 31, 6, 0, 0, []),
  (.lmul, 33, 0, 0, 0, []),
  (.iload_n 2, 34, 2, 0, 0, []),
  (.i2l, 35, 0, 0, 0, []),
  (.ladd, 36, 0, 0, 0, []),
  (.ldc2_w 192, 37, 0, 0, 96, []),
  (.lsub, 40, 0, 0, 0, []),
  (.lstore 6, 41, 6, 0, 0, []),
  (.iload_n 3, 43, 3, 0, 0, []),
  (.ifCond .ne 8, 44, 29, 0, 0, []),
  (.lload 6, 47, 6, 0, 0, []),
  (.goto 16, 49, 37, 0, 0, []),
  (.ldc2_w 190, 52, 0, 0, 27, []),
  (.lload 6, 55, 6, 0, 0, []),
  (.lmul, 57, 0, 0, 0, []),
  (.iload_n 3, 58, 3, 0, 0, []),
  (.i2l, 59, 0, 0, 0, []),
  (.ladd, 60, 0, 0, 0, []),
  (.ldc2_w 192, 61, 0, 0, 96, []),
  (.lsub, 64, 0, 0, 0, []),
  (.lstore 6, 65, 6, 0, 0, []),
  (.iload 4, 67, 4, 0, 0, []),
  (.ifCond .ne 8, 69, 42, 0, 0, []),
  (.lload 6, 72, 6, 0, 0, []),
  (.goto 17, 74, 50, 0, 0, []),
  (.ldc2_w 190, 77, 0, 0, 27, []),
  (.lload 6, 80, 6, 0, 0, []),
  (.lmul, 82, 0, 0, 0, []),
  (.iload 4, 83, 4, 0, 0, []),
  (.i2l, 85, 0, 0, 0, []),
  (.ladd, 86, 0, 0, 0, []),
  (.ldc2_w 192, 87, 0, 0, 96, []),
  (.lsub, 90, 0, 0, 0, []),
  (.lstore 6, 91, 6, 0, 0, []),
  (.iload 5, 93, 5, 0, 0, []),
  (.ifCond .ne 8, 95, 55, 0, 0, []),
  (.lload 6, 98, 6, 0, 0, []),
  (.goto 17, 100, 63, 0, 0, []),
  (.ldc2_w 190, 103, 0, 0, 27, []),
  (.lload 6, 106, 6, 0, 0, []),
  (.lmul, 108, 0, 0, 0, []),
  (.iload 5, 109, 5, 0, 0, []),
  (.i2l, 111, 0, 0, 0, []),
  (.ladd, 112, 0, 0, 0, []),
  (.ldc2_w 192, 113, 0, 0, 96, []),
  (.lsub, 116, 0, 0, 0, []),
  (.lreturn, 117, 0, 0, 0, [])]
/-- 97: Mo_keyOf()I -/
def kc97_0 : List In_ := [(.aload_n 0, 0, 0, 0, 0, []),
  (.getfield 175, 1, 12, 26, 0, [1]),
  (.bipush 108, 4, 0, 0, 108, []),
  (.bipush 101, 6, 0, 0, 101, []),
  (.bipush 97, 8, 0, 0, 97, []),
  (.bipush 115, 10, 0, 0, 115, []),
  (.bipush 116, 12, 0, 0, 116, []),
  (.iconst 0, 14, 0, 0, 0, []),
  (.invokestatic 194, 15, 96, 0, 0, [6, 0, 0, 0, 0]),
  (.lcmp, 18, 0, 0, 0, []),
  (.ifCond .ne 7, 19, 13, 0, 0, []),
  (.iconst 0, 22, 0, 0, 0, []),
  (.goto 82, 23, 53, 0, 0, []),
  (.aload_n 0, 26, 0, 0, 0, []),
  (.getfield 175, 27, 12, 26, 0, [1]),
  (.bipush 115, 30, 0, 0, 115, []),
  (.bipush 108, 32, 0, 0, 108, []),
  (.bipush 105, 34, 0, 0, 105, []),
  (.bipush 112, 36, 0, 0, 112, []),
  (.bipush 115, 38, 0, 0, 115, []),
  (.iconst 0, 40, 0, 0, 0, []),
  (.invokestatic 194, 41, 96, 0, 0, [6, 0, 0, 0, 0]),
  (.lcmp, 44, 0, 0, 0, []),
  (.ifCond .ne 7, 45, 26, 0, 0, []),
  (.iconst 1, 48, 0, 0, 1, []),
  (.goto 56, 49, 53, 0, 0, []),
  (.aload_n 0, 52, 0, 0, 0, []),
  (.getfield 175, 53, 12, 26, 0, [1]),
  (.bipush 109, 56, 0, 0, 109, []),
  (.bipush 101, 58, 0, 0, 101, []),
  (.bipush 97, 60, 0, 0, 97, []),
  (.bipush 110, 62, 0, 0, 110, []),
  (.iconst 0, 64, 0, 0, 0, []),
  (.iconst 0, 65, 0, 0, 0, []),
  (.invokestatic 194, 66, 96, 0, 0, [6, 0, 0, 0, 0]),
  (.lcmp, 69, 0, 0, 0, []),
  (.ifCond .ne 7, 70, 39, 0, 0, []),
  (.iconst 2, 73, 0, 0, 2, []),
  (.goto 31, 74, 53, 0, 0, []),
  (.aload_n 0, 77, 0, 0, 0, []),
  (.getfield 175, 78, 12, 26, 0, [1]),
  (.bipush 99, 81, 0, 0, 99, []),
  (.bipush 111, 83, 0, 0, 111, []),
  (.bipush 109, 85, 0, 0, 109, []),
  (.bipush 109, 87, 0, 0, 109, []),
  (.bipush 111, 89, 0, 0, 111, []),
  (.bipush 110, 91, 0, 0, 110, []),
  (.invokestatic 194, 93, 96, 0, 0, [6, 0, 0, 0, 0]),
  (.lcmp, 96, 0, 0, 0, []),
  (.ifCond .ne 7, 97, 52, 0, 0, []),
  (.iconst 3, 100, 0, 0, 3, []),
  (.goto 4, 101, 53, 0, 0, []),
  (.iconst (-1), 104, 0, 0, (-1), []),
  (.istore_n 1, 105, 1, 0, 0, []),
  (.aload_n 0, 106, 0, 0, 0, []),
  (.getfield 175, 107, 12, 26, 0, [1]),
  (.bipush 102, 110, 0, 0, 102, []),
  (.bipush 114, 112, 0, 0, 114, []),
  (.bipush 101, 114, 0, 0, 101, []),
  (.bipush 101, 116, 0, 0, 101, []),
  (.iconst 0, 118, 0, 0, 0, []),
  (.iconst 0, 119, 0, 0, 0, []),
  (.invokestatic 194, 120, 96, 0, 0, [6, 0, 0, 0, 0]),
  (.lcmp, 123, 0, 0, 0, []),
  (.ifCond .ne 7, 124, 67, 0, 0, []),
  (.iconst 4, 127, 0, 0, 4, []),
  (.goto 85, 128, 107, 0, 0, []),
  (.aload_n 0, 131, 0, 0, 0, []),
  (.getfield 175, 132, 12, 26, 0, [1]),
  (.bipush 108, 135, 0, 0, 108, []),
  (.bipush 105, 137, 0, 0, 105, []),
  (.bipush 103, 139, 0, 0, 103, []),
  (.bipush 104, 141, 0, 0, 104, []),
  (.bipush 116, 143, 0, 0, 116, []),
  (.iconst 0, 145, 0, 0, 0, []),
  (.invokestatic 194, 146, 96, 0, 0, [6, 0, 0, 0, 0]),
  (.lcmp, 149, 0, 0, 0, []),
  (.ifCond .ne 7, 150, 80, 0, 0, []),
  (.iconst 5, 153, 0, 0, 5, []),
  (.goto 59, 154, 107, 0, 0, []),
  (.aload_n 0, 157, 0, 0, 0, []),
  (.getfield 175, 158, 12, 26, 0, [1]),
  (.bipush 104, 161, 0, 0, 104, []),
  (.bipush 101, 163, 0, 0, 101, []),
  (.bipush 97, 165, 0, 0, 97, []),
  (.bipush 118, 167, 0, 0, 118, []),
  (.bipush 121, 169, 0, 0, 121, []),
  (.iconst 0, 171, 0, 0, 0, []),
  (.invokestatic 194, 172, 96, 0, 0, [6, 0, 0, 0, 0]),
  (.lcmp, 175, 0, 0, 0, []),
  (.ifCond .ne 8, 176, 93, 0, 0, []),
  (.bipush 6, 179, 0, 0, 6, []),
  (.goto 32, 181, 107, 0, 0, []),
  (.aload_n 0, 184, 0, 0, 0, []),
  (.getfield 175, 185, 12, 26, 0, [1]),
  (.bipush 115, 188, 0, 0, 115, []),
  (.bipush 116, 190, 0, 0, 116, []),
  (.bipush 114, 192, 0, 0, 114, []),
  (.bipush 105, 194, 0, 0, 105, []),
  (.bipush 107, 196, 0, 0, 107, [])]
def kc97_1 : List In_ := [(.bipush 101, 198, 0, 0, 101, []),
  (.invokestatic 194, 200, 96, 0, 0, [6, 0, 0, 0, 0]),
  (.lcmp, 203, 0, 0, 0, []),
  (.ifCond .ne 8, 204, 106, 0, 0, []),
  (.bipush 7, 207, 0, 0, 7, []),
  (.goto 4, 209, 107, 0, 0, []),
  (.iconst (-1), 212, 0, 0, (-1), []),
  (.istore_n 2, 213, 2, 0, 0, []),
  (.iload_n 1, 214, 1, 0, 0, []),
  (.ifCond .ge 7, 215, 112, 0, 0, []),
  (.iload_n 2, 218, 2, 0, 0, []),
  (.goto 4, 219, 113, 0, 0, []),
  (.iload_n 1, 222, 1, 0, 0, []),
  (.ireturn, 223, 0, 0, 0, [])]
def kc97 : List In_ := kc97_0 ++ kc97_1
/-- 98: Mo_fails(II)I -/
def kc98 : List In_ := [(.aload_n 0, 0, 0, 0, 0, []),
  (.iload_n 2, 1, 2, 0, 0, []),
  (.putfield 65, 2, 12, 24, 0, [0]),
  (.iload_n 1, 5, 1, 0, 0, []),
  (.ireturn, 6, 0, 0, 0, [])]
/-- 99: Mo_readYes()I -/
def kc99 : List In_ := [(.aload_n 0, 0, 0, 0, 0, []),
  (.invokevirtual 208, 1, 95, 0, 0, [1, 12, 0, 0, 0, 0]),
  (.aload_n 0, 4, 0, 0, 0, []),
  (.aload_n 0, 5, 0, 0, 0, []),
  (.getfield 175, 6, 12, 26, 0, [1]),
  (.bipush 121, 9, 0, 0, 121, []),
  (.bipush 101, 11, 0, 0, 101, []),
  (.bipush 115, 13, 0, 0, 115, []),
  (.iconst 0, 15, 0, 0, 0, []),
  (.iconst 0, 16, 0, 0, 0, []),
  (.iconst 0, 17, 0, 0, 0, []),
  (.invokestatic 194, 18, 96, 0, 0, [6, 0, 0, 0, 0]),
  (.lcmp, 21, 0, 0, 0, []),
  (.ifCond .ne 7, 22, 16, 0, 0, []),
  (.iconst 1, 25, 0, 0, 1, []),
  (.goto 27, 26, 30, 0, 0, []),
  (.aload_n 0, 29, 0, 0, 0, []),
  (.getfield 175, 30, 12, 26, 0, [1]),
  (.bipush 110, 33, 0, 0, 110, []),
  (.bipush 111, 35, 0, 0, 111, []),
  (.iconst 0, 37, 0, 0, 0, []),
  (.iconst 0, 38, 0, 0, 0, []),
  (.iconst 0, 39, 0, 0, 0, []),
  (.iconst 0, 40, 0, 0, 0, []),
  (.invokestatic 194, 41, 96, 0, 0, [6, 0, 0, 0, 0]),
  (.lcmp, 44, 0, 0, 0, []),
  (.ifCond .ne 7, 45, 29, 0, 0, []),
  (.iconst 0, 48, 0, 0, 0, []),
  (.goto 4, 49, 30, 0, 0, []),
  (.iconst (-1), 52, 0, 0, (-1), []),
  (.putfield 205, 53, 12, 28, 0, [0]),
  (.aload_n 0, 56, 0, 0, 0, []),
  (.getfield 205, 57, 12, 28, 0, [0]),
  (.ifCond .ge 13, 60, 40, 0, 0, []),
  (.aload_n 0, 63, 0, 0, 0, []),
  (.iconst 1, 64, 0, 0, 1, []),
  (.aload_n 0, 65, 0, 0, 0, []),
  (.getfield 168, 66, 12, 25, 0, [0]),
  (.invokevirtual 202, 69, 98, 0, 0, [3, 12, 0, 0, 0, 0]),
  (.ireturn, 72, 0, 0, 0, []),
  (.aload_n 0, 73, 0, 0, 0, []),
  (.aload_n 0, 74, 0, 0, 0, []),
  (.getfield 179, 75, 12, 27, 0, [0]),
  (.putfield 168, 78, 12, 25, 0, [0]),
  (.iconst 0, 81, 0, 0, 0, []),
  (.ireturn, 82, 0, 0, 0, [])]
/-- 100: Mo_readNumber(III)I -/
def kc100 : List In_ := [(.aload_n 0, 0, 0, 0, 0, []),
  (.invokevirtual 171, 1, 94, 0, 0, [1, 12, 0, 0, 0, 0]),
  (.istore 4, 4, 4, 0, 0, []),
  (.iload 4, 6, 4, 0, 0, []),
  (.i2l, 8, 0, 0, 0, []),
  (.ldc2_w 198, 9, 0, 0, 48, []),
  (.ldc2_w 200, 12, 0, 0, 57, []),
  (.invokestatic 102, 15, 17, 0, 0, [3, 0, 0, 0, 0]),
  (.ifCond .ne 13, 18, 15, 0, 0, []),
  (.aload_n 0, 21, 0, 0, 0, []),
  (.iconst 1, 22, 0, 0, 1, []),
  (.aload_n 0, 23, 0, 0, 0, []),
  (.getfield 168, 24, 12, 25, 0, [0]),
  (.invokevirtual 202, 27, 98, 0, 0, [3, 12, 0, 0, 0, 0]),
  (.ireturn, 30, 0, 0, 0, []),
  (.aload_n 0, 31, 0, 0, 0, []),
  (.getfield 168, 32, 12, 25, 0, [0]),
  (.istore 5, 35, 5, 0, 0, []),
  (.aload_n 0, 37, 0, 0, 0, []),
  (.iconst 0, 38, 0, 0, 0, []),
  (.putfield 205, 39, 12, 28, 0, [0]),
  (.aload_n 0, 42, 0, 0, 0, []),
  (.getfield 168, 43, 12, 25, 0, [0]),
  (.aload_n 0, 46, 0, 0, 0, []),
  (.getfield 158, 47, 12, 23, 0, [0]),
  (.if_icmp .ge 79, 50, 64, 0, 0, []),
  (.aload_n 0, 53, 0, 0, 0, []),
  (.getfield 62, 54, 12, 22, 0, [2]),
  (.aload_n 0, 57, 0, 0, 0, []),
  (.getfield 168, 58, 12, 25, 0, [0]),
  (.iaload, 61, 0, 0, 0, []),
  (.i2l, 62, 0, 0, 0, []),
  (.ldc2_w 198, 63, 0, 0, 48, []),
  (.ldc2_w 200, 66, 0, 0, 57, []),
  (.invokestatic 102, 69, 17, 0, 0, [3, 0, 0, 0, 0]),
  (.ifCond .eq 57, 72, 64, 0, 0, []),
  (.aload_n 0, 75, 0, 0, 0, []),
  (.aload_n 0, 76, 0, 0, 0, []),
  (.getfield 205, 77, 12, 28, 0, [0]),
  (.sipush 10000, 80, 0, 0, 10000, []),
  (.if_icmp .le 10, 83, 44, 0, 0, []),
  (.aload_n 0, 86, 0, 0, 0, []),
  (.getfield 205, 87, 12, 28, 0, [0]),
  (.goto 23, 90, 56, 0, 0, []),
  (.bipush 10, 93, 0, 0, 10, []),
  (.aload_n 0, 95, 0, 0, 0, []),
  (.getfield 205, 96, 12, 28, 0, [0]),
  (.imul, 99, 0, 0, 0, []),
  (.aload_n 0, 100, 0, 0, 0, []),
  (.getfield 62, 101, 12, 22, 0, [2]),
  (.aload_n 0, 104, 0, 0, 0, []),
  (.getfield 168, 105, 12, 25, 0, [0]),
  (.iaload, 108, 0, 0, 0, []),
  (.iadd, 109, 0, 0, 0, []),
  (.bipush 48, 110, 0, 0, 48, []),
  (.isub, 112, 0, 0, 0, []),
  (.putfield 205, 113, 12, 28, 0, [0]),
  (.aload_n 0, 116, 0, 0, 0, []),
  (.dup, 117, 0, 0, 0, []),
  (.getfield 168, 118, 12, 25, 0, [0]),
  (.iconst 1, 121, 0, 0, 1, []),
  (.iadd, 122, 0, 0, 0, []),
  (.putfield 168, 123, 12, 25, 0, [0]),
  (.goto (-84), 126, 21, 0, 0, []),
  (.aload_n 0, 129, 0, 0, 0, []),
  (.getfield 168, 130, 12, 25, 0, [0]),
  (.iload 5, 133, 5, 0, 0, []),
  (.isub, 135, 0, 0, 0, []),
  (.iconst 3, 136, 0, 0, 3, []),
  (.if_icmp .le 11, 137, 75, 0, 0, []),
  (.aload_n 0, 140, 0, 0, 0, []),
  (.iconst 2, 141, 0, 0, 2, []),
  (.iload 5, 142, 5, 0, 0, []),
  (.invokevirtual 202, 144, 98, 0, 0, [3, 12, 0, 0, 0, 0]),
  (.ireturn, 147, 0, 0, 0, []),
  (.aload_n 0, 148, 0, 0, 0, []),
  (.getfield 205, 149, 12, 28, 0, [0]),
  (.i2l, 152, 0, 0, 0, []),
  (.iload_n 1, 153, 1, 0, 0, []),
  (.i2l, 154, 0, 0, 0, []),
  (.iload_n 2, 155, 2, 0, 0, []),
  (.i2l, 156, 0, 0, 0, []),
  (.invokestatic 102, 157, 17, 0, 0, [3, 0, 0, 0, 0]),
  (.ifCond .eq 7, 160, 86, 0, 0, []),
  (.iconst 0, 163, 0, 0, 0, []),
  (.goto 10, 164, 90, 0, 0, []),
  (.aload_n 0, 167, 0, 0, 0, []),
  (.iload_n 3, 168, 3, 0, 0, []),
  (.iload 5, 169, 5, 0, 0, []),
  (.invokevirtual 202, 171, 98, 0, 0, [3, 12, 0, 0, 0, 0]),
  (.ireturn, 174, 0, 0, 0, [])]
/-- 101: Mo_mostOf(I)I -/
def kc101 : List In_ := [(.iload_n 0, 0, 0, 0, 0, []),
  (.ifCond .ne 8, 1, 4, 0, 0, []),
  (.bipush 20, 4, 0, 0, 20, []),
  (.goto 25, 6, 15, 0, 0, []),
  (.iload_n 0, 9, 0, 0, 0, []),
  (.iconst 1, 10, 0, 0, 1, []),
  (.if_icmp .ne 7, 11, 9, 0, 0, []),
  (.iconst 3, 14, 0, 0, 3, []),
  (.goto 16, 15, 15, 0, 0, []),
  (.iload_n 0, 18, 0, 0, 0, []),
  (.iconst 4, 19, 0, 0, 4, []),
  (.if_icmp .ne 9, 20, 14, 0, 0, []),
  (.sipush 999, 23, 0, 0, 999, []),
  (.goto 5, 26, 15, 0, 0, []),
  (.bipush 100, 29, 0, 0, 100, []),
  (.ireturn, 31, 0, 0, 0, [])]
/-- 102: Mo_readClause(IZ)I -/
def kc102 : List In_ := [(.aload_n 0, 0, 0, 0, 0, []),
  (.invokevirtual 208, 1, 95, 0, 0, [1, 12, 0, 0, 0, 0]),
  (.aload_n 0, 4, 0, 0, 0, []),
  (.invokevirtual 211, 5, 97, 0, 0, [1, 12, 0, 0, 0, 0]),
  (.istore_n 3, 8, 3, 0, 0, []),
  (.iload_n 3, 9, 3, 0, 0, []),
  (.ifCond .lt 7, 10, 9, 0, 0, []),
  (.iload_n 2, 13, 2, 0, 0, []),
  (.ifCond .eq 21, 14, 19, 0, 0, []),
  (.aload_n 0, 17, 0, 0, 0, []),
  (.iload_n 3, 18, 3, 0, 0, []),
  (.ifCond .ge 7, 19, 14, 0, 0, []),
  (.iconst 1, 22, 0, 0, 1, []),
  (.goto 4, 23, 15, 0, 0, []),
  (.iconst 4, 26, 0, 0, 4, []),
  (.aload_n 0, 27, 0, 0, 0, []),
  (.getfield 168, 28, 12, 25, 0, [0]),
  (.invokevirtual 202, 31, 98, 0, 0, [3, 12, 0, 0, 0, 0]),
  (.ireturn, 34, 0, 0, 0, []),
  (.aload_n 0, 35, 0, 0, 0, []),
  (.aload_n 0, 36, 0, 0, 0, []),
  (.getfield 179, 37, 12, 27, 0, [0]),
  (.putfield 168, 40, 12, 25, 0, [0]),
  (.iload_n 3, 43, 3, 0, 0, []),
  (.iconst 2, 44, 0, 0, 2, []),
  (.if_icmp .eq 8, 45, 29, 0, 0, []),
  (.iload_n 3, 48, 3, 0, 0, []),
  (.iconst 3, 49, 0, 0, 3, []),
  (.if_icmp .ne 10, 50, 32, 0, 0, []),
  (.aload_n 0, 53, 0, 0, 0, []),
  (.invokevirtual 214, 54, 99, 0, 0, [1, 12, 0, 0, 0, 0]),
  (.goto 42, 57, 54, 0, 0, []),
  (.iload_n 3, 60, 3, 0, 0, []),
  (.bipush 7, 61, 0, 0, 7, []),
  (.if_icmp .ne 18, 63, 44, 0, 0, []),
  (.aload_n 0, 66, 0, 0, 0, []),
  (.iconst 0, 67, 0, 0, 0, []),
  (.aload_n 0, 68, 0, 0, 0, []),
  (.getfield 155, 69, 12, 14, 0, [0]),
  (.iconst 1, 72, 0, 0, 1, []),
  (.isub, 73, 0, 0, 0, []),
  (.iconst 3, 74, 0, 0, 3, []),
  (.invokevirtual 217, 75, 100, 0, 0, [4, 12, 0, 0, 0, 0]),
  (.goto 21, 78, 54, 0, 0, []),
  (.aload_n 0, 81, 0, 0, 0, []),
  (.iload_n 3, 82, 3, 0, 0, []),
  (.ifCond .ne 7, 83, 49, 0, 0, []),
  (.iconst 2, 86, 0, 0, 2, []),
  (.goto 4, 87, 50, 0, 0, []),
  (.iconst 0, 90, 0, 0, 0, []),
  (.iload_n 3, 91, 3, 0, 0, []),
  (.invokestatic 221, 92, 101, 0, 0, [1, 0, 0, 0, 0]),
  (.iconst 2, 95, 0, 0, 2, []),
  (.invokevirtual 217, 96, 100, 0, 0, [4, 12, 0, 0, 0, 0]),
  (.istore 4, 99, 4, 0, 0, []),
  (.iload 4, 101, 4, 0, 0, []),
  (.ifCond .le 6, 103, 59, 0, 0, []),
  (.iload 4, 106, 4, 0, 0, []),
  (.ireturn, 108, 0, 0, 0, []),
  (.aload_n 0, 109, 0, 0, 0, []),
  (.getfield 50, 110, 12, 18, 0, [2]),
  (.iload_n 1, 113, 1, 0, 0, []),
  (.iload_n 3, 114, 3, 0, 0, []),
  (.iastore, 115, 0, 0, 0, []),
  (.aload_n 0, 116, 0, 0, 0, []),
  (.getfield 53, 117, 12, 19, 0, [2]),
  (.iload_n 1, 120, 1, 0, 0, []),
  (.aload_n 0, 121, 0, 0, 0, []),
  (.getfield 205, 122, 12, 28, 0, [0]),
  (.iastore, 125, 0, 0, 0, []),
  (.aload_n 0, 126, 0, 0, 0, []),
  (.invokevirtual 171, 127, 94, 0, 0, [1, 12, 0, 0, 0, 0]),
  (.bipush 59, 130, 0, 0, 59, []),
  (.if_icmp .eq 13, 132, 80, 0, 0, []),
  (.aload_n 0, 135, 0, 0, 0, []),
  (.iconst 1, 136, 0, 0, 1, []),
  (.aload_n 0, 137, 0, 0, 0, []),
  (.getfield 168, 138, 12, 25, 0, [0]),
  (.invokevirtual 202, 141, 98, 0, 0, [3, 12, 0, 0, 0, 0]),
  (.ireturn, 144, 0, 0, 0, []),
  (.aload_n 0, 145, 0, 0, 0, []),
  (.dup, 146, 0, 0, 0, []),
  (.getfield 168, 147, 12, 25, 0, [0]),
  (.iconst 1, 150, 0, 0, 1, []),
  (.iadd, 151, 0, 0, 0, []),
  (.putfield 168, 152, 12, 25, 0, [0]),
  (.iconst 0, 155, 0, 0, 0, []),
  (.ireturn, 156, 0, 0, 0, [])]
/-- 103: Mo_rule(I)I -/
def kc103 : List In_ := [(.iload_n 1, 0, 1, 0, 0, []),
  (.i2l, 1, 0, 0, 0, []),
  (.lconst 0, 2, 0, 0, 0, []),
  (.ldc2_w 108, 3, 0, 0, 999, []),
  (.invokestatic 102, 6, 17, 0, 0, [3, 0, 0, 0, 0]),
  (.ifCond .ne 7, 9, 8, 0, 0, []),
  (.sipush (-1002), 12, 0, 0, (-1002), []),
  (.ireturn, 15, 0, 0, 0, []),
  (.aload_n 0, 16, 0, 0, 0, []),
  (.getfield 155, 17, 12, 14, 0, [0]),
  (.bipush 8, 20, 0, 0, 8, []),
  (.if_icmp .ne 7, 22, 14, 0, 0, []),
  (.sipush (-1004), 25, 0, 0, (-1004), []),
  (.ireturn, 28, 0, 0, 0, []),
  (.aload_n 0, 29, 0, 0, 0, []),
  (.iconst (-1), 30, 0, 0, (-1), []),
  (.putfield 65, 31, 12, 24, 0, [0]),
  (.aload_n 0, 34, 0, 0, 0, []),
  (.iconst 0, 35, 0, 0, 0, []),
  (.putfield 168, 36, 12, 25, 0, [0]),
  (.iconst 0, 39, 0, 0, 0, []),
  (.istore_n 2, 40, 2, 0, 0, []),
  (.iconst 0, 41, 0, 0, 0, []),
  (.istore_n 3, 42, 3, 0, 0, []),
  (.iload_n 3, 43, 3, 0, 0, []),
  (.ifCond .ne 47, 44, 51, 0, 0, []),
  (.aload_n 0, 47, 0, 0, 0, []),
  (.invokevirtual 171, 48, 94, 0, 0, [1, 12, 0, 0, 0, 0]),
  (.ifCond .lt 40, 51, 51, 0, 0, []),
  (.aload_n 0, 54, 0, 0, 0, []),
  (.aload_n 0, 55, 0, 0, 0, []),
  (.getfield 224, 56, 12, 17, 0, [0]),
  (.iload_n 2, 59, 2, 0, 0, []),
  (.iadd, 60, 0, 0, 0, []),
  (.iload_n 2, 61, 2, 0, 0, []),
  (.bipush 8, 62, 0, 0, 8, []),
  (.if_icmp .ne 7, 64, 39, 0, 0, []),
  (.iconst 1, 67, 0, 0, 1, []),
  (.goto 4, 68, 40, 0, 0, []),
  (.iconst 0, 71, 0, 0, 0, []),
  (.invokevirtual 227, 72, 102, 0, 0, [3, 12, 0, 0, 0, 0]),
  (.istore_n 3, 75, 3, 0, 0, []),
  (.iload_n 2, 76, 2, 0, 0, []),
  (.iload_n 3, 77, 3, 0, 0, []),
  (.ifCond .ne 7, 78, 47, 0, 0, []),
  (.iconst 1, 81, 0, 0, 1, []),
  (.goto 4, 82, 48, 0, 0, []),
  (.iconst 0, 85, 0, 0, 0, []),
  (.iadd, 86, 0, 0, 0, []),
  (.istore_n 2, 87, 2, 0, 0, []),
  (.goto (-45), 88, 24, 0, 0, []),
  (.aload_n 0, 91, 0, 0, 0, []),
  (.iconst 0, 92, 0, 0, 0, []),
  (.putfield 158, 93, 12, 23, 0, [0]),
  (.iload_n 3, 96, 3, 0, 0, []),
  (.ifCond .le 8, 97, 60, 0, 0, []),
  (.bipush (-10), 100, 0, 0, (-10), []),
  (.iload_n 3, 102, 3, 0, 0, []),
  (.isub, 103, 0, 0, 0, []),
  (.ireturn, 104, 0, 0, 0, []),
  (.aload_n 0, 105, 0, 0, 0, []),
  (.getfield 44, 106, 12, 15, 0, [2]),
  (.aload_n 0, 109, 0, 0, 0, []),
  (.getfield 155, 110, 12, 14, 0, [0]),
  (.iload_n 1, 113, 1, 0, 0, []),
  (.iastore, 114, 0, 0, 0, []),
  (.aload_n 0, 115, 0, 0, 0, []),
  (.getfield 47, 116, 12, 16, 0, [2]),
  (.aload_n 0, 119, 0, 0, 0, []),
  (.getfield 155, 120, 12, 14, 0, [0]),
  (.aload_n 0, 123, 0, 0, 0, []),
  (.getfield 224, 124, 12, 17, 0, [0]),
  (.iastore, 127, 0, 0, 0, []),
  (.aload_n 0, 128, 0, 0, 0, []),
  (.dup, 129, 0, 0, 0, []),
  (.getfield 224, 130, 12, 17, 0, [0]),
  (.iload_n 2, 133, 2, 0, 0, []),
  (.iadd, 134, 0, 0, 0, []),
  (.putfield 224, 135, 12, 17, 0, [0]),
  (.aload_n 0, 138, 0, 0, 0, []),
  (.dup, 139, 0, 0, 0, []),
  (.getfield 155, 140, 12, 14, 0, [0]),
  (.iconst 1, 143, 0, 0, 1, []),
  (.iadd, 144, 0, 0, 0, []),
  (.putfield 155, 145, 12, 14, 0, [0]),
  (.aload_n 0, 148, 0, 0, 0, []),
  (.getfield 47, 149, 12, 16, 0, [2]),
  (.aload_n 0, 152, 0, 0, 0, []),
  (.getfield 155, 153, 12, 14, 0, [0]),
  (.aload_n 0, 156, 0, 0, 0, []),
  (.getfield 224, 157, 12, 17, 0, [0]),
  (.iastore, 160, 0, 0, 0, []),
  (.aload_n 0, 161, 0, 0, 0, []),
  (.iconst 0, 162, 0, 0, 0, []),
  (.putfield 110, 163, 12, 8, 0, [3]),
  (.aload_n 0, 166, 0, 0, 0, []),
  (.getfield 155, 167, 12, 14, 0, [0]),
  (.iconst 1, 170, 0, 0, 1, []),
  (.isub, 171, 0, 0, 0, []),
  (.ireturn, 172, 0, 0, 0, [])]
/-- 104: BW_fault()I -/
def kc104 : List In_ := [(.aload_n 0, 0, 0, 0, 0, []),
  (.getfield 35, 1, 11, 3, 0, [2]),
  (.getfield 214, 4, 4, 6, 0, [0]),
  (.ireturn, 7, 0, 0, 0, [])]
/-- 105: Mo_fault()I -/
def kc105 : List In_ := [(.aload_n 0, 0, 0, 0, 0, []),
  (.getfield 65, 1, 12, 24, 0, [0]),
  (.ireturn, 4, 0, 0, 0, [])]
/-- 106: RuleBook_countingOn(I)I -/
def kc106 : List In_ := [(.iconst 0, 0, 0, 0, 0, []),
  (.istore_n 2, 1, 2, 0, 0, []),
  (.iconst 0, 2, 0, 0, 0, []),
  (.istore_n 3, 3, 3, 0, 0, []),
  (.aload_n 0, 4, 0, 0, 0, []),
  (.getfield 23, 5, 5, 3, 0, [0]),
  (.iconst 1, 8, 0, 0, 1, []),
  (.isub, 9, 0, 0, 0, []),
  (.istore 4, 10, 4, 0, 0, []),
  (.iload 4, 12, 4, 0, 0, []),
  (.ifCond .lt 46, 14, 38, 0, 0, []),
  (.aload_n 0, 17, 0, 0, 0, []),
  (.getfield 9, 18, 5, 0, 0, [2]),
  (.iload 4, 21, 4, 0, 0, []),
  (.iaload, 23, 0, 0, 0, []),
  (.iload_n 1, 24, 1, 0, 0, []),
  (.if_icmp .gt 29, 25, 36, 0, 0, []),
  (.iload_n 3, 28, 3, 0, 0, []),
  (.iload 4, 29, 4, 0, 0, []),
  (.iushr, 31, 0, 0, 0, []),
  (.iconst 1, 32, 0, 0, 1, []),
  (.iand, 33, 0, 0, 0, []),
  (.ifCond .ne 20, 34, 36, 0, 0, []),
  (.iload_n 2, 37, 2, 0, 0, []),
  (.iconst 1, 38, 0, 0, 1, []),
  (.iload 4, 39, 4, 0, 0, []),
  (.ishl, 41, 0, 0, 0, []),
  (.ior, 42, 0, 0, 0, []),
  (.istore_n 2, 43, 2, 0, 0, []),
  (.iload_n 3, 44, 3, 0, 0, []),
  (.aload_n 0, 45, 0, 0, 0, []),
  (.getfield 15, 46, 5, 1, 0, [2]),
  (.iload 4, 49, 4, 0, 0, []),
  (.iaload, 51, 0, 0, 0, []),
  (.ior, 52, 0, 0, 0, []),
  (.istore_n 3, 53, 3, 0, 0, []),
  (.iinc 4 (-1), 54, 4, 0, (-1), []),
  (.goto (-45), 57, 9, 0, 0, []),
  (.iload_n 2, 60, 2, 0, 0, []),
  (.ireturn, 61, 0, 0, 0, [])]
/-- 107: RuleBook_holding(II)I -/
def kc107 : List In_ := [(.aload_n 0, 0, 0, 0, 0, []),
  (.iload_n 2, 1, 2, 0, 0, []),
  (.invokevirtual 27, 2, 106, 0, 0, [2, 5, 0, 0, 0, 0]),
  (.istore_n 3, 5, 3, 0, 0, []),
  (.getstatic 31, 6, 3, 2, (-3), []),
  (.iload_n 1, 9, 1, 0, 0, []),
  (.iaload, 10, 0, 0, 0, []),
  (.istore 4, 11, 4, 0, 0, []),
  (.iconst (-1), 13, 0, 0, (-1), []),
  (.istore 5, 14, 5, 0, 0, []),
  (.iconst 0, 16, 0, 0, 0, []),
  (.istore 6, 17, 6, 0, 0, []),
  (.iload 6, 19, 6, 0, 0, []),
  (.aload_n 0, 21, 0, 0, 0, []),
  (.getfield 23, 22, 5, 3, 0, [0]),
  (.if_icmp .ge 63, 25, 50, 0, 0, []),
  (.iload_n 3, 28, 3, 0, 0, []),
  (.iload 6, 29, 6, 0, 0, []),
  (.iushr, 31, 0, 0, 0, []),
  (.iconst 1, 32, 0, 0, 1, []),
  (.iand, 33, 0, 0, 0, []),
  (.ifCond .eq 48, 34, 48, 0, 0, []),
  (.aload_n 0, 37, 0, 0, 0, []),
  (.getfield 20, 38, 5, 2, 0, [2]),
  (.iload 6, 41, 6, 0, 0, []),
  (.aaload, 43, 0, 0, 0, []),
  (.iload_n 1, 44, 1, 0, 0, []),
  (.iaload, 45, 0, 0, 0, []),
  (.iconst (-1), 46, 0, 0, (-1), []),
  (.if_icmp .eq 35, 47, 48, 0, 0, []),
  (.aload_n 0, 50, 0, 0, 0, []),
  (.getfield 9, 51, 5, 0, 0, [2]),
  (.iload 6, 54, 6, 0, 0, []),
  (.iaload, 56, 0, 0, 0, []),
  (.iload 5, 57, 5, 0, 0, []),
  (.if_icmp .lt 23, 59, 48, 0, 0, []),
  (.aload_n 0, 62, 0, 0, 0, []),
  (.getfield 20, 63, 5, 2, 0, [2]),
  (.iload 6, 66, 6, 0, 0, []),
  (.aaload, 68, 0, 0, 0, []),
  (.iload_n 1, 69, 1, 0, 0, []),
  (.iaload, 70, 0, 0, 0, []),
  (.istore 4, 71, 4, 0, 0, []),
  (.aload_n 0, 73, 0, 0, 0, []),
  (.getfield 9, 74, 5, 0, 0, [2]),
  (.iload 6, 77, 6, 0, 0, []),
  (.iaload, 79, 0, 0, 0, []),
  (.istore 5, 80, 5, 0, 0, []),
  (.iinc 6 1, 82, 6, 0, 1, []),
  (.goto (-66), 85, 12, 0, 0, []),
  (.iload 4, 88, 4, 0, 0, []),
  (.ireturn, 90, 0, 0, 0, [])]
/-- 108: BW_force(II)I -/
def kc108 : List In_ := [(.iload_n 1, 0, 1, 0, 0, []),
  (.ifCond .lt 16, 1, 8, 0, 0, []),
  (.iload_n 1, 4, 1, 0, 0, []),
  (.bipush 7, 5, 0, 0, 7, []),
  (.if_icmp .ge 10, 7, 8, 0, 0, []),
  (.iload_n 2, 10, 2, 0, 0, []),
  (.invokestatic 87, 11, 13, 0, 0, [1, 0, 0, 0, 0]),
  (.ifCond .ne 7, 14, 10, 0, 0, []),
  (.sipush (-1002), 17, 0, 0, (-1002), []),
  (.ireturn, 20, 0, 0, 0, []),
  (.aload_n 0, 21, 0, 0, 0, []),
  (.getfield 42, 22, 11, 4, 0, [2]),
  (.iload_n 1, 25, 1, 0, 0, []),
  (.iload_n 2, 26, 2, 0, 0, []),
  (.invokevirtual 217, 27, 107, 0, 0, [3, 5, 0, 0, 0, 0]),
  (.ireturn, 30, 0, 0, 0, [])]
/-- 109: Mo_strikes(II)Z -/
def kc109 : List In_ := [(.iconst 0, 0, 0, 0, 0, []),
  (.istore_n 3, 1, 3, 0, 0, []),
  (.aload_n 0, 2, 0, 0, 0, []),
  (.getfield 47, 3, 12, 16, 0, [2]),
  (.iload_n 1, 6, 1, 0, 0, []),
  (.iaload, 7, 0, 0, 0, []),
  (.istore 4, 8, 4, 0, 0, []),
  (.iload 4, 10, 4, 0, 0, []),
  (.aload_n 0, 12, 0, 0, 0, []),
  (.getfield 47, 13, 12, 16, 0, [2]),
  (.iload_n 1, 16, 1, 0, 0, []),
  (.iconst 1, 17, 0, 0, 1, []),
  (.iadd, 18, 0, 0, 0, []),
  (.iaload, 19, 0, 0, 0, []),
  (.if_icmp .ge 42, 20, 35, 0, 0, []),
  (.iload_n 3, 23, 3, 0, 0, []),
  (.ifCond .ne 26, 24, 29, 0, 0, []),
  (.aload_n 0, 27, 0, 0, 0, []),
  (.getfield 50, 28, 12, 18, 0, [2]),
  (.iload 4, 31, 4, 0, 0, []),
  (.iaload, 33, 0, 0, 0, []),
  (.bipush 7, 34, 0, 0, 7, []),
  (.if_icmp .ne 18, 36, 31, 0, 0, []),
  (.aload_n 0, 39, 0, 0, 0, []),
  (.getfield 53, 40, 12, 19, 0, [2]),
  (.iload 4, 43, 4, 0, 0, []),
  (.iaload, 45, 0, 0, 0, []),
  (.iload_n 2, 46, 2, 0, 0, []),
  (.if_icmp .ne 7, 47, 31, 0, 0, []),
  (.iconst 1, 50, 0, 0, 1, []),
  (.goto 4, 51, 32, 0, 0, []),
  (.iconst 0, 54, 0, 0, 0, []),
  (.istore_n 3, 55, 3, 0, 0, []),
  (.iinc 4 1, 56, 4, 0, 1, []),
  (.goto (-49), 59, 7, 0, 0, []),
  (.iload_n 3, 62, 3, 0, 0, []),
  (.ireturn, 63, 1, 0, 0, [])]
/-- 110: Mo_findRules(I)V -/
def kc110_0 : List In_ := [(.aload_n 0, 0, 0, 0, 0, []),
  (.getfield 59, 1, 12, 21, 0, [2]),
  (.iconst 0, 4, 0, 0, 0, []),
  (.iconst 4, 5, 0, 0, 4, []),
  (.iastore, 6, 0, 0, 0, []),
  (.aload_n 0, 7, 0, 0, 0, []),
  (.getfield 59, 8, 12, 21, 0, [2]),
  (.iconst 1, 11, 0, 0, 1, []),
  (.iconst 0, 12, 0, 0, 0, []),
  (.iastore, 13, 0, 0, 0, []),
  (.aload_n 0, 14, 0, 0, 0, []),
  (.getfield 59, 15, 12, 21, 0, [2]),
  (.iconst 2, 18, 0, 0, 2, []),
  (.iconst 0, 19, 0, 0, 0, []),
  (.iastore, 20, 0, 0, 0, []),
  (.aload_n 0, 21, 0, 0, 0, []),
  (.getfield 59, 22, 12, 21, 0, [2]),
  (.iconst 3, 25, 0, 0, 3, []),
  (.iconst 1, 26, 0, 0, 1, []),
  (.iastore, 27, 0, 0, 0, []),
  (.aload_n 0, 28, 0, 0, 0, []),
  (.getfield 59, 29, 12, 21, 0, [2]),
  (.iconst 4, 32, 0, 0, 4, []),
  (.sipush 900, 33, 0, 0, 900, []),
  (.iastore, 36, 0, 0, 0, []),
  (.aload_n 0, 37, 0, 0, 0, []),
  (.getfield 59, 38, 12, 21, 0, [2]),
  (.iconst 5, 41, 0, 0, 5, []),
  (.bipush 10, 42, 0, 0, 10, []),
  (.iastore, 44, 0, 0, 0, []),
  (.aload_n 0, 45, 0, 0, 0, []),
  (.getfield 59, 46, 12, 21, 0, [2]),
  (.bipush 6, 49, 0, 0, 6, []),
  (.bipush 50, 51, 0, 0, 50, []),
  (.iastore, 53, 0, 0, 0, []),
  (.iconst 0, 54, 0, 0, 0, []),
  (.istore_n 2, 55, 2, 0, 0, []),
  (.aload_n 0, 56, 0, 0, 0, []),
  (.getfield 155, 57, 12, 14, 0, [0]),
  (.iconst 1, 60, 0, 0, 1, []),
  (.isub, 61, 0, 0, 0, []),
  (.istore_n 3, 62, 3, 0, 0, []),
  (.iload_n 3, 63, 3, 0, 0, []),
  (.ifCond .lt 109, 64, 104, 0, 0, []),
  (.aload_n 0, 67, 0, 0, 0, []),
  (.getfield 56, 68, 12, 20, 0, [2]),
  (.iload_n 3, 71, 3, 0, 0, []),
  (.aload_n 0, 72, 0, 0, 0, []),
  (.getfield 44, 73, 12, 15, 0, [2]),
  (.iload_n 3, 76, 3, 0, 0, []),
  (.iaload, 77, 0, 0, 0, []),
  (.iload_n 1, 78, 1, 0, 0, []),
  (.if_icmp .gt 7, 79, 55, 0, 0, []),
  (.iconst 1, 82, 0, 0, 1, []),
  (.goto 4, 83, 56, 0, 0, []),
  (.iconst 0, 86, 0, 0, 0, []),
  (.bastore, 87, 0, 0, 0, []),
  (.iload_n 3, 88, 3, 0, 0, []),
  (.iconst 1, 89, 0, 0, 1, []),
  (.iadd, 90, 0, 0, 0, []),
  (.istore 4, 91, 4, 0, 0, []),
  (.iload 4, 93, 4, 0, 0, []),
  (.aload_n 0, 95, 0, 0, 0, []),
  (.getfield 155, 96, 12, 14, 0, [0]),
  (.if_icmp .ge 49, 99, 89, 0, 0, []),
  (.aload_n 0, 102, 0, 0, 0, []),
  (.getfield 56, 103, 12, 20, 0, [2]),
  (.iload_n 3, 106, 3, 0, 0, []),
  (.aload_n 0, 107, 0, 0, 0, []),
  (.getfield 56, 108, 12, 20, 0, [2]),
  (.iload_n 3, 111, 3, 0, 0, []),
  (.baload, 112, 0, 0, 0, []),
  (.ifCond .eq 27, 113, 85, 0, 0, []),
  (.aload_n 0, 116, 0, 0, 0, []),
  (.getfield 56, 117, 12, 20, 0, [2]),
  (.iload 4, 120, 4, 0, 0, []),
  (.baload, 122, 0, 0, 0, []),
  (.ifCond .eq 13, 123, 83, 0, 0, []),
  (.aload_n 0, 126, 0, 0, 0, []),
  (.iload 4, 127, 4, 0, 0, []),
  (.iload_n 3, 129, 3, 0, 0, []),
  (.invokevirtual 161, 130, 109, 0, 0, [3, 12, 0, 0, 0, 0]),
  (.ifCond .ne 7, 133, 85, 0, 0, []),
  (.iconst 1, 136, 0, 0, 1, []),
  (.goto 4, 137, 86, 0, 0, []),
  (.iconst 0, 140, 0, 0, 0, []),
  (.bastore, 141, 0, 0, 0, []),
  (.iinc 4 1, 142, 4, 0, 1, []),
  (.goto (-52), 145, 61, 0, 0, []),
  (.iload_n 2, 148, 2, 0, 0, []),
  (.aload_n 0, 149, 0, 0, 0, []),
  (.getfield 56, 150, 12, 20, 0, [2]),
  (.iload_n 3, 153, 3, 0, 0, []),
  (.baload, 154, 0, 0, 0, []),
  (.ifCond .eq 9, 155, 99, 0, 0, []),
  (.iconst 1, 158, 0, 0, 1, []),
  (.iload_n 3, 159, 3, 0, 0, []),
  (.ishl, 160, 0, 0, 0, []),
  (.goto 4, 161, 100, 0, 0, []),
  (.iconst 0, 164, 0, 0, 0, [])]
def kc110_1 : List In_ := [(.ior, 165, 0, 0, 0, []),
  (.istore_n 2, 166, 2, 0, 0, []),
  (.iinc 3 (-1), 167, 3, 0, (-1), []),
  (.goto (-107), 170, 42, 0, 0, []),
  (.iload_n 2, 173, 2, 0, 0, []),
  (.ifCond .eq 129, 174, 179, 0, 0, []),
  (.iconst (-1), 177, 0, 0, (-1), []),
  (.istore_n 3, 178, 3, 0, 0, []),
  (.iconst 0, 179, 0, 0, 0, []),
  (.istore 4, 180, 4, 0, 0, []),
  (.iload 4, 182, 4, 0, 0, []),
  (.aload_n 0, 184, 0, 0, 0, []),
  (.getfield 155, 185, 12, 14, 0, [0]),
  (.if_icmp .ge 46, 188, 138, 0, 0, []),
  (.iload_n 2, 191, 2, 0, 0, []),
  (.iload 4, 192, 4, 0, 0, []),
  (.ishr, 194, 0, 0, 0, []),
  (.iconst 1, 195, 0, 0, 1, []),
  (.iand, 196, 0, 0, 0, []),
  (.iconst 1, 197, 0, 0, 1, []),
  (.if_icmp .ne 28, 198, 134, 0, 0, []),
  (.iload_n 3, 201, 3, 0, 0, []),
  (.ifCond .lt 19, 202, 132, 0, 0, []),
  (.aload_n 0, 205, 0, 0, 0, []),
  (.getfield 44, 206, 12, 15, 0, [2]),
  (.iload 4, 209, 4, 0, 0, []),
  (.iaload, 211, 0, 0, 0, []),
  (.aload_n 0, 212, 0, 0, 0, []),
  (.getfield 44, 213, 12, 15, 0, [2]),
  (.iload_n 3, 216, 3, 0, 0, []),
  (.iaload, 217, 0, 0, 0, []),
  (.if_icmp .ge 8, 218, 134, 0, 0, []),
  (.iload 4, 221, 4, 0, 0, []),
  (.goto 4, 223, 135, 0, 0, []),
  (.iload_n 3, 226, 3, 0, 0, []),
  (.istore_n 3, 227, 3, 0, 0, []),
  (.iinc 4 1, 228, 4, 0, 1, []),
  (.goto (-49), 231, 110, 0, 0, []),
  (.aload_n 0, 234, 0, 0, 0, []),
  (.getfield 47, 235, 12, 16, 0, [2]),
  (.iload_n 3, 238, 3, 0, 0, []),
  (.iaload, 239, 0, 0, 0, []),
  (.istore 4, 240, 4, 0, 0, []),
  (.iload 4, 242, 4, 0, 0, []),
  (.aload_n 0, 244, 0, 0, 0, []),
  (.getfield 47, 245, 12, 16, 0, [2]),
  (.iload_n 3, 248, 3, 0, 0, []),
  (.iconst 1, 249, 0, 0, 1, []),
  (.iadd, 250, 0, 0, 0, []),
  (.iaload, 251, 0, 0, 0, []),
  (.if_icmp .ge 40, 252, 170, 0, 0, []),
  (.aload_n 0, 255, 0, 0, 0, []),
  (.getfield 50, 256, 12, 18, 0, [2]),
  (.iload 4, 259, 4, 0, 0, []),
  (.iaload, 261, 0, 0, 0, []),
  (.bipush 7, 262, 0, 0, 7, []),
  (.if_icmp .ge 22, 264, 168, 0, 0, []),
  (.aload_n 0, 267, 0, 0, 0, []),
  (.getfield 59, 268, 12, 21, 0, [2]),
  (.aload_n 0, 271, 0, 0, 0, []),
  (.getfield 50, 272, 12, 18, 0, [2]),
  (.iload 4, 275, 4, 0, 0, []),
  (.iaload, 277, 0, 0, 0, []),
  (.aload_n 0, 278, 0, 0, 0, []),
  (.getfield 53, 279, 12, 19, 0, [2]),
  (.iload 4, 282, 4, 0, 0, []),
  (.iaload, 284, 0, 0, 0, []),
  (.iastore, 285, 0, 0, 0, []),
  (.iinc 4 1, 286, 4, 0, 1, []),
  (.goto (-47), 289, 143, 0, 0, []),
  (.iload_n 2, 292, 2, 0, 0, []),
  (.iconst 1, 293, 0, 0, 1, []),
  (.iload_n 3, 294, 3, 0, 0, []),
  (.ishl, 295, 0, 0, 0, []),
  (.iconst (-1), 296, 0, 0, (-1), []),
  (.ixor, 297, 0, 0, 0, []),
  (.iand, 298, 0, 0, 0, []),
  (.istore_n 2, 299, 2, 0, 0, []),
  (.goto (-127), 300, 104, 0, 0, []),
  (.return_, 303, 0, 0, 0, [])]
def kc110 : List In_ := kc110_0 ++ kc110_1
/-- 111: Mo_force(II)I -/
def kc111 : List In_ := [(.iload_n 1, 0, 1, 0, 0, []),
  (.i2l, 1, 0, 0, 0, []),
  (.lconst 0, 2, 0, 0, 0, []),
  (.ldc2_w 231, 3, 0, 0, 6, []),
  (.invokestatic 102, 6, 17, 0, 0, [3, 0, 0, 0, 0]),
  (.ifCond .eq 15, 9, 12, 0, 0, []),
  (.iload_n 2, 12, 2, 0, 0, []),
  (.i2l, 13, 0, 0, 0, []),
  (.lconst 0, 14, 0, 0, 0, []),
  (.ldc2_w 108, 15, 0, 0, 999, []),
  (.invokestatic 102, 18, 17, 0, 0, [3, 0, 0, 0, 0]),
  (.ifCond .ne 7, 21, 14, 0, 0, []),
  (.sipush (-1002), 24, 0, 0, (-1002), []),
  (.ireturn, 27, 0, 0, 0, []),
  (.aload_n 0, 28, 0, 0, 0, []),
  (.iload_n 2, 29, 2, 0, 0, []),
  (.invokevirtual 233, 30, 110, 0, 0, [2, 12, 0, 0, 0, 0]),
  (.aload_n 0, 33, 0, 0, 0, []),
  (.getfield 59, 34, 12, 21, 0, [2]),
  (.iload_n 1, 37, 1, 0, 0, []),
  (.iaload, 38, 0, 0, 0, []),
  (.ireturn, 39, 0, 0, 0, [])]
/-- 112: BW_refusalOfLook(II)I -/
def kc112 : List In_ := [(.aload_n 0, 0, 0, 0, 0, []),
  (.getfield 10, 1, 11, 0, 0, [2]),
  (.iload_n 1, 4, 1, 0, 0, []),
  (.invokevirtual 102, 5, 19, 0, 0, [2, 1, 0, 0, 0, 0]),
  (.ifCond .ne 7, 8, 7, 0, 0, []),
  (.sipush (-1001), 11, 0, 0, (-1001), []),
  (.ireturn, 14, 0, 0, 0, []),
  (.iload_n 2, 15, 2, 0, 0, []),
  (.ifCond .lt 14, 16, 14, 0, 0, []),
  (.iload_n 2, 19, 2, 0, 0, []),
  (.aload_n 0, 20, 0, 0, 0, []),
  (.getfield 10, 21, 11, 0, 0, [2]),
  (.getfield 91, 24, 1, 1, 0, [0]),
  (.if_icmp .le 9, 27, 16, 0, 0, []),
  (.sipush (-1002), 30, 0, 0, (-1002), []),
  (.goto 4, 33, 17, 0, 0, []),
  (.iconst 0, 36, 0, 0, 0, []),
  (.ireturn, 37, 0, 0, 0, [])]
/-- 113: Runs_sourceSet(II)I -/
def kc113 : List In_ := [(.aload_n 0, 0, 0, 0, 0, []),
  (.getfield 37, 1, 6, 0, 0, [2]),
  (.getfield 49, 4, 1, 0, 0, [2]),
  (.iload_n 1, 7, 1, 0, 0, []),
  (.aaload, 8, 0, 0, 0, []),
  (.getfield 55, 9, 0, 3, 0, [0]),
  (.istore_n 3, 12, 3, 0, 0, []),
  (.aload_n 0, 13, 0, 0, 0, []),
  (.getfield 45, 14, 6, 2, 0, [2]),
  (.iconst 4, 17, 0, 0, 4, []),
  (.iload_n 3, 18, 3, 0, 0, []),
  (.invokevirtual 60, 19, 107, 0, 0, [3, 5, 0, 0, 0, 0]),
  (.istore 4, 22, 4, 0, 0, []),
  (.iconst 0, 24, 0, 0, 0, []),
  (.istore 5, 25, 5, 0, 0, []),
  (.iconst 0, 27, 0, 0, 0, []),
  (.istore 6, 28, 6, 0, 0, []),
  (.iload 6, 30, 6, 0, 0, []),
  (.iload_n 2, 32, 2, 0, 0, []),
  (.if_icmp .ge 63, 33, 49, 0, 0, []),
  (.iload 6, 36, 6, 0, 0, []),
  (.aload_n 0, 38, 0, 0, 0, []),
  (.getfield 37, 39, 6, 0, 0, [2]),
  (.getfield 66, 42, 1, 1, 0, [0]),
  (.if_icmp .ge 51, 45, 49, 0, 0, []),
  (.aload_n 0, 48, 0, 0, 0, []),
  (.getfield 37, 49, 6, 0, 0, [2]),
  (.iload 6, 52, 6, 0, 0, []),
  (.iload_n 1, 54, 1, 0, 0, []),
  (.invokevirtual 69, 55, 39, 0, 0, [3, 1, 0, 0, 0, 0]),
  (.ifCond .eq 32, 58, 47, 0, 0, []),
  (.iload_n 3, 61, 3, 0, 0, []),
  (.aload_n 0, 62, 0, 0, 0, []),
  (.getfield 37, 63, 6, 0, 0, [2]),
  (.getfield 49, 66, 1, 0, 0, [2]),
  (.iload 6, 69, 6, 0, 0, []),
  (.aaload, 71, 0, 0, 0, []),
  (.getfield 55, 72, 0, 3, 0, [0]),
  (.isub, 75, 0, 0, 0, []),
  (.iload 4, 76, 4, 0, 0, []),
  (.if_icmp .ge 12, 78, 47, 0, 0, []),
  (.iload 5, 81, 5, 0, 0, []),
  (.iconst 1, 83, 0, 0, 1, []),
  (.iload 6, 84, 6, 0, 0, []),
  (.ishl, 86, 0, 0, 0, []),
  (.ior, 87, 0, 0, 0, []),
  (.istore 5, 88, 5, 0, 0, []),
  (.iinc 6 1, 90, 6, 0, 1, []),
  (.goto (-63), 93, 17, 0, 0, []),
  (.iload 5, 96, 5, 0, 0, []),
  (.ireturn, 98, 0, 0, 0, [])]
/-- 114: BW_sources(II)I -/
def kc114 : List In_ := [(.aload_n 0, 0, 0, 0, 0, []),
  (.iload_n 1, 1, 1, 0, 0, []),
  (.iload_n 2, 2, 2, 0, 0, []),
  (.invokevirtual 220, 3, 112, 0, 0, [3, 11, 0, 0, 0, 0]),
  (.istore_n 3, 6, 3, 0, 0, []),
  (.iload_n 3, 7, 3, 0, 0, []),
  (.ifCond .eq 7, 8, 9, 0, 0, []),
  (.iload_n 3, 11, 3, 0, 0, []),
  (.goto 12, 12, 14, 0, 0, []),
  (.aload_n 0, 15, 0, 0, 0, []),
  (.getfield 51, 16, 11, 5, 0, [2]),
  (.iload_n 1, 19, 1, 0, 0, []),
  (.iload_n 2, 20, 2, 0, 0, []),
  (.invokevirtual 223, 21, 113, 0, 0, [3, 6, 0, 0, 0, 0]),
  (.ireturn, 24, 0, 0, 0, [])]
/-- 115: Mo_isAsked(I)Z -/
def kc115 : List In_ := [(.iload_n 1, 0, 1, 0, 0, []),
  (.i2l, 1, 0, 0, 0, []),
  (.lconst 0, 2, 0, 0, 0, []),
  (.aload_n 0, 3, 0, 0, 0, []),
  (.getfield 99, 4, 12, 0, 0, [0]),
  (.i2l, 7, 0, 0, 0, []),
  (.invokestatic 102, 8, 17, 0, 0, [3, 0, 0, 0, 0]),
  (.ireturn, 11, 1, 0, 0, [])]
/-- 116: Mo_sourcesOf(II)I -/
def kc116 : List In_ := [(.iconst 0, 0, 0, 0, 0, []),
  (.istore_n 3, 1, 3, 0, 0, []),
  (.iconst 0, 2, 0, 0, 0, []),
  (.istore 4, 3, 4, 0, 0, []),
  (.iload 4, 5, 4, 0, 0, []),
  (.iload_n 2, 7, 2, 0, 0, []),
  (.if_icmp .ge 59, 8, 39, 0, 0, []),
  (.iload_n 3, 11, 3, 0, 0, []),
  (.iload 4, 12, 4, 0, 0, []),
  (.iload_n 1, 14, 1, 0, 0, []),
  (.if_icmp .eq 43, 15, 34, 0, 0, []),
  (.aload_n 0, 18, 0, 0, 0, []),
  (.iload 4, 19, 4, 0, 0, []),
  (.iload_n 1, 21, 1, 0, 0, []),
  (.invokevirtual 144, 22, 46, 0, 0, [3, 12, 0, 0, 0, 0]),
  (.ifCond .eq 33, 25, 34, 0, 0, []),
  (.aload_n 0, 28, 0, 0, 0, []),
  (.getfield 13, 29, 12, 2, 0, [2]),
  (.iload_n 1, 32, 1, 0, 0, []),
  (.iaload, 33, 0, 0, 0, []),
  (.aload_n 0, 34, 0, 0, 0, []),
  (.getfield 13, 35, 12, 2, 0, [2]),
  (.iload 4, 38, 4, 0, 0, []),
  (.iaload, 40, 0, 0, 0, []),
  (.isub, 41, 0, 0, 0, []),
  (.aload_n 0, 42, 0, 0, 0, []),
  (.getfield 59, 43, 12, 21, 0, [2]),
  (.iconst 4, 46, 0, 0, 4, []),
  (.iaload, 47, 0, 0, 0, []),
  (.if_icmp .ge 10, 48, 34, 0, 0, []),
  (.iconst 1, 51, 0, 0, 1, []),
  (.iload 4, 52, 4, 0, 0, []),
  (.ishl, 54, 0, 0, 0, []),
  (.goto 4, 55, 35, 0, 0, []),
  (.iconst 0, 58, 0, 0, 0, []),
  (.ior, 59, 0, 0, 0, []),
  (.istore_n 3, 60, 3, 0, 0, []),
  (.iinc 4 1, 61, 4, 0, 1, []),
  (.goto (-59), 64, 4, 0, 0, []),
  (.iload_n 3, 67, 3, 0, 0, []),
  (.ireturn, 68, 0, 0, 0, [])]
/-- 117: Mo_sources(II)I -/
def kc117 : List In_ := [(.aload_n 0, 0, 0, 0, 0, []),
  (.iload_n 1, 1, 1, 0, 0, []),
  (.invokevirtual 114, 2, 24, 0, 0, [2, 12, 0, 0, 0, 0]),
  (.ifCond .ne 7, 5, 6, 0, 0, []),
  (.sipush (-1001), 8, 0, 0, (-1001), []),
  (.ireturn, 11, 0, 0, 0, []),
  (.aload_n 0, 12, 0, 0, 0, []),
  (.iload_n 2, 13, 2, 0, 0, []),
  (.invokevirtual 254, 14, 115, 0, 0, [2, 12, 0, 0, 0, 0]),
  (.ifCond .ne 7, 17, 12, 0, 0, []),
  (.sipush (-1002), 20, 0, 0, (-1002), []),
  (.ireturn, 23, 0, 0, 0, []),
  (.aload_n 0, 24, 0, 0, 0, []),
  (.aload_n 0, 25, 0, 0, 0, []),
  (.getfield 13, 26, 12, 2, 0, [2]),
  (.iload_n 1, 29, 1, 0, 0, []),
  (.iaload, 30, 0, 0, 0, []),
  (.invokevirtual 233, 31, 110, 0, 0, [2, 12, 0, 0, 0, 0]),
  (.aload_n 0, 34, 0, 0, 0, []),
  (.iload_n 1, 35, 1, 0, 0, []),
  (.iload_n 2, 36, 2, 0, 0, []),
  (.invokevirtual 240, 37, 116, 0, 0, [3, 12, 0, 0, 0, 0]),
  (.ireturn, 40, 0, 0, 0, [])]
/-- 118: Runs_keyOf(I)I -/
def kc118 : List In_ := [(.aload_n 0, 0, 0, 0, 0, []),
  (.getfield 94, 1, 6, 13, 0, [3]),
  (.ifCond .eq 15, 4, 9, 0, 0, []),
  (.aload_n 0, 7, 0, 0, 0, []),
  (.getfield 41, 8, 6, 1, 0, [2]),
  (.getfield 115, 11, 2, 0, 0, [2]),
  (.iload_n 1, 14, 1, 0, 0, []),
  (.iaload, 15, 0, 0, 0, []),
  (.goto 4, 16, 10, 0, 0, []),
  (.iload_n 1, 19, 1, 0, 0, []),
  (.ireturn, 20, 0, 0, 0, [])]
/-- 119: Runs_takeUp(I)V -/
def kc119 : List In_ := [(.aload_n 0, 0, 0, 0, 0, []),
  (.getfield 37, 1, 6, 0, 0, [2]),
  (.getfield 49, 4, 1, 0, 0, [2]),
  (.iload_n 1, 7, 1, 0, 0, []),
  (.aaload, 8, 0, 0, 0, []),
  (.astore_n 2, 9, 2, 0, 0, []),
  (.aload_n 0, 10, 0, 0, 0, []),
  (.aload_n 0, 11, 0, 0, 0, []),
  (.getfield 45, 12, 6, 2, 0, [2]),
  (.iconst 0, 15, 0, 0, 0, []),
  (.aload_n 2, 16, 2, 0, 0, []),
  (.getfield 55, 17, 0, 3, 0, [0]),
  (.invokevirtual 60, 20, 107, 0, 0, [3, 5, 0, 0, 0, 0]),
  (.putfield 88, 23, 6, 11, 0, [0]),
  (.aload_n 0, 26, 0, 0, 0, []),
  (.aload_n 0, 27, 0, 0, 0, []),
  (.getfield 45, 28, 6, 2, 0, [2]),
  (.iconst 1, 31, 0, 0, 1, []),
  (.aload_n 2, 32, 2, 0, 0, []),
  (.getfield 55, 33, 0, 3, 0, [0]),
  (.invokevirtual 60, 36, 107, 0, 0, [3, 5, 0, 0, 0, 0]),
  (.putfield 91, 39, 6, 12, 0, [0]),
  (.aload_n 0, 42, 0, 0, 0, []),
  (.aload_n 0, 43, 0, 0, 0, []),
  (.getfield 45, 44, 6, 2, 0, [2]),
  (.iconst 2, 47, 0, 0, 2, []),
  (.aload_n 2, 48, 2, 0, 0, []),
  (.getfield 55, 49, 0, 3, 0, [0]),
  (.invokevirtual 60, 52, 107, 0, 0, [3, 5, 0, 0, 0, 0]),
  (.iconst 1, 55, 0, 0, 1, []),
  (.if_icmp .ne 7, 56, 33, 0, 0, []),
  (.iconst 1, 59, 0, 0, 1, []),
  (.goto 4, 60, 34, 0, 0, []),
  (.iconst 0, 63, 0, 0, 0, []),
  (.putfield 94, 64, 6, 13, 0, [3]),
  (.aload_n 0, 67, 0, 0, 0, []),
  (.aload_n 0, 68, 0, 0, 0, []),
  (.getfield 45, 69, 6, 2, 0, [2]),
  (.iconst 3, 72, 0, 0, 3, []),
  (.aload_n 2, 73, 2, 0, 0, []),
  (.getfield 55, 74, 0, 3, 0, [0]),
  (.invokevirtual 60, 77, 107, 0, 0, [3, 5, 0, 0, 0, 0]),
  (.iconst 1, 80, 0, 0, 1, []),
  (.if_icmp .ne 7, 81, 46, 0, 0, []),
  (.iconst 1, 84, 0, 0, 1, []),
  (.goto 4, 85, 47, 0, 0, []),
  (.iconst 0, 88, 0, 0, 0, []),
  (.putfield 98, 89, 6, 14, 0, [3]),
  (.aload_n 0, 92, 0, 0, 0, []),
  (.aload_n 2, 93, 2, 0, 0, []),
  (.getfield 101, 94, 0, 4, 0, [0]),
  (.putfield 83, 97, 6, 10, 0, [0]),
  (.aload_n 0, 100, 0, 0, 0, []),
  (.getfield 20, 101, 6, 5, 0, [2]),
  (.iconst 0, 104, 0, 0, 0, []),
  (.iconst 0, 105, 0, 0, 0, []),
  (.iastore, 106, 0, 0, 0, []),
  (.iconst 0, 107, 0, 0, 0, []),
  (.istore_n 3, 108, 3, 0, 0, []),
  (.iload_n 3, 109, 3, 0, 0, []),
  (.aload_n 0, 110, 0, 0, 0, []),
  (.getfield 83, 111, 6, 10, 0, [0]),
  (.if_icmp .ge 62, 114, 97, 0, 0, []),
  (.aload_n 2, 117, 2, 0, 0, []),
  (.getfield 102, 118, 0, 0, 0, [2]),
  (.iload_n 3, 121, 3, 0, 0, []),
  (.iaload, 122, 0, 0, 0, []),
  (.istore 4, 123, 4, 0, 0, []),
  (.aload_n 0, 125, 0, 0, 0, []),
  (.getfield 16, 126, 6, 4, 0, [2]),
  (.iload_n 3, 129, 3, 0, 0, []),
  (.aload_n 0, 130, 0, 0, 0, []),
  (.iload 4, 131, 4, 0, 0, []),
  (.invokevirtual 105, 133, 118, 0, 0, [2, 6, 0, 0, 0, 0]),
  (.iastore, 136, 0, 0, 0, []),
  (.aload_n 0, 137, 0, 0, 0, []),
  (.getfield 20, 138, 6, 5, 0, [2]),
  (.iload_n 3, 141, 3, 0, 0, []),
  (.iconst 1, 142, 0, 0, 1, []),
  (.iadd, 143, 0, 0, 0, []),
  (.aload_n 0, 144, 0, 0, 0, []),
  (.getfield 20, 145, 6, 5, 0, [2]),
  (.iload_n 3, 148, 3, 0, 0, []),
  (.iaload, 149, 0, 0, 0, []),
  (.aload_n 0, 150, 0, 0, 0, []),
  (.getfield 41, 151, 6, 1, 0, [2]),
  (.getfield 109, 154, 2, 2, 0, [2]),
  (.iload 4, 157, 4, 0, 0, []),
  (.baload, 159, 0, 0, 0, []),
  (.ifCond .eq 7, 160, 92, 0, 0, []),
  (.iconst 0, 163, 0, 0, 0, []),
  (.goto 4, 164, 93, 0, 0, []),
  (.iconst 1, 167, 0, 0, 1, []),
  (.iadd, 168, 0, 0, 0, []),
  (.iastore, 169, 0, 0, 0, []),
  (.iinc 3 1, 170, 3, 0, 1, []),
  (.goto (-64), 173, 59, 0, 0, []),
  (.return_, 176, 0, 0, 0, [])]
/-- 120: Runs_holdAgainst(I)V -/
def kc120 : List In_ := [(.aload_n 0, 0, 0, 0, 0, []),
  (.getfield 37, 1, 6, 0, 0, [2]),
  (.getfield 49, 4, 1, 0, 0, [2]),
  (.iload_n 1, 7, 1, 0, 0, []),
  (.aaload, 8, 0, 0, 0, []),
  (.astore_n 2, 9, 2, 0, 0, []),
  (.iconst 0, 10, 0, 0, 0, []),
  (.istore_n 3, 11, 3, 0, 0, []),
  (.iload_n 3, 12, 3, 0, 0, []),
  (.aload_n 0, 13, 0, 0, 0, []),
  (.getfield 83, 14, 6, 10, 0, [0]),
  (.if_icmp .ge 21, 17, 22, 0, 0, []),
  (.aload_n 0, 20, 0, 0, 0, []),
  (.getfield 23, 21, 6, 6, 0, [2]),
  (.aload_n 0, 24, 0, 0, 0, []),
  (.getfield 16, 25, 6, 4, 0, [2]),
  (.iload_n 3, 28, 3, 0, 0, []),
  (.iaload, 29, 0, 0, 0, []),
  (.lconst 0, 30, 0, 0, 0, []),
  (.lastore, 31, 0, 0, 0, []),
  (.iinc 3 1, 32, 3, 0, 1, []),
  (.goto (-23), 35, 8, 0, 0, []),
  (.iconst 0, 38, 0, 0, 0, []),
  (.istore_n 3, 39, 3, 0, 0, []),
  (.iload_n 3, 40, 3, 0, 0, []),
  (.aload_n 2, 41, 2, 0, 0, []),
  (.getfield 101, 42, 0, 4, 0, [0]),
  (.if_icmp .ge 30, 45, 45, 0, 0, []),
  (.aload_n 0, 48, 0, 0, 0, []),
  (.getfield 23, 49, 6, 6, 0, [2]),
  (.aload_n 0, 52, 0, 0, 0, []),
  (.aload_n 2, 53, 2, 0, 0, []),
  (.getfield 102, 54, 0, 0, 0, [2]),
  (.iload_n 3, 57, 3, 0, 0, []),
  (.iaload, 58, 0, 0, 0, []),
  (.invokevirtual 105, 59, 118, 0, 0, [2, 6, 0, 0, 0, 0]),
  (.dup2, 62, 0, 0, 0, []),
  (.laload, 63, 0, 0, 0, []),
  (.lconst 1, 64, 0, 0, 1, []),
  (.iload_n 3, 65, 3, 0, 0, []),
  (.lshl, 66, 0, 0, 0, []),
  (.lor, 67, 0, 0, 0, []),
  (.lastore, 68, 0, 0, 0, []),
  (.iinc 3 1, 69, 3, 0, 1, []),
  (.goto (-32), 72, 24, 0, 0, []),
  (.iconst 0, 75, 0, 0, 0, []),
  (.istore_n 3, 76, 3, 0, 0, []),
  (.iload_n 3, 77, 3, 0, 0, []),
  (.aload_n 0, 78, 0, 0, 0, []),
  (.getfield 83, 79, 6, 10, 0, [0]),
  (.if_icmp .ge 26, 82, 64, 0, 0, []),
  (.aload_n 0, 85, 0, 0, 0, []),
  (.getfield 27, 86, 6, 7, 0, [2]),
  (.iload_n 3, 89, 3, 0, 0, []),
  (.aload_n 0, 90, 0, 0, 0, []),
  (.getfield 23, 91, 6, 6, 0, [2]),
  (.aload_n 0, 94, 0, 0, 0, []),
  (.getfield 16, 95, 6, 4, 0, [2]),
  (.iload_n 3, 98, 3, 0, 0, []),
  (.iaload, 99, 0, 0, 0, []),
  (.laload, 100, 0, 0, 0, []),
  (.lastore, 101, 0, 0, 0, []),
  (.iinc 3 1, 102, 3, 0, 1, []),
  (.goto (-28), 105, 47, 0, 0, []),
  (.return_, 108, 0, 0, 0, [])]
/-- 121: Runs_begin(I)V -/
def kc121 : List In_ := [(.iconst 0, 0, 0, 0, 0, []),
  (.istore_n 2, 1, 2, 0, 0, []),
  (.iload_n 2, 2, 2, 0, 0, []),
  (.iconst 3, 3, 0, 0, 3, []),
  (.if_icmp .gt 16, 4, 12, 0, 0, []),
  (.aload_n 0, 7, 0, 0, 0, []),
  (.getfield 30, 8, 6, 8, 0, [2]),
  (.iload_n 2, 11, 2, 0, 0, []),
  (.lconst 0, 12, 0, 0, 0, []),
  (.lastore, 13, 0, 0, 0, []),
  (.iinc 2 1, 14, 2, 0, 1, []),
  (.goto (-15), 17, 2, 0, 0, []),
  (.aload_n 0, 20, 0, 0, 0, []),
  (.getfield 30, 21, 6, 8, 0, [2]),
  (.iconst 0, 24, 0, 0, 0, []),
  (.aload_n 0, 25, 0, 0, 0, []),
  (.getfield 27, 26, 6, 7, 0, [2]),
  (.iload_n 1, 29, 1, 0, 0, []),
  (.laload, 30, 0, 0, 0, []),
  (.lastore, 31, 0, 0, 0, []),
  (.return_, 32, 0, 0, 0, [])]
/-- 122: Runs_goesAlong()Z -/
def kc122 : List In_ := [(.aload_n 0, 0, 0, 0, 0, []),
  (.getfield 30, 1, 6, 8, 0, [2]),
  (.iconst 0, 4, 0, 0, 0, []),
  (.laload, 5, 0, 0, 0, []),
  (.aload_n 0, 6, 0, 0, 0, []),
  (.getfield 30, 7, 6, 8, 0, [2]),
  (.iconst 1, 10, 0, 0, 1, []),
  (.laload, 11, 0, 0, 0, []),
  (.lor, 12, 0, 0, 0, []),
  (.aload_n 0, 13, 0, 0, 0, []),
  (.getfield 30, 14, 6, 8, 0, [2]),
  (.iconst 2, 17, 0, 0, 2, []),
  (.laload, 18, 0, 0, 0, []),
  (.lor, 19, 0, 0, 0, []),
  (.aload_n 0, 20, 0, 0, 0, []),
  (.getfield 30, 21, 6, 8, 0, [2]),
  (.iconst 3, 24, 0, 0, 3, []),
  (.laload, 25, 0, 0, 0, []),
  (.lor, 26, 0, 0, 0, []),
  (.lconst 0, 27, 0, 0, 0, []),
  (.lcmp, 28, 0, 0, 0, []),
  (.ifCond .eq 7, 29, 24, 0, 0, []),
  (.iconst 1, 32, 0, 0, 1, []),
  (.goto 4, 33, 25, 0, 0, []),
  (.iconst 0, 36, 0, 0, 0, []),
  (.ireturn, 37, 1, 0, 0, [])]
/-- 123: Runs_extend(II)J -/
def kc123 : List In_ := [(.aload_n 0, 0, 0, 0, 0, []),
  (.getfield 27, 1, 6, 7, 0, [2]),
  (.iload_n 1, 4, 1, 0, 0, []),
  (.iload_n 2, 5, 2, 0, 0, []),
  (.iadd, 6, 0, 0, 0, []),
  (.iconst 1, 7, 0, 0, 1, []),
  (.isub, 8, 0, 0, 0, []),
  (.laload, 9, 0, 0, 0, []),
  (.iload_n 2, 10, 2, 0, 0, []),
  (.iconst 1, 11, 0, 0, 1, []),
  (.isub, 12, 0, 0, 0, []),
  (.lushr, 13, 0, 0, 0, []),
  (.lstore_n 3, 14, 3, 0, 0, []),
  (.lconst 0, 15, 0, 0, 0, []),
  (.lstore 5, 16, 5, 0, 0, []),
  (.aload_n 0, 18, 0, 0, 0, []),
  (.getfield 91, 19, 6, 12, 0, [0]),
  (.istore 7, 22, 7, 0, 0, []),
  (.iload 7, 24, 7, 0, 0, []),
  (.ifCond .lt 65, 26, 55, 0, 0, []),
  (.iload 7, 29, 7, 0, 0, []),
  (.ifCond .ne 7, 31, 24, 0, 0, []),
  (.lconst 0, 34, 0, 0, 0, []),
  (.goto 18, 35, 34, 0, 0, []),
  (.aload_n 0, 38, 0, 0, 0, []),
  (.getfield 30, 39, 6, 8, 0, [2]),
  (.iload 7, 42, 7, 0, 0, []),
  (.iconst 1, 44, 0, 0, 1, []),
  (.isub, 45, 0, 0, 0, []),
  (.laload, 46, 0, 0, 0, []),
  (.lload_n 3, 47, 3, 0, 0, []),
  (.ldc2_w 132, 48, 0, 0, (-1), []),
  (.lxor, 51, 0, 0, 0, []),
  (.land, 52, 0, 0, 0, []),
  (.lstore 8, 53, 8, 0, 0, []),
  (.aload_n 0, 55, 0, 0, 0, []),
  (.getfield 30, 56, 6, 8, 0, [2]),
  (.iload 7, 59, 7, 0, 0, []),
  (.laload, 61, 0, 0, 0, []),
  (.lload_n 3, 62, 3, 0, 0, []),
  (.land, 63, 0, 0, 0, []),
  (.lstore 10, 64, 10, 0, 0, []),
  (.aload_n 0, 66, 0, 0, 0, []),
  (.getfield 30, 67, 6, 8, 0, [2]),
  (.iload 7, 70, 7, 0, 0, []),
  (.lload 10, 72, 10, 0, 0, []),
  (.lload 8, 74, 8, 0, 0, []),
  (.lor, 76, 0, 0, 0, []),
  (.lastore, 77, 0, 0, 0, []),
  (.lload 5, 78, 5, 0, 0, []),
  (.lload 10, 80, 10, 0, 0, []),
  (.lor, 82, 0, 0, 0, []),
  (.lstore 5, 83, 5, 0, 0, []),
  (.iinc 7 (-1), 85, 7, 0, (-1), []),
  (.goto (-64), 88, 18, 0, 0, []),
  (.lload 5, 91, 5, 0, 0, []),
  (.lreturn, 93, 0, 0, 0, [])]
/-- 124: Runs_isOwnEnough(II)Z -/
def kc124 : List In_ := [(.aload_n 0, 0, 0, 0, 0, []),
  (.getfield 98, 1, 6, 14, 0, [3]),
  (.ifCond .ne 24, 4, 18, 0, 0, []),
  (.aload_n 0, 7, 0, 0, 0, []),
  (.getfield 20, 8, 6, 5, 0, [2]),
  (.iload_n 1, 11, 1, 0, 0, []),
  (.iload_n 2, 12, 2, 0, 0, []),
  (.iadd, 13, 0, 0, 0, []),
  (.iaload, 14, 0, 0, 0, []),
  (.aload_n 0, 15, 0, 0, 0, []),
  (.getfield 20, 16, 6, 5, 0, [2]),
  (.iload_n 1, 19, 1, 0, 0, []),
  (.iaload, 20, 0, 0, 0, []),
  (.isub, 21, 0, 0, 0, []),
  (.iload_n 2, 22, 2, 0, 0, []),
  (.iconst 2, 23, 0, 0, 2, []),
  (.idiv, 24, 0, 0, 0, []),
  (.if_icmp .lt 7, 25, 20, 0, 0, []),
  (.iconst 1, 28, 0, 0, 1, []),
  (.goto 4, 29, 21, 0, 0, []),
  (.iconst 0, 32, 0, 0, 0, []),
  (.ireturn, 33, 1, 0, 0, [])]
/-- 125: Runs_sizesAt(I)J -/
def kc125 : List In_ := [(.lconst 0, 0, 0, 0, 0, []),
  (.lstore_n 2, 1, 2, 0, 0, []),
  (.aload_n 0, 2, 0, 0, 0, []),
  (.iload_n 1, 3, 1, 0, 0, []),
  (.invokevirtual 118, 4, 121, 0, 0, [2, 6, 0, 0, 0, 0]),
  (.iconst 2, 7, 0, 0, 2, []),
  (.istore 4, 8, 4, 0, 0, []),
  (.iload 4, 10, 4, 0, 0, []),
  (.aload_n 0, 12, 0, 0, 0, []),
  (.getfield 83, 13, 6, 10, 0, [0]),
  (.iload_n 1, 16, 1, 0, 0, []),
  (.isub, 17, 0, 0, 0, []),
  (.if_icmp .gt 54, 18, 40, 0, 0, []),
  (.aload_n 0, 21, 0, 0, 0, []),
  (.invokevirtual 121, 22, 122, 0, 0, [1, 6, 0, 0, 0, 0]),
  (.ifCond .eq 47, 25, 40, 0, 0, []),
  (.aload_n 0, 28, 0, 0, 0, []),
  (.iload_n 1, 29, 1, 0, 0, []),
  (.iload 4, 30, 4, 0, 0, []),
  (.invokevirtual 125, 32, 123, 0, 0, [3, 6, 0, 0, 0, 0]),
  (.lconst 0, 35, 0, 0, 0, []),
  (.lcmp, 36, 0, 0, 0, []),
  (.ifCond .eq 29, 37, 38, 0, 0, []),
  (.iload 4, 40, 4, 0, 0, []),
  (.aload_n 0, 42, 0, 0, 0, []),
  (.getfield 88, 43, 6, 11, 0, [0]),
  (.if_icmp .lt 20, 46, 38, 0, 0, []),
  (.aload_n 0, 49, 0, 0, 0, []),
  (.iload_n 1, 50, 1, 0, 0, []),
  (.iload 4, 51, 4, 0, 0, []),
  (.invokevirtual 129, 53, 124, 0, 0, [3, 6, 0, 0, 0, 0]),
  (.ifCond .eq 10, 56, 38, 0, 0, []),
  (.lload_n 2, 59, 2, 0, 0, []),
  (.lconst 1, 60, 0, 0, 1, []),
  (.iload 4, 61, 4, 0, 0, []),
  (.lshl, 63, 0, 0, 0, []),
  (.lor, 64, 0, 0, 0, []),
  (.lstore_n 2, 65, 2, 0, 0, []),
  (.iinc 4 1, 66, 4, 0, 1, []),
  (.goto (-59), 69, 7, 0, 0, []),
  (.lload_n 2, 72, 2, 0, 0, []),
  (.lreturn, 73, 0, 0, 0, [])]
/-- 126: Runs_lookAt(I)V -/
def kc126 : List In_ := [(.aload_n 0, 0, 0, 0, 0, []),
  (.getfield 33, 1, 6, 9, 0, [0]),
  (.iload_n 1, 4, 1, 0, 0, []),
  (.if_icmp .ne 4, 5, 5, 0, 0, []),
  (.return_, 8, 0, 0, 0, []),
  (.aload_n 0, 9, 0, 0, 0, []),
  (.iload_n 1, 10, 1, 0, 0, []),
  (.invokevirtual 73, 11, 119, 0, 0, [2, 6, 0, 0, 0, 0]),
  (.aload_n 0, 14, 0, 0, 0, []),
  (.iload_n 1, 15, 1, 0, 0, []),
  (.aload_n 0, 16, 0, 0, 0, []),
  (.getfield 37, 17, 6, 0, 0, [2]),
  (.getfield 66, 20, 1, 1, 0, [0]),
  (.invokevirtual 77, 23, 113, 0, 0, [3, 6, 0, 0, 0, 0]),
  (.istore_n 2, 26, 2, 0, 0, []),
  (.iconst 0, 27, 0, 0, 0, []),
  (.istore_n 3, 28, 3, 0, 0, []),
  (.iload_n 3, 29, 3, 0, 0, []),
  (.aload_n 0, 30, 0, 0, 0, []),
  (.getfield 37, 31, 6, 0, 0, [2]),
  (.getfield 66, 34, 1, 1, 0, [0]),
  (.if_icmp .ge 76, 37, 60, 0, 0, []),
  (.iload_n 2, 40, 2, 0, 0, []),
  (.iload_n 3, 41, 3, 0, 0, []),
  (.iushr, 42, 0, 0, 0, []),
  (.iconst 1, 43, 0, 0, 1, []),
  (.iand, 44, 0, 0, 0, []),
  (.ifCond .eq 7, 45, 30, 0, 0, []),
  (.iconst 1, 48, 0, 0, 1, []),
  (.goto 4, 49, 31, 0, 0, []),
  (.iconst 0, 52, 0, 0, 0, []),
  (.istore 4, 53, 4, 0, 0, []),
  (.iload 4, 55, 4, 0, 0, []),
  (.ifCond .eq 8, 57, 37, 0, 0, []),
  (.aload_n 0, 60, 0, 0, 0, []),
  (.iload_n 3, 61, 3, 0, 0, []),
  (.invokevirtual 80, 62, 120, 0, 0, [2, 6, 0, 0, 0, 0]),
  (.iconst 0, 65, 0, 0, 0, []),
  (.istore 5, 66, 5, 0, 0, []),
  (.iload 5, 68, 5, 0, 0, []),
  (.aload_n 0, 70, 0, 0, 0, []),
  (.getfield 83, 71, 6, 10, 0, [0]),
  (.if_icmp .ge 33, 74, 58, 0, 0, []),
  (.aload_n 0, 77, 0, 0, 0, []),
  (.getfield 11, 78, 6, 3, 0, [2]),
  (.iload_n 3, 81, 3, 0, 0, []),
  (.aaload, 82, 0, 0, 0, []),
  (.iload 5, 83, 5, 0, 0, []),
  (.iload 4, 85, 4, 0, 0, []),
  (.ifCond .eq 12, 87, 54, 0, 0, []),
  (.aload_n 0, 90, 0, 0, 0, []),
  (.iload 5, 91, 5, 0, 0, []),
  (.invokevirtual 84, 93, 125, 0, 0, [2, 6, 0, 0, 0, 0]),
  (.goto 4, 96, 55, 0, 0, []),
  (.lconst 0, 99, 0, 0, 0, []),
  (.lastore, 100, 0, 0, 0, []),
  (.iinc 5 1, 101, 5, 0, 1, []),
  (.goto (-36), 104, 39, 0, 0, []),
  (.iinc 3 1, 107, 3, 0, 1, []),
  (.goto (-81), 110, 17, 0, 0, []),
  (.aload_n 0, 113, 0, 0, 0, []),
  (.iload_n 1, 114, 1, 0, 0, []),
  (.putfield 33, 115, 6, 9, 0, [0]),
  (.return_, 118, 0, 0, 0, [])]
/-- 127: BW_sourcesLookedAt(II)I -/
def kc127 : List In_ := [(.aload_n 0, 0, 0, 0, 0, []),
  (.getfield 51, 1, 11, 5, 0, [2]),
  (.iload_n 1, 4, 1, 0, 0, []),
  (.invokevirtual 323, 5, 126, 0, 0, [2, 6, 0, 0, 0, 0]),
  (.aload_n 0, 8, 0, 0, 0, []),
  (.getfield 51, 9, 11, 5, 0, [2]),
  (.iload_n 1, 12, 1, 0, 0, []),
  (.iload_n 2, 13, 2, 0, 0, []),
  (.invokevirtual 223, 14, 113, 0, 0, [3, 6, 0, 0, 0, 0]),
  (.ireturn, 17, 0, 0, 0, [])]
/-- 128: Runs_sizesWithin(II)J -/
def kc128 : List In_ := [(.lconst 0, 0, 0, 0, 0, []),
  (.lstore_n 3, 1, 3, 0, 0, []),
  (.iconst 0, 2, 0, 0, 0, []),
  (.istore 5, 3, 5, 0, 0, []),
  (.iload 5, 5, 5, 0, 0, []),
  (.aload_n 0, 7, 0, 0, 0, []),
  (.getfield 37, 8, 6, 0, 0, [2]),
  (.getfield 66, 11, 1, 1, 0, [0]),
  (.if_icmp .ge 30, 14, 26, 0, 0, []),
  (.iload_n 2, 17, 2, 0, 0, []),
  (.iload 5, 18, 5, 0, 0, []),
  (.iushr, 20, 0, 0, 0, []),
  (.iconst 1, 21, 0, 0, 1, []),
  (.iand, 22, 0, 0, 0, []),
  (.ifCond .eq 15, 23, 24, 0, 0, []),
  (.lload_n 3, 26, 3, 0, 0, []),
  (.aload_n 0, 27, 0, 0, 0, []),
  (.getfield 11, 28, 6, 3, 0, [2]),
  (.iload 5, 31, 5, 0, 0, []),
  (.aaload, 33, 0, 0, 0, []),
  (.iload_n 1, 34, 1, 0, 0, []),
  (.laload, 35, 0, 0, 0, []),
  (.lor, 36, 0, 0, 0, []),
  (.lstore_n 3, 37, 3, 0, 0, []),
  (.iinc 5 1, 38, 5, 0, 1, []),
  (.goto (-36), 41, 4, 0, 0, []),
  (.lload_n 3, 44, 3, 0, 0, []),
  (.lreturn, 45, 0, 0, 0, [])]
/-- 129: Runs_longestAt(II)I -/
def kc129 : List In_ := [(.aload_n 0, 0, 0, 0, 0, []),
  (.iload_n 1, 1, 1, 0, 0, []),
  (.iload_n 2, 2, 2, 0, 0, []),
  (.invokevirtual 134, 3, 128, 0, 0, [3, 6, 0, 0, 0, 0]),
  (.lstore_n 3, 6, 3, 0, 0, []),
  (.aload_n 0, 7, 0, 0, 0, []),
  (.getfield 83, 8, 6, 10, 0, [0]),
  (.iload_n 1, 11, 1, 0, 0, []),
  (.isub, 12, 0, 0, 0, []),
  (.istore 5, 13, 5, 0, 0, []),
  (.iload 5, 15, 5, 0, 0, []),
  (.ifCond .le 20, 17, 22, 0, 0, []),
  (.lload_n 3, 20, 3, 0, 0, []),
  (.iload 5, 21, 5, 0, 0, []),
  (.lushr, 23, 0, 0, 0, []),
  (.lconst 1, 24, 0, 0, 1, []),
  (.land, 25, 0, 0, 0, []),
  (.lconst 0, 26, 0, 0, 0, []),
  (.lcmp, 27, 0, 0, 0, []),
  (.ifCond .ne 9, 28, 22, 0, 0, []),
  (.iinc 5 (-1), 31, 5, 0, (-1), []),
  (.goto (-19), 34, 10, 0, 0, []),
  (.iload 5, 37, 5, 0, 0, []),
  (.iconst 0, 39, 0, 0, 0, []),
  (.invokestatic 137, 40, 0, 0, 0, [0]),
  (.ireturn, 43, 0, 0, 0, [])]
/-- 130: Runs_firstSource(III)I -/
def kc130 : List In_ := [(.iconst 0, 0, 0, 0, 0, []),
  (.istore 4, 1, 4, 0, 0, []),
  (.iload 4, 3, 4, 0, 0, []),
  (.aload_n 0, 5, 0, 0, 0, []),
  (.getfield 37, 6, 6, 0, 0, [2]),
  (.getfield 66, 9, 1, 1, 0, [0]),
  (.if_icmp .ge 39, 12, 30, 0, 0, []),
  (.iload_n 3, 15, 3, 0, 0, []),
  (.iload 4, 16, 4, 0, 0, []),
  (.iushr, 18, 0, 0, 0, []),
  (.iconst 1, 19, 0, 0, 1, []),
  (.iand, 20, 0, 0, 0, []),
  (.ifCond .eq 24, 21, 28, 0, 0, []),
  (.aload_n 0, 24, 0, 0, 0, []),
  (.getfield 11, 25, 6, 3, 0, [2]),
  (.iload 4, 28, 4, 0, 0, []),
  (.aaload, 30, 0, 0, 0, []),
  (.iload_n 1, 31, 1, 0, 0, []),
  (.laload, 32, 0, 0, 0, []),
  (.iload_n 2, 33, 2, 0, 0, []),
  (.lushr, 34, 0, 0, 0, []),
  (.lconst 1, 35, 0, 0, 1, []),
  (.land, 36, 0, 0, 0, []),
  (.lconst 0, 37, 0, 0, 0, []),
  (.lcmp, 38, 0, 0, 0, []),
  (.ifCond .eq 6, 39, 28, 0, 0, []),
  (.iload 4, 42, 4, 0, 0, []),
  (.ireturn, 44, 0, 0, 0, []),
  (.iinc 4 1, 45, 4, 0, 1, []),
  (.goto (-45), 48, 2, 0, 0, []),
  (.iconst (-1), 51, 0, 0, (-1), []),
  (.ireturn, 52, 0, 0, 0, [])]
/-- 131: Runs_leastPlace(III)I -/
def kc131 : List In_ := [(.aload_n 0, 0, 0, 0, 0, []),
  (.getfield 37, 1, 6, 0, 0, [2]),
  (.iload_n 1, 4, 1, 0, 0, []),
  (.invokevirtual 142, 5, 19, 0, 0, [2, 1, 0, 0, 0, 0]),
  (.ifCond .ne 5, 8, 7, 0, 0, []),
  (.iconst (-1), 11, 0, 0, (-1), []),
  (.ireturn, 12, 0, 0, 0, []),
  (.aload_n 0, 13, 0, 0, 0, []),
  (.iload_n 1, 14, 1, 0, 0, []),
  (.invokevirtual 80, 15, 120, 0, 0, [2, 6, 0, 0, 0, 0]),
  (.aload_n 0, 18, 0, 0, 0, []),
  (.iload_n 2, 19, 2, 0, 0, []),
  (.invokevirtual 118, 20, 121, 0, 0, [2, 6, 0, 0, 0, 0]),
  (.lconst 0, 23, 0, 0, 0, []),
  (.lstore 4, 24, 4, 0, 0, []),
  (.iconst 2, 26, 0, 0, 2, []),
  (.istore 6, 27, 6, 0, 0, []),
  (.iload 6, 29, 6, 0, 0, []),
  (.iload_n 3, 31, 3, 0, 0, []),
  (.if_icmp .gt 18, 32, 27, 0, 0, []),
  (.aload_n 0, 35, 0, 0, 0, []),
  (.iload_n 2, 36, 2, 0, 0, []),
  (.iload 6, 37, 6, 0, 0, []),
  (.invokevirtual 125, 39, 123, 0, 0, [3, 6, 0, 0, 0, 0]),
  (.lstore 4, 42, 4, 0, 0, []),
  (.iinc 6 1, 44, 6, 0, 1, []),
  (.goto (-18), 47, 17, 0, 0, []),
  (.iconst 0, 50, 0, 0, 0, []),
  (.istore 6, 51, 6, 0, 0, []),
  (.iload 6, 53, 6, 0, 0, []),
  (.aload_n 0, 55, 0, 0, 0, []),
  (.getfield 37, 56, 6, 0, 0, [2]),
  (.getfield 49, 59, 1, 0, 0, [2]),
  (.iload_n 1, 62, 1, 0, 0, []),
  (.aaload, 63, 0, 0, 0, []),
  (.getfield 101, 64, 0, 4, 0, [0]),
  (.if_icmp .ge 24, 67, 49, 0, 0, []),
  (.lload 4, 70, 4, 0, 0, []),
  (.iload 6, 72, 6, 0, 0, []),
  (.lushr, 74, 0, 0, 0, []),
  (.lconst 1, 75, 0, 0, 1, []),
  (.land, 76, 0, 0, 0, []),
  (.lconst 0, 77, 0, 0, 0, []),
  (.lcmp, 78, 0, 0, 0, []),
  (.ifCond .eq 6, 79, 47, 0, 0, []),
  (.iload 6, 82, 6, 0, 0, []),
  (.ireturn, 84, 0, 0, 0, []),
  (.iinc 6 1, 85, 6, 0, 1, []),
  (.goto (-35), 88, 29, 0, 0, []),
  (.iconst (-1), 91, 0, 0, (-1), []),
  (.ireturn, 92, 0, 0, 0, [])]
/-- 132: BW_reach(IIII)I -/
def kc132 : List In_ := [(.aload_n 0, 0, 0, 0, 0, []),
  (.iload_n 1, 1, 1, 0, 0, []),
  (.iload_n 2, 2, 2, 0, 0, []),
  (.invokevirtual 220, 3, 112, 0, 0, [3, 11, 0, 0, 0, 0]),
  (.istore 5, 6, 5, 0, 0, []),
  (.iload 5, 8, 5, 0, 0, []),
  (.ifCond .eq 6, 10, 9, 0, 0, []),
  (.iload 5, 13, 5, 0, 0, []),
  (.ireturn, 15, 0, 0, 0, []),
  (.aload_n 0, 16, 0, 0, 0, []),
  (.getfield 10, 17, 11, 0, 0, [2]),
  (.getfield 108, 20, 1, 0, 0, [2]),
  (.iload_n 1, 23, 1, 0, 0, []),
  (.aaload, 24, 0, 0, 0, []),
  (.iload_n 3, 25, 3, 0, 0, []),
  (.invokevirtual 163, 26, 51, 0, 0, [2, 0, 0, 0, 0, 0]),
  (.ifCond .eq 14, 29, 22, 0, 0, []),
  (.iload 4, 32, 4, 0, 0, []),
  (.ifCond .lt 9, 34, 22, 0, 0, []),
  (.iload 4, 37, 4, 0, 0, []),
  (.iconst 2, 39, 0, 0, 2, []),
  (.if_icmp .le 7, 40, 24, 0, 0, []),
  (.sipush (-1002), 43, 0, 0, (-1002), []),
  (.ireturn, 46, 0, 0, 0, []),
  (.aload_n 0, 47, 0, 0, 0, []),
  (.iload_n 1, 48, 1, 0, 0, []),
  (.iload_n 2, 49, 2, 0, 0, []),
  (.invokevirtual 226, 50, 127, 0, 0, [3, 11, 0, 0, 0, 0]),
  (.istore 6, 53, 6, 0, 0, []),
  (.aload_n 0, 55, 0, 0, 0, []),
  (.getfield 51, 56, 11, 5, 0, [2]),
  (.iload_n 3, 59, 3, 0, 0, []),
  (.iload 6, 60, 6, 0, 0, []),
  (.invokevirtual 229, 62, 129, 0, 0, [3, 6, 0, 0, 0, 0]),
  (.istore 7, 65, 7, 0, 0, []),
  (.iload 4, 67, 4, 0, 0, []),
  (.ifCond .ne 6, 69, 39, 0, 0, []),
  (.iload 7, 72, 7, 0, 0, []),
  (.ireturn, 74, 0, 0, 0, []),
  (.iload 7, 75, 7, 0, 0, []),
  (.ifCond .ne 5, 77, 43, 0, 0, []),
  (.iconst (-1), 80, 0, 0, (-1), []),
  (.ireturn, 81, 0, 0, 0, []),
  (.aload_n 0, 82, 0, 0, 0, []),
  (.getfield 51, 83, 11, 5, 0, [2]),
  (.iload_n 3, 86, 3, 0, 0, []),
  (.iload 7, 87, 7, 0, 0, []),
  (.iload 6, 89, 6, 0, 0, []),
  (.invokevirtual 232, 91, 130, 0, 0, [4, 6, 0, 0, 0, 0]),
  (.istore 8, 94, 8, 0, 0, []),
  (.iload 4, 96, 4, 0, 0, []),
  (.iconst 1, 98, 0, 0, 1, []),
  (.if_icmp .ne 8, 99, 55, 0, 0, []),
  (.iload 8, 102, 8, 0, 0, []),
  (.goto 15, 104, 61, 0, 0, []),
  (.aload_n 0, 107, 0, 0, 0, []),
  (.getfield 51, 108, 11, 5, 0, [2]),
  (.iload 8, 111, 8, 0, 0, []),
  (.iload_n 3, 113, 3, 0, 0, []),
  (.iload 7, 114, 7, 0, 0, []),
  (.invokevirtual 236, 116, 131, 0, 0, [4, 6, 0, 0, 0, 0]),
  (.ireturn, 119, 0, 0, 0, [])]
/-- 133: Mo_isLike(II)Z -/
def kc133 : List In_ := [(.iload_n 1, 0, 1, 0, 0, []),
  (.iload_n 2, 1, 2, 0, 0, []),
  (.if_icmp .eq 28, 2, 18, 0, 0, []),
  (.aload_n 0, 5, 0, 0, 0, []),
  (.getfield 59, 6, 12, 21, 0, [2]),
  (.iconst 2, 9, 0, 0, 2, []),
  (.iaload, 10, 0, 0, 0, []),
  (.iconst 1, 11, 0, 0, 1, []),
  (.if_icmp .ne 22, 12, 20, 0, 0, []),
  (.aload_n 0, 15, 0, 0, 0, []),
  (.getfield 26, 16, 12, 6, 0, [2]),
  (.iload_n 1, 19, 1, 0, 0, []),
  (.iaload, 20, 0, 0, 0, []),
  (.aload_n 0, 21, 0, 0, 0, []),
  (.getfield 26, 22, 12, 6, 0, [2]),
  (.iload_n 2, 25, 2, 0, 0, []),
  (.iaload, 26, 0, 0, 0, []),
  (.if_icmp .ne 7, 27, 20, 0, 0, []),
  (.iconst 1, 30, 0, 0, 1, []),
  (.goto 4, 31, 21, 0, 0, []),
  (.iconst 0, 34, 0, 0, 0, []),
  (.ireturn, 35, 1, 0, 0, [])]
/-- 134: Mo_runFrom(IIIIZ)I -/
def kc134_0 : List In_ := [(.iconst 0, 0, 0, 0, 0, []),
  (.istore 6, 1, 6, 0, 0, []),
  (.iconst 0, 3, 0, 0, 0, []),
  (.istore 7, 4, 7, 0, 0, []),
  (.iconst 0, 6, 0, 0, 0, []),
  (.istore 8, 7, 8, 0, 0, []),
  (.aload_n 0, 9, 0, 0, 0, []),
  (.aload_n 0, 10, 0, 0, 0, []),
  (.iload_n 1, 11, 1, 0, 0, []),
  (.iload_n 2, 12, 2, 0, 0, []),
  (.invokevirtual 128, 13, 36, 0, 0, [3, 12, 0, 0, 0, 0]),
  (.aload_n 0, 16, 0, 0, 0, []),
  (.iload_n 3, 17, 3, 0, 0, []),
  (.iload 4, 18, 4, 0, 0, []),
  (.invokevirtual 128, 20, 36, 0, 0, [3, 12, 0, 0, 0, 0]),
  (.invokevirtual 237, 23, 133, 0, 0, [3, 12, 0, 0, 0, 0]),
  (.istore 9, 26, 9, 0, 0, []),
  (.iconst 1, 28, 0, 0, 1, []),
  (.istore 10, 29, 10, 0, 0, []),
  (.iload 9, 31, 9, 0, 0, []),
  (.ifCond .eq 199, 33, 132, 0, 0, []),
  (.iload_n 2, 36, 2, 0, 0, []),
  (.iload 10, 37, 10, 0, 0, []),
  (.iadd, 39, 0, 0, 0, []),
  (.aload_n 0, 40, 0, 0, 0, []),
  (.getfield 16, 41, 12, 3, 0, [2]),
  (.iload_n 1, 44, 1, 0, 0, []),
  (.iaload, 45, 0, 0, 0, []),
  (.if_icmp .gt 186, 46, 132, 0, 0, []),
  (.iload 4, 49, 4, 0, 0, []),
  (.iload 10, 51, 10, 0, 0, []),
  (.iadd, 53, 0, 0, 0, []),
  (.aload_n 0, 54, 0, 0, 0, []),
  (.getfield 16, 55, 12, 3, 0, [2]),
  (.iload_n 3, 58, 3, 0, 0, []),
  (.iaload, 59, 0, 0, 0, []),
  (.if_icmp .gt 172, 60, 132, 0, 0, []),
  (.iload 7, 63, 7, 0, 0, []),
  (.aload_n 0, 65, 0, 0, 0, []),
  (.getfield 59, 66, 12, 21, 0, [2]),
  (.iconst 1, 69, 0, 0, 1, []),
  (.iaload, 70, 0, 0, 0, []),
  (.if_icmp .gt 161, 71, 132, 0, 0, []),
  (.aload_n 0, 74, 0, 0, 0, []),
  (.iload_n 1, 75, 1, 0, 0, []),
  (.iload_n 2, 76, 2, 0, 0, []),
  (.iload 10, 77, 10, 0, 0, []),
  (.iadd, 79, 0, 0, 0, []),
  (.iconst 1, 80, 0, 0, 1, []),
  (.isub, 81, 0, 0, 0, []),
  (.invokevirtual 128, 82, 36, 0, 0, [3, 12, 0, 0, 0, 0]),
  (.istore 11, 85, 11, 0, 0, []),
  (.aload_n 0, 87, 0, 0, 0, []),
  (.iload 11, 88, 11, 0, 0, []),
  (.aload_n 0, 90, 0, 0, 0, []),
  (.iload_n 3, 91, 3, 0, 0, []),
  (.iload 4, 92, 4, 0, 0, []),
  (.iload 10, 94, 10, 0, 0, []),
  (.iadd, 96, 0, 0, 0, []),
  (.iconst 1, 97, 0, 0, 1, []),
  (.isub, 98, 0, 0, 0, []),
  (.invokevirtual 128, 99, 36, 0, 0, [3, 12, 0, 0, 0, 0]),
  (.invokevirtual 237, 102, 133, 0, 0, [3, 12, 0, 0, 0, 0]),
  (.istore 12, 105, 12, 0, 0, []),
  (.iload 7, 107, 7, 0, 0, []),
  (.iload 12, 109, 12, 0, 0, []),
  (.ifCond .eq 7, 111, 69, 0, 0, []),
  (.iconst 0, 114, 0, 0, 0, []),
  (.goto 4, 115, 70, 0, 0, []),
  (.iconst 1, 118, 0, 0, 1, []),
  (.iadd, 119, 0, 0, 0, []),
  (.istore 7, 120, 7, 0, 0, []),
  (.iload 8, 122, 8, 0, 0, []),
  (.aload_n 0, 124, 0, 0, 0, []),
  (.getfield 29, 125, 12, 7, 0, [2]),
  (.iload 11, 128, 11, 0, 0, []),
  (.baload, 130, 0, 0, 0, []),
  (.ifCond .eq 7, 131, 80, 0, 0, []),
  (.iconst 0, 134, 0, 0, 0, []),
  (.goto 4, 135, 81, 0, 0, []),
  (.iconst 1, 138, 0, 0, 1, []),
  (.iadd, 139, 0, 0, 0, []),
  (.istore 8, 140, 8, 0, 0, []),
  (.iload 12, 142, 12, 0, 0, []),
  (.ifCond .eq 37, 144, 104, 0, 0, []),
  (.iload 10, 147, 10, 0, 0, []),
  (.aload_n 0, 149, 0, 0, 0, []),
  (.getfield 59, 150, 12, 21, 0, [2]),
  (.iconst 0, 153, 0, 0, 0, []),
  (.iaload, 154, 0, 0, 0, []),
  (.if_icmp .lt 26, 155, 104, 0, 0, []),
  (.aload_n 0, 158, 0, 0, 0, []),
  (.getfield 59, 159, 12, 21, 0, [2]),
  (.iconst 3, 162, 0, 0, 3, []),
  (.iaload, 163, 0, 0, 0, []),
  (.iconst 1, 164, 0, 0, 1, []),
  (.if_icmp .eq 12, 165, 102, 0, 0, []),
  (.iload 8, 168, 8, 0, 0, []),
  (.iload 10, 170, 10, 0, 0, []),
  (.iconst 2, 172, 0, 0, 2, [])]
def kc134_1 : List In_ := [(.idiv, 173, 0, 0, 0, []),
  (.if_icmp .lt 7, 174, 104, 0, 0, []),
  (.iconst 1, 177, 0, 0, 1, []),
  (.goto 4, 178, 105, 0, 0, []),
  (.iconst 0, 181, 0, 0, 0, []),
  (.istore 13, 182, 13, 0, 0, []),
  (.iload 13, 184, 13, 0, 0, []),
  (.ifCond .eq 8, 186, 110, 0, 0, []),
  (.iload 10, 189, 10, 0, 0, []),
  (.goto 5, 191, 111, 0, 0, []),
  (.iload 6, 194, 6, 0, 0, []),
  (.istore 6, 196, 6, 0, 0, []),
  (.iload 13, 198, 13, 0, 0, []),
  (.ifCond .eq 26, 200, 130, 0, 0, []),
  (.iload 5, 203, 5, 0, 0, []),
  (.ifCond .eq 21, 205, 130, 0, 0, []),
  (.aload_n 0, 208, 0, 0, 0, []),
  (.getfield 69, 209, 12, 29, 0, [2]),
  (.bipush 61, 212, 0, 0, 61, []),
  (.iload_n 2, 214, 2, 0, 0, []),
  (.imul, 215, 0, 0, 0, []),
  (.iload 10, 216, 10, 0, 0, []),
  (.iadd, 218, 0, 0, 0, []),
  (.dup2, 219, 0, 0, 0, []),
  (.iaload, 220, 0, 0, 0, []),
  (.iconst 1, 221, 0, 0, 1, []),
  (.iload_n 3, 222, 3, 0, 0, []),
  (.ishl, 223, 0, 0, 0, []),
  (.ior, 224, 0, 0, 0, []),
  (.iastore, 225, 0, 0, 0, []),
  (.iinc 10 1, 226, 10, 0, 1, []),
  (.goto (-198), 229, 19, 0, 0, []),
  (.iload 6, 232, 6, 0, 0, []),
  (.ireturn, 234, 0, 0, 0, [])]
def kc134 : List In_ := kc134_0 ++ kc134_1
/-- 135: Mo_reach(IIII)I -/
def kc135 : List In_ := [(.aload_n 0, 0, 0, 0, 0, []),
  (.iload_n 1, 1, 1, 0, 0, []),
  (.invokevirtual 114, 2, 24, 0, 0, [2, 12, 0, 0, 0, 0]),
  (.ifCond .ne 7, 5, 6, 0, 0, []),
  (.sipush (-1001), 8, 0, 0, (-1001), []),
  (.ireturn, 11, 0, 0, 0, []),
  (.aload_n 0, 12, 0, 0, 0, []),
  (.iload_n 2, 13, 2, 0, 0, []),
  (.invokevirtual 254, 14, 115, 0, 0, [2, 12, 0, 0, 0, 0]),
  (.ifCond .eq 34, 17, 28, 0, 0, []),
  (.iload_n 3, 20, 3, 0, 0, []),
  (.i2l, 21, 0, 0, 0, []),
  (.lconst 0, 22, 0, 0, 0, []),
  (.aload_n 0, 23, 0, 0, 0, []),
  (.getfield 16, 24, 12, 3, 0, [2]),
  (.iload_n 1, 27, 1, 0, 0, []),
  (.iaload, 28, 0, 0, 0, []),
  (.iconst 1, 29, 0, 0, 1, []),
  (.isub, 30, 0, 0, 0, []),
  (.i2l, 31, 0, 0, 0, []),
  (.invokestatic 102, 32, 17, 0, 0, [3, 0, 0, 0, 0]),
  (.ifCond .eq 16, 35, 28, 0, 0, []),
  (.iload 4, 38, 4, 0, 0, []),
  (.i2l, 40, 0, 0, 0, []),
  (.lconst 0, 41, 0, 0, 0, []),
  (.ldc2_w 257, 42, 0, 0, 2, []),
  (.invokestatic 102, 45, 17, 0, 0, [3, 0, 0, 0, 0]),
  (.ifCond .ne 7, 48, 30, 0, 0, []),
  (.sipush (-1002), 51, 0, 0, (-1002), []),
  (.ireturn, 54, 0, 0, 0, []),
  (.aload_n 0, 55, 0, 0, 0, []),
  (.aload_n 0, 56, 0, 0, 0, []),
  (.getfield 13, 57, 12, 2, 0, [2]),
  (.iload_n 1, 60, 1, 0, 0, []),
  (.iaload, 61, 0, 0, 0, []),
  (.invokevirtual 233, 62, 110, 0, 0, [2, 12, 0, 0, 0, 0]),
  (.aload_n 0, 65, 0, 0, 0, []),
  (.iload_n 1, 66, 1, 0, 0, []),
  (.iload_n 2, 67, 2, 0, 0, []),
  (.invokevirtual 240, 68, 116, 0, 0, [3, 12, 0, 0, 0, 0]),
  (.istore 5, 71, 5, 0, 0, []),
  (.iconst 0, 73, 0, 0, 0, []),
  (.istore 6, 74, 6, 0, 0, []),
  (.iconst (-1), 76, 0, 0, (-1), []),
  (.istore 7, 77, 7, 0, 0, []),
  (.iconst (-1), 79, 0, 0, (-1), []),
  (.istore 8, 80, 8, 0, 0, []),
  (.iconst 0, 82, 0, 0, 0, []),
  (.istore 9, 83, 9, 0, 0, []),
  (.iload 9, 85, 9, 0, 0, []),
  (.iload_n 2, 87, 2, 0, 0, []),
  (.if_icmp .ge 73, 88, 88, 0, 0, []),
  (.iconst 0, 91, 0, 0, 0, []),
  (.istore 10, 92, 10, 0, 0, []),
  (.iload 10, 94, 10, 0, 0, []),
  (.aload_n 0, 96, 0, 0, 0, []),
  (.getfield 16, 97, 12, 3, 0, [2]),
  (.iload 9, 100, 9, 0, 0, []),
  (.iaload, 102, 0, 0, 0, []),
  (.if_icmp .ge 52, 103, 86, 0, 0, []),
  (.iload 5, 106, 5, 0, 0, []),
  (.iload 9, 108, 9, 0, 0, []),
  (.ishr, 110, 0, 0, 0, []),
  (.iconst 1, 111, 0, 0, 1, []),
  (.iand, 112, 0, 0, 0, []),
  (.iconst 1, 113, 0, 0, 1, []),
  (.if_icmp .ne 41, 114, 86, 0, 0, []),
  (.aload_n 0, 117, 0, 0, 0, []),
  (.iload_n 1, 118, 1, 0, 0, []),
  (.iload_n 3, 119, 3, 0, 0, []),
  (.iload 9, 120, 9, 0, 0, []),
  (.iload 10, 122, 10, 0, 0, []),
  (.iconst 0, 124, 0, 0, 0, []),
  (.invokevirtual 246, 125, 134, 0, 0, [6, 12, 0, 0, 0, 0]),
  (.istore 11, 128, 11, 0, 0, []),
  (.iload 11, 130, 11, 0, 0, []),
  (.iload 6, 132, 6, 0, 0, []),
  (.if_icmp .le 15, 134, 84, 0, 0, []),
  (.iload 11, 137, 11, 0, 0, []),
  (.istore 6, 139, 6, 0, 0, []),
  (.iload 9, 141, 9, 0, 0, []),
  (.istore 7, 143, 7, 0, 0, []),
  (.iload 10, 145, 10, 0, 0, []),
  (.istore 8, 147, 8, 0, 0, []),
  (.iinc 10 1, 149, 10, 0, 1, []),
  (.goto (-58), 152, 54, 0, 0, []),
  (.iinc 9 1, 155, 9, 0, 1, []),
  (.goto (-73), 158, 49, 0, 0, []),
  (.iload 4, 161, 4, 0, 0, []),
  (.ifCond .ne 8, 163, 92, 0, 0, []),
  (.iload 6, 166, 6, 0, 0, []),
  (.goto 16, 168, 98, 0, 0, []),
  (.iload 4, 171, 4, 0, 0, []),
  (.iconst 1, 173, 0, 0, 1, []),
  (.if_icmp .ne 8, 174, 97, 0, 0, []),
  (.iload 7, 177, 7, 0, 0, []),
  (.goto 5, 179, 98, 0, 0, []),
  (.iload 8, 182, 8, 0, 0, []),
  (.ireturn, 184, 0, 0, 0, [])]
/-- 136: Explanation_choose(IJ)V -/
def kc136_0 : List In_ := [(.aload_n 0, 0, 0, 0, 0, []),
  (.getfield 9, 1, 7, 1, 0, [2]),
  (.iload_n 1, 4, 1, 0, 0, []),
  (.aload_n 0, 5, 0, 0, 0, []),
  (.getfield 9, 6, 7, 1, 0, [2]),
  (.iload_n 1, 9, 1, 0, 0, []),
  (.iconst 1, 10, 0, 0, 1, []),
  (.iadd, 11, 0, 0, 0, []),
  (.iaload, 12, 0, 0, 0, []),
  (.iastore, 13, 0, 0, 0, []),
  (.aload_n 0, 14, 0, 0, 0, []),
  (.getfield 15, 15, 7, 2, 0, [2]),
  (.iload_n 1, 18, 1, 0, 0, []),
  (.aload_n 0, 19, 0, 0, 0, []),
  (.getfield 15, 20, 7, 2, 0, [2]),
  (.iload_n 1, 23, 1, 0, 0, []),
  (.iconst 1, 24, 0, 0, 1, []),
  (.iadd, 25, 0, 0, 0, []),
  (.iaload, 26, 0, 0, 0, []),
  (.iastore, 27, 0, 0, 0, []),
  (.aload_n 0, 28, 0, 0, 0, []),
  (.getfield 18, 29, 7, 3, 0, [2]),
  (.iload_n 1, 32, 1, 0, 0, []),
  (.iconst 0, 33, 0, 0, 0, []),
  (.iastore, 34, 0, 0, 0, []),
  (.lload_n 2, 35, 2, 0, 0, []),
  (.lconst 0, 36, 0, 0, 0, []),
  (.lcmp, 37, 0, 0, 0, []),
  (.ifCond .ne 4, 38, 30, 0, 0, []),
  (.return_, 41, 0, 0, 0, []),
  (.aload_n 0, 42, 0, 0, 0, []),
  (.getfield 27, 43, 7, 0, 0, [2]),
  (.getfield 56, 46, 6, 11, 0, [0]),
  (.istore 4, 49, 4, 0, 0, []),
  (.iload 4, 51, 4, 0, 0, []),
  (.aload_n 0, 53, 0, 0, 0, []),
  (.getfield 27, 54, 7, 0, 0, [2]),
  (.getfield 43, 57, 6, 10, 0, [0]),
  (.iload_n 1, 60, 1, 0, 0, []),
  (.isub, 61, 0, 0, 0, []),
  (.if_icmp .gt 116, 62, 108, 0, 0, []),
  (.iload 4, 65, 4, 0, 0, []),
  (.aload_n 0, 67, 0, 0, 0, []),
  (.getfield 9, 68, 7, 1, 0, [2]),
  (.iload_n 1, 71, 1, 0, 0, []),
  (.iload 4, 72, 4, 0, 0, []),
  (.iadd, 74, 0, 0, 0, []),
  (.iaload, 75, 0, 0, 0, []),
  (.iadd, 76, 0, 0, 0, []),
  (.istore 5, 77, 5, 0, 0, []),
  (.iconst 1, 79, 0, 0, 1, []),
  (.aload_n 0, 80, 0, 0, 0, []),
  (.getfield 15, 81, 7, 2, 0, [2]),
  (.iload_n 1, 84, 1, 0, 0, []),
  (.iload 4, 85, 4, 0, 0, []),
  (.iadd, 87, 0, 0, 0, []),
  (.iaload, 88, 0, 0, 0, []),
  (.iadd, 89, 0, 0, 0, []),
  (.istore 6, 90, 6, 0, 0, []),
  (.iload 5, 92, 5, 0, 0, []),
  (.aload_n 0, 94, 0, 0, 0, []),
  (.getfield 9, 95, 7, 1, 0, [2]),
  (.iload_n 1, 98, 1, 0, 0, []),
  (.iaload, 99, 0, 0, 0, []),
  (.if_icmp .gt 25, 100, 77, 0, 0, []),
  (.iload 5, 103, 5, 0, 0, []),
  (.aload_n 0, 105, 0, 0, 0, []),
  (.getfield 9, 106, 7, 1, 0, [2]),
  (.iload_n 1, 109, 1, 0, 0, []),
  (.iaload, 110, 0, 0, 0, []),
  (.if_icmp .ne 18, 111, 79, 0, 0, []),
  (.iload 6, 114, 6, 0, 0, []),
  (.aload_n 0, 116, 0, 0, 0, []),
  (.getfield 15, 117, 7, 2, 0, [2]),
  (.iload_n 1, 120, 1, 0, 0, []),
  (.iaload, 121, 0, 0, 0, []),
  (.if_icmp .gt 7, 122, 79, 0, 0, []),
  (.iconst 1, 125, 0, 0, 1, []),
  (.goto 4, 126, 80, 0, 0, []),
  (.iconst 0, 129, 0, 0, 0, []),
  (.istore 7, 130, 7, 0, 0, []),
  (.lload_n 2, 132, 2, 0, 0, []),
  (.iload 4, 133, 4, 0, 0, []),
  (.lushr, 135, 0, 0, 0, []),
  (.lconst 1, 136, 0, 0, 1, []),
  (.land, 137, 0, 0, 0, []),
  (.lconst 0, 138, 0, 0, 0, []),
  (.lcmp, 139, 0, 0, 0, []),
  (.ifCond .eq 32, 140, 106, 0, 0, []),
  (.iload 7, 143, 7, 0, 0, []),
  (.ifCond .eq 27, 145, 106, 0, 0, []),
  (.aload_n 0, 148, 0, 0, 0, []),
  (.getfield 9, 149, 7, 1, 0, [2]),
  (.iload_n 1, 152, 1, 0, 0, []),
  (.iload 5, 153, 5, 0, 0, []),
  (.iastore, 155, 0, 0, 0, []),
  (.aload_n 0, 156, 0, 0, 0, []),
  (.getfield 15, 157, 7, 2, 0, [2]),
  (.iload_n 1, 160, 1, 0, 0, []),
  (.iload 6, 161, 6, 0, 0, [])]
def kc136_1 : List In_ := [(.iastore, 163, 0, 0, 0, []),
  (.aload_n 0, 164, 0, 0, 0, []),
  (.getfield 18, 165, 7, 3, 0, [2]),
  (.iload_n 1, 168, 1, 0, 0, []),
  (.iload 4, 169, 4, 0, 0, []),
  (.iastore, 171, 0, 0, 0, []),
  (.iinc 4 1, 172, 4, 0, 1, []),
  (.goto (-124), 175, 34, 0, 0, []),
  (.return_, 178, 0, 0, 0, [])]
def kc136 : List In_ := kc136_0 ++ kc136_1
/-- 137: Explanation_weigh(I)I -/
def kc137 : List In_ := [(.aload_n 0, 0, 0, 0, 0, []),
  (.getfield 9, 1, 7, 1, 0, [2]),
  (.aload_n 0, 4, 0, 0, 0, []),
  (.getfield 27, 5, 7, 0, 0, [2]),
  (.getfield 43, 8, 6, 10, 0, [0]),
  (.iconst 0, 11, 0, 0, 0, []),
  (.iastore, 12, 0, 0, 0, []),
  (.aload_n 0, 13, 0, 0, 0, []),
  (.getfield 15, 14, 7, 2, 0, [2]),
  (.aload_n 0, 17, 0, 0, 0, []),
  (.getfield 27, 18, 7, 0, 0, [2]),
  (.getfield 43, 21, 6, 10, 0, [0]),
  (.iconst 0, 24, 0, 0, 0, []),
  (.iastore, 25, 0, 0, 0, []),
  (.aload_n 0, 26, 0, 0, 0, []),
  (.getfield 27, 27, 7, 0, 0, [2]),
  (.getfield 43, 30, 6, 10, 0, [0]),
  (.iconst 1, 33, 0, 0, 1, []),
  (.isub, 34, 0, 0, 0, []),
  (.istore_n 2, 35, 2, 0, 0, []),
  (.iload_n 2, 36, 2, 0, 0, []),
  (.ifCond .lt 23, 37, 32, 0, 0, []),
  (.aload_n 0, 40, 0, 0, 0, []),
  (.iload_n 2, 41, 2, 0, 0, []),
  (.aload_n 0, 42, 0, 0, 0, []),
  (.getfield 27, 43, 7, 0, 0, [2]),
  (.iload_n 2, 46, 2, 0, 0, []),
  (.iload_n 1, 47, 1, 0, 0, []),
  (.invokevirtual 48, 48, 128, 0, 0, [3, 6, 0, 0, 0, 0]),
  (.invokevirtual 52, 51, 136, 0, 0, [3, 7, 0, 0, 0, 0]),
  (.iinc 2 (-1), 54, 2, 0, (-1), []),
  (.goto (-21), 57, 20, 0, 0, []),
  (.aload_n 0, 60, 0, 0, 0, []),
  (.getfield 9, 61, 7, 1, 0, [2]),
  (.iconst 0, 64, 0, 0, 0, []),
  (.iaload, 65, 0, 0, 0, []),
  (.ireturn, 66, 0, 0, 0, [])]
/-- 138: Explanation_explain(I)V -/
def kc138 : List In_ := [(.aload_n 0, 0, 0, 0, 0, []),
  (.iload_n 1, 1, 1, 0, 0, []),
  (.invokevirtual 31, 2, 137, 0, 0, [2, 7, 0, 0, 0, 0]),
  (.pop, 5, 0, 0, 0, []),
  (.aload_n 0, 6, 0, 0, 0, []),
  (.iconst 0, 7, 0, 0, 0, []),
  (.putfield 35, 8, 7, 6, 0, [0]),
  (.aload_n 0, 11, 0, 0, 0, []),
  (.lconst 0, 12, 0, 0, 0, []),
  (.putfield 39, 13, 7, 7, 0, [1]),
  (.iconst 0, 16, 0, 0, 0, []),
  (.istore_n 2, 17, 2, 0, 0, []),
  (.iconst 0, 18, 0, 0, 0, []),
  (.istore_n 3, 19, 3, 0, 0, []),
  (.iload_n 3, 20, 3, 0, 0, []),
  (.aload_n 0, 21, 0, 0, 0, []),
  (.getfield 27, 22, 7, 0, 0, [2]),
  (.getfield 43, 25, 6, 10, 0, [0]),
  (.if_icmp .ge 84, 28, 68, 0, 0, []),
  (.iload_n 3, 31, 3, 0, 0, []),
  (.iload_n 2, 32, 2, 0, 0, []),
  (.if_icmp .lt 56, 33, 55, 0, 0, []),
  (.aload_n 0, 36, 0, 0, 0, []),
  (.getfield 18, 37, 7, 3, 0, [2]),
  (.iload_n 3, 40, 3, 0, 0, []),
  (.iaload, 41, 0, 0, 0, []),
  (.ifCond .le 47, 42, 55, 0, 0, []),
  (.aload_n 0, 45, 0, 0, 0, []),
  (.getfield 21, 46, 7, 4, 0, [2]),
  (.aload_n 0, 49, 0, 0, 0, []),
  (.getfield 35, 50, 7, 6, 0, [0]),
  (.iload_n 3, 53, 3, 0, 0, []),
  (.iastore, 54, 0, 0, 0, []),
  (.aload_n 0, 55, 0, 0, 0, []),
  (.getfield 24, 56, 7, 5, 0, [2]),
  (.aload_n 0, 59, 0, 0, 0, []),
  (.getfield 35, 60, 7, 6, 0, [0]),
  (.aload_n 0, 63, 0, 0, 0, []),
  (.getfield 18, 64, 7, 3, 0, [2]),
  (.iload_n 3, 67, 3, 0, 0, []),
  (.iaload, 68, 0, 0, 0, []),
  (.iastore, 69, 0, 0, 0, []),
  (.aload_n 0, 70, 0, 0, 0, []),
  (.dup, 71, 0, 0, 0, []),
  (.getfield 35, 72, 7, 6, 0, [0]),
  (.iconst 1, 75, 0, 0, 1, []),
  (.iadd, 76, 0, 0, 0, []),
  (.putfield 35, 77, 7, 6, 0, [0]),
  (.iload_n 3, 80, 3, 0, 0, []),
  (.aload_n 0, 81, 0, 0, 0, []),
  (.getfield 18, 82, 7, 3, 0, [2]),
  (.iload_n 3, 85, 3, 0, 0, []),
  (.iaload, 86, 0, 0, 0, []),
  (.iadd, 87, 0, 0, 0, []),
  (.istore_n 2, 88, 2, 0, 0, []),
  (.iload_n 3, 89, 3, 0, 0, []),
  (.iload_n 2, 90, 2, 0, 0, []),
  (.if_icmp .ge 15, 91, 66, 0, 0, []),
  (.aload_n 0, 94, 0, 0, 0, []),
  (.dup, 95, 0, 0, 0, []),
  (.getfield 39, 96, 7, 7, 0, [1]),
  (.lconst 1, 99, 0, 0, 1, []),
  (.iload_n 3, 100, 3, 0, 0, []),
  (.lshl, 101, 0, 0, 0, []),
  (.lor, 102, 0, 0, 0, []),
  (.putfield 39, 103, 7, 7, 0, [1]),
  (.iinc 3 1, 106, 3, 0, 1, []),
  (.goto (-89), 109, 14, 0, 0, []),
  (.return_, 112, 0, 0, 0, [])]
/-- 139: BW_piece(IIII)I -/
def kc139 : List In_ := [(.aload_n 0, 0, 0, 0, 0, []),
  (.iload_n 1, 1, 1, 0, 0, []),
  (.iload_n 2, 2, 2, 0, 0, []),
  (.invokevirtual 220, 3, 112, 0, 0, [3, 11, 0, 0, 0, 0]),
  (.istore 5, 6, 5, 0, 0, []),
  (.iload 5, 8, 5, 0, 0, []),
  (.ifCond .eq 6, 10, 9, 0, 0, []),
  (.iload 5, 13, 5, 0, 0, []),
  (.ireturn, 15, 0, 0, 0, []),
  (.iload_n 3, 16, 3, 0, 0, []),
  (.iconst (-1), 17, 0, 0, (-1), []),
  (.if_icmp .eq 18, 18, 19, 0, 0, []),
  (.iload 4, 21, 4, 0, 0, []),
  (.ifCond .lt 9, 23, 17, 0, 0, []),
  (.iload 4, 26, 4, 0, 0, []),
  (.iconst 3, 28, 0, 0, 3, []),
  (.if_icmp .le 7, 29, 19, 0, 0, []),
  (.sipush (-1002), 32, 0, 0, (-1002), []),
  (.ireturn, 35, 0, 0, 0, []),
  (.aload_n 0, 36, 0, 0, 0, []),
  (.iload_n 1, 37, 1, 0, 0, []),
  (.iload_n 2, 38, 2, 0, 0, []),
  (.invokevirtual 226, 39, 127, 0, 0, [3, 11, 0, 0, 0, 0]),
  (.istore 6, 42, 6, 0, 0, []),
  (.aload_n 0, 44, 0, 0, 0, []),
  (.getfield 60, 45, 11, 6, 0, [2]),
  (.iload 6, 48, 6, 0, 0, []),
  (.invokevirtual 239, 50, 138, 0, 0, [2, 7, 0, 0, 0, 0]),
  (.iload_n 3, 53, 3, 0, 0, []),
  (.iconst (-1), 54, 0, 0, (-1), []),
  (.if_icmp .ne 11, 55, 35, 0, 0, []),
  (.aload_n 0, 58, 0, 0, 0, []),
  (.getfield 60, 59, 11, 6, 0, [2]),
  (.getfield 242, 62, 7, 6, 0, [0]),
  (.ireturn, 65, 0, 0, 0, []),
  (.iload_n 3, 66, 3, 0, 0, []),
  (.ifCond .lt 14, 67, 42, 0, 0, []),
  (.iload_n 3, 70, 3, 0, 0, []),
  (.aload_n 0, 71, 0, 0, 0, []),
  (.getfield 60, 72, 11, 6, 0, [2]),
  (.getfield 242, 75, 7, 6, 0, [0]),
  (.if_icmp .lt 5, 78, 44, 0, 0, []),
  (.iconst (-1), 81, 0, 0, (-1), []),
  (.ireturn, 82, 0, 0, 0, []),
  (.aload_n 0, 83, 0, 0, 0, []),
  (.getfield 60, 84, 11, 6, 0, [2]),
  (.getfield 245, 87, 7, 4, 0, [2]),
  (.iload_n 3, 90, 3, 0, 0, []),
  (.iaload, 91, 0, 0, 0, []),
  (.istore 7, 92, 7, 0, 0, []),
  (.aload_n 0, 94, 0, 0, 0, []),
  (.getfield 60, 95, 11, 6, 0, [2]),
  (.getfield 248, 98, 7, 5, 0, [2]),
  (.iload_n 3, 101, 3, 0, 0, []),
  (.iaload, 102, 0, 0, 0, []),
  (.istore 8, 103, 8, 0, 0, []),
  (.iload 4, 105, 4, 0, 0, []),
  (.ifCond .ne 6, 107, 60, 0, 0, []),
  (.iload 7, 110, 7, 0, 0, []),
  (.ireturn, 112, 0, 0, 0, []),
  (.iload 4, 113, 4, 0, 0, []),
  (.iconst 1, 115, 0, 0, 1, []),
  (.if_icmp .ne 6, 116, 65, 0, 0, []),
  (.iload 8, 119, 8, 0, 0, []),
  (.ireturn, 121, 0, 0, 0, []),
  (.aload_n 0, 122, 0, 0, 0, []),
  (.getfield 51, 123, 11, 5, 0, [2]),
  (.iload 7, 126, 7, 0, 0, []),
  (.iload 8, 128, 8, 0, 0, []),
  (.iload 6, 130, 6, 0, 0, []),
  (.invokevirtual 232, 132, 130, 0, 0, [4, 6, 0, 0, 0, 0]),
  (.istore 9, 135, 9, 0, 0, []),
  (.iload 4, 137, 4, 0, 0, []),
  (.iconst 2, 139, 0, 0, 2, []),
  (.if_icmp .ne 8, 140, 77, 0, 0, []),
  (.iload 9, 143, 9, 0, 0, []),
  (.goto 16, 145, 83, 0, 0, []),
  (.aload_n 0, 148, 0, 0, 0, []),
  (.getfield 51, 149, 11, 5, 0, [2]),
  (.iload 9, 152, 9, 0, 0, []),
  (.iload 7, 154, 7, 0, 0, []),
  (.iload 8, 156, 8, 0, 0, []),
  (.invokevirtual 236, 158, 131, 0, 0, [4, 6, 0, 0, 0, 0]),
  (.ireturn, 161, 0, 0, 0, [])]
/-- 140: Mo_look(II)V -/
def kc140 : List In_ := [(.aload_n 0, 0, 0, 0, 0, []),
  (.aload_n 0, 1, 0, 0, 0, []),
  (.getfield 13, 2, 12, 2, 0, [2]),
  (.iload_n 1, 5, 1, 0, 0, []),
  (.iaload, 6, 0, 0, 0, []),
  (.invokevirtual 233, 7, 110, 0, 0, [2, 12, 0, 0, 0, 0]),
  (.aload_n 0, 10, 0, 0, 0, []),
  (.aload_n 0, 11, 0, 0, 0, []),
  (.iload_n 1, 12, 1, 0, 0, []),
  (.iload_n 2, 13, 2, 0, 0, []),
  (.invokevirtual 240, 14, 116, 0, 0, [3, 12, 0, 0, 0, 0]),
  (.putfield 243, 17, 12, 30, 0, [0]),
  (.iconst 0, 20, 0, 0, 0, []),
  (.istore_n 3, 21, 3, 0, 0, []),
  (.iload_n 3, 22, 3, 0, 0, []),
  (.sipush 3660, 23, 0, 0, 3660, []),
  (.if_icmp .ge 16, 26, 24, 0, 0, []),
  (.aload_n 0, 29, 0, 0, 0, []),
  (.getfield 69, 30, 12, 29, 0, [2]),
  (.iload_n 3, 33, 3, 0, 0, []),
  (.iconst 0, 34, 0, 0, 0, []),
  (.iastore, 35, 0, 0, 0, []),
  (.iinc 3 1, 36, 3, 0, 1, []),
  (.goto (-17), 39, 14, 0, 0, []),
  (.iconst 0, 42, 0, 0, 0, []),
  (.istore_n 3, 43, 3, 0, 0, []),
  (.iload_n 3, 44, 3, 0, 0, []),
  (.iload_n 2, 45, 2, 0, 0, []),
  (.if_icmp .ge 73, 46, 67, 0, 0, []),
  (.iconst 0, 49, 0, 0, 0, []),
  (.istore 4, 50, 4, 0, 0, []),
  (.iload 4, 52, 4, 0, 0, []),
  (.aload_n 0, 54, 0, 0, 0, []),
  (.getfield 16, 55, 12, 3, 0, [2]),
  (.iload_n 1, 58, 1, 0, 0, []),
  (.iaload, 59, 0, 0, 0, []),
  (.if_icmp .ge 53, 60, 65, 0, 0, []),
  (.aload_n 0, 63, 0, 0, 0, []),
  (.getfield 243, 64, 12, 30, 0, [0]),
  (.iload_n 3, 67, 3, 0, 0, []),
  (.ishr, 68, 0, 0, 0, []),
  (.iconst 1, 69, 0, 0, 1, []),
  (.iand, 70, 0, 0, 0, []),
  (.iconst 1, 71, 0, 0, 1, []),
  (.if_icmp .ne 41, 72, 65, 0, 0, []),
  (.iconst 0, 75, 0, 0, 0, []),
  (.istore 5, 76, 5, 0, 0, []),
  (.iload 5, 78, 5, 0, 0, []),
  (.aload_n 0, 80, 0, 0, 0, []),
  (.getfield 16, 81, 12, 3, 0, [2]),
  (.iload_n 3, 84, 3, 0, 0, []),
  (.iaload, 85, 0, 0, 0, []),
  (.if_icmp .ge 21, 86, 63, 0, 0, []),
  (.aload_n 0, 89, 0, 0, 0, []),
  (.iload_n 1, 90, 1, 0, 0, []),
  (.iload 4, 91, 4, 0, 0, []),
  (.iload_n 3, 93, 3, 0, 0, []),
  (.iload 5, 94, 5, 0, 0, []),
  (.iconst 1, 96, 0, 0, 1, []),
  (.invokevirtual 246, 97, 134, 0, 0, [6, 12, 0, 0, 0, 0]),
  (.pop, 100, 0, 0, 0, []),
  (.iinc 5 1, 101, 5, 0, 1, []),
  (.goto (-26), 104, 47, 0, 0, []),
  (.iinc 4 1, 107, 4, 0, 1, []),
  (.goto (-58), 110, 31, 0, 0, []),
  (.iinc 3 1, 113, 3, 0, 1, []),
  (.goto (-72), 116, 26, 0, 0, []),
  (.return_, 119, 0, 0, 0, [])]
/-- 141: Mo_explain(II)V -/
def kc141_0 : List In_ := [(.aload_n 0, 0, 0, 0, 0, []),
  (.getfield 16, 1, 12, 3, 0, [2]),
  (.iload_n 1, 4, 1, 0, 0, []),
  (.iaload, 5, 0, 0, 0, []),
  (.istore_n 3, 6, 3, 0, 0, []),
  (.aload_n 0, 7, 0, 0, 0, []),
  (.getfield 72, 8, 12, 31, 0, [2]),
  (.iload_n 3, 11, 3, 0, 0, []),
  (.iconst 0, 12, 0, 0, 0, []),
  (.iastore, 13, 0, 0, 0, []),
  (.aload_n 0, 14, 0, 0, 0, []),
  (.getfield 75, 15, 12, 32, 0, [2]),
  (.iload_n 3, 18, 3, 0, 0, []),
  (.iconst 0, 19, 0, 0, 0, []),
  (.iastore, 20, 0, 0, 0, []),
  (.iload_n 3, 21, 3, 0, 0, []),
  (.iconst 1, 22, 0, 0, 1, []),
  (.isub, 23, 0, 0, 0, []),
  (.istore 4, 24, 4, 0, 0, []),
  (.iload 4, 26, 4, 0, 0, []),
  (.ifCond .lt 228, 28, 145, 0, 0, []),
  (.aload_n 0, 31, 0, 0, 0, []),
  (.getfield 72, 32, 12, 31, 0, [2]),
  (.iload 4, 35, 4, 0, 0, []),
  (.aload_n 0, 37, 0, 0, 0, []),
  (.getfield 72, 38, 12, 31, 0, [2]),
  (.iload 4, 41, 4, 0, 0, []),
  (.iconst 1, 43, 0, 0, 1, []),
  (.iadd, 44, 0, 0, 0, []),
  (.iaload, 45, 0, 0, 0, []),
  (.iastore, 46, 0, 0, 0, []),
  (.aload_n 0, 47, 0, 0, 0, []),
  (.getfield 75, 48, 12, 32, 0, [2]),
  (.iload 4, 51, 4, 0, 0, []),
  (.aload_n 0, 53, 0, 0, 0, []),
  (.getfield 75, 54, 12, 32, 0, [2]),
  (.iload 4, 57, 4, 0, 0, []),
  (.iconst 1, 59, 0, 0, 1, []),
  (.iadd, 60, 0, 0, 0, []),
  (.iaload, 61, 0, 0, 0, []),
  (.iastore, 62, 0, 0, 0, []),
  (.aload_n 0, 63, 0, 0, 0, []),
  (.getfield 78, 64, 12, 33, 0, [2]),
  (.iload 4, 67, 4, 0, 0, []),
  (.iconst 0, 69, 0, 0, 0, []),
  (.iastore, 70, 0, 0, 0, []),
  (.iload_n 3, 71, 3, 0, 0, []),
  (.iload 4, 72, 4, 0, 0, []),
  (.isub, 74, 0, 0, 0, []),
  (.istore 5, 75, 5, 0, 0, []),
  (.iload 5, 77, 5, 0, 0, []),
  (.aload_n 0, 79, 0, 0, 0, []),
  (.getfield 59, 80, 12, 21, 0, [2]),
  (.iconst 0, 83, 0, 0, 0, []),
  (.iaload, 84, 0, 0, 0, []),
  (.if_icmp .lt 165, 85, 143, 0, 0, []),
  (.iload 5, 88, 5, 0, 0, []),
  (.aload_n 0, 90, 0, 0, 0, []),
  (.getfield 72, 91, 12, 31, 0, [2]),
  (.iload 4, 94, 4, 0, 0, []),
  (.iload 5, 96, 5, 0, 0, []),
  (.iadd, 98, 0, 0, 0, []),
  (.iaload, 99, 0, 0, 0, []),
  (.iadd, 100, 0, 0, 0, []),
  (.istore 6, 101, 6, 0, 0, []),
  (.iconst 1, 103, 0, 0, 1, []),
  (.aload_n 0, 104, 0, 0, 0, []),
  (.getfield 75, 105, 12, 32, 0, [2]),
  (.iload 4, 108, 4, 0, 0, []),
  (.iload 5, 110, 5, 0, 0, []),
  (.iadd, 112, 0, 0, 0, []),
  (.iaload, 113, 0, 0, 0, []),
  (.iadd, 114, 0, 0, 0, []),
  (.istore 7, 115, 7, 0, 0, []),
  (.iload 6, 117, 6, 0, 0, []),
  (.aload_n 0, 119, 0, 0, 0, []),
  (.getfield 72, 120, 12, 31, 0, [2]),
  (.iload 4, 123, 4, 0, 0, []),
  (.iaload, 125, 0, 0, 0, []),
  (.if_icmp .gt 61, 126, 109, 0, 0, []),
  (.iload 6, 129, 6, 0, 0, []),
  (.aload_n 0, 131, 0, 0, 0, []),
  (.getfield 72, 132, 12, 31, 0, [2]),
  (.iload 4, 135, 4, 0, 0, []),
  (.iaload, 137, 0, 0, 0, []),
  (.if_icmp .ne 15, 138, 92, 0, 0, []),
  (.iload 7, 141, 7, 0, 0, []),
  (.aload_n 0, 143, 0, 0, 0, []),
  (.getfield 75, 144, 12, 32, 0, [2]),
  (.iload 4, 147, 4, 0, 0, []),
  (.iaload, 149, 0, 0, 0, []),
  (.if_icmp .lt 37, 150, 109, 0, 0, []),
  (.iload 6, 153, 6, 0, 0, []),
  (.aload_n 0, 155, 0, 0, 0, []),
  (.getfield 72, 156, 12, 31, 0, [2]),
  (.iload 4, 159, 4, 0, 0, []),
  (.iaload, 161, 0, 0, 0, []),
  (.if_icmp .ne 29, 162, 111, 0, 0, []),
  (.iload 7, 165, 7, 0, 0, []),
  (.aload_n 0, 167, 0, 0, 0, [])]
def kc141_1 : List In_ := [(.getfield 75, 168, 12, 32, 0, [2]),
  (.iload 4, 171, 4, 0, 0, []),
  (.iaload, 173, 0, 0, 0, []),
  (.if_icmp .ne 17, 174, 111, 0, 0, []),
  (.aload_n 0, 177, 0, 0, 0, []),
  (.getfield 78, 178, 12, 33, 0, [2]),
  (.iload 4, 181, 4, 0, 0, []),
  (.iaload, 183, 0, 0, 0, []),
  (.ifCond .ne 7, 184, 111, 0, 0, []),
  (.iconst 1, 187, 0, 0, 1, []),
  (.goto 4, 188, 112, 0, 0, []),
  (.iconst 0, 191, 0, 0, 0, []),
  (.istore 8, 192, 8, 0, 0, []),
  (.aload_n 0, 194, 0, 0, 0, []),
  (.getfield 69, 195, 12, 29, 0, [2]),
  (.bipush 61, 198, 0, 0, 61, []),
  (.iload 4, 200, 4, 0, 0, []),
  (.imul, 202, 0, 0, 0, []),
  (.iload 5, 203, 5, 0, 0, []),
  (.iadd, 205, 0, 0, 0, []),
  (.iaload, 206, 0, 0, 0, []),
  (.iload_n 2, 207, 2, 0, 0, []),
  (.iand, 208, 0, 0, 0, []),
  (.ifCond .eq 35, 209, 141, 0, 0, []),
  (.iload 8, 212, 8, 0, 0, []),
  (.ifCond .eq 30, 214, 141, 0, 0, []),
  (.aload_n 0, 217, 0, 0, 0, []),
  (.getfield 72, 218, 12, 31, 0, [2]),
  (.iload 4, 221, 4, 0, 0, []),
  (.iload 6, 223, 6, 0, 0, []),
  (.iastore, 225, 0, 0, 0, []),
  (.aload_n 0, 226, 0, 0, 0, []),
  (.getfield 75, 227, 12, 32, 0, [2]),
  (.iload 4, 230, 4, 0, 0, []),
  (.iload 7, 232, 7, 0, 0, []),
  (.iastore, 234, 0, 0, 0, []),
  (.aload_n 0, 235, 0, 0, 0, []),
  (.getfield 78, 236, 12, 33, 0, [2]),
  (.iload 4, 239, 4, 0, 0, []),
  (.iload 5, 241, 5, 0, 0, []),
  (.iastore, 243, 0, 0, 0, []),
  (.iinc 5 (-1), 244, 5, 0, (-1), []),
  (.goto (-170), 247, 50, 0, 0, []),
  (.iinc 4 (-1), 250, 4, 0, (-1), []),
  (.goto (-227), 253, 19, 0, 0, []),
  (.return_, 256, 0, 0, 0, [])]
def kc141 : List In_ := kc141_0 ++ kc141_1
/-- 142: Mo_fromOf(III)I -/
def kc142 : List In_ := [(.iconst 0, 0, 0, 0, 0, []),
  (.istore 4, 1, 4, 0, 0, []),
  (.aload_n 0, 3, 0, 0, 0, []),
  (.getfield 69, 4, 12, 29, 0, [2]),
  (.bipush 61, 7, 0, 0, 61, []),
  (.iload_n 1, 9, 1, 0, 0, []),
  (.imul, 10, 0, 0, 0, []),
  (.iload_n 2, 11, 2, 0, 0, []),
  (.iadd, 12, 0, 0, 0, []),
  (.iaload, 13, 0, 0, 0, []),
  (.iload_n 3, 14, 3, 0, 0, []),
  (.iand, 15, 0, 0, 0, []),
  (.iconst 1, 16, 0, 0, 1, []),
  (.iload 4, 17, 4, 0, 0, []),
  (.ishl, 19, 0, 0, 0, []),
  (.iand, 20, 0, 0, 0, []),
  (.ifCond .ne 9, 21, 19, 0, 0, []),
  (.iinc 4 1, 24, 4, 0, 1, []),
  (.goto (-24), 27, 2, 0, 0, []),
  (.iload 4, 30, 4, 0, 0, []),
  (.ireturn, 32, 0, 0, 0, [])]
/-- 143: Mo_isRun(IIIII)Z -/
def kc143_0 : List In_ := [(.iload 4, 0, 4, 0, 0, []),
  (.iload 5, 2, 5, 0, 0, []),
  (.iadd, 4, 0, 0, 0, []),
  (.aload_n 0, 5, 0, 0, 0, []),
  (.getfield 16, 6, 12, 3, 0, [2]),
  (.iload_n 3, 9, 3, 0, 0, []),
  (.iaload, 10, 0, 0, 0, []),
  (.if_icmp .gt 53, 11, 38, 0, 0, []),
  (.aload_n 0, 14, 0, 0, 0, []),
  (.aload_n 0, 15, 0, 0, 0, []),
  (.iload_n 1, 16, 1, 0, 0, []),
  (.iload_n 2, 17, 2, 0, 0, []),
  (.invokevirtual 128, 18, 36, 0, 0, [3, 12, 0, 0, 0, 0]),
  (.aload_n 0, 21, 0, 0, 0, []),
  (.iload_n 3, 22, 3, 0, 0, []),
  (.iload 4, 23, 4, 0, 0, []),
  (.invokevirtual 128, 25, 36, 0, 0, [3, 12, 0, 0, 0, 0]),
  (.invokevirtual 237, 28, 133, 0, 0, [3, 12, 0, 0, 0, 0]),
  (.ifCond .eq 33, 31, 38, 0, 0, []),
  (.aload_n 0, 34, 0, 0, 0, []),
  (.aload_n 0, 35, 0, 0, 0, []),
  (.iload_n 1, 36, 1, 0, 0, []),
  (.iload_n 2, 37, 2, 0, 0, []),
  (.iload 5, 38, 5, 0, 0, []),
  (.iadd, 40, 0, 0, 0, []),
  (.iconst 1, 41, 0, 0, 1, []),
  (.isub, 42, 0, 0, 0, []),
  (.invokevirtual 128, 43, 36, 0, 0, [3, 12, 0, 0, 0, 0]),
  (.aload_n 0, 46, 0, 0, 0, []),
  (.iload_n 3, 47, 3, 0, 0, []),
  (.iload 4, 48, 4, 0, 0, []),
  (.iload 5, 50, 5, 0, 0, []),
  (.iadd, 52, 0, 0, 0, []),
  (.iconst 1, 53, 0, 0, 1, []),
  (.isub, 54, 0, 0, 0, []),
  (.invokevirtual 128, 55, 36, 0, 0, [3, 12, 0, 0, 0, 0]),
  (.invokevirtual 237, 58, 133, 0, 0, [3, 12, 0, 0, 0, 0]),
  (.ifCond .ne 5, 61, 40, 0, 0, []),
  (.iconst 0, 64, 0, 0, 0, []),
  (.ireturn, 65, 1, 0, 0, []),
  (.iconst 0, 66, 0, 0, 0, []),
  (.istore 6, 67, 6, 0, 0, []),
  (.iconst 0, 69, 0, 0, 0, []),
  (.istore 7, 70, 7, 0, 0, []),
  (.iconst 0, 72, 0, 0, 0, []),
  (.istore 8, 73, 8, 0, 0, []),
  (.iload 8, 75, 8, 0, 0, []),
  (.iload 5, 77, 5, 0, 0, []),
  (.if_icmp .ge 72, 79, 88, 0, 0, []),
  (.iload 6, 82, 6, 0, 0, []),
  (.aload_n 0, 84, 0, 0, 0, []),
  (.aload_n 0, 85, 0, 0, 0, []),
  (.iload_n 1, 86, 1, 0, 0, []),
  (.iload_n 2, 87, 2, 0, 0, []),
  (.iload 8, 88, 8, 0, 0, []),
  (.iadd, 90, 0, 0, 0, []),
  (.invokevirtual 128, 91, 36, 0, 0, [3, 12, 0, 0, 0, 0]),
  (.aload_n 0, 94, 0, 0, 0, []),
  (.iload_n 3, 95, 3, 0, 0, []),
  (.iload 4, 96, 4, 0, 0, []),
  (.iload 8, 98, 8, 0, 0, []),
  (.iadd, 100, 0, 0, 0, []),
  (.invokevirtual 128, 101, 36, 0, 0, [3, 12, 0, 0, 0, 0]),
  (.invokevirtual 237, 104, 133, 0, 0, [3, 12, 0, 0, 0, 0]),
  (.ifCond .eq 7, 107, 67, 0, 0, []),
  (.iconst 0, 110, 0, 0, 0, []),
  (.goto 4, 111, 68, 0, 0, []),
  (.iconst 1, 114, 0, 0, 1, []),
  (.iadd, 115, 0, 0, 0, []),
  (.istore 6, 116, 6, 0, 0, []),
  (.iload 7, 118, 7, 0, 0, []),
  (.aload_n 0, 120, 0, 0, 0, []),
  (.getfield 29, 121, 12, 7, 0, [2]),
  (.aload_n 0, 124, 0, 0, 0, []),
  (.iload_n 1, 125, 1, 0, 0, []),
  (.iload_n 2, 126, 2, 0, 0, []),
  (.iload 8, 127, 8, 0, 0, []),
  (.iadd, 129, 0, 0, 0, []),
  (.invokevirtual 128, 130, 36, 0, 0, [3, 12, 0, 0, 0, 0]),
  (.baload, 133, 0, 0, 0, []),
  (.ifCond .eq 7, 134, 83, 0, 0, []),
  (.iconst 0, 137, 0, 0, 0, []),
  (.goto 4, 138, 84, 0, 0, []),
  (.iconst 1, 141, 0, 0, 1, []),
  (.iadd, 142, 0, 0, 0, []),
  (.istore 7, 143, 7, 0, 0, []),
  (.iinc 8 1, 145, 8, 0, 1, []),
  (.goto (-73), 148, 46, 0, 0, []),
  (.iload 6, 151, 6, 0, 0, []),
  (.aload_n 0, 153, 0, 0, 0, []),
  (.getfield 59, 154, 12, 21, 0, [2]),
  (.iconst 1, 157, 0, 0, 1, []),
  (.iaload, 158, 0, 0, 0, []),
  (.if_icmp .gt 26, 159, 107, 0, 0, []),
  (.aload_n 0, 162, 0, 0, 0, []),
  (.getfield 59, 163, 12, 21, 0, [2]),
  (.iconst 3, 166, 0, 0, 3, []),
  (.iaload, 167, 0, 0, 0, []),
  (.iconst 1, 168, 0, 0, 1, []),
  (.if_icmp .eq 12, 169, 105, 0, 0, [])]
def kc143_1 : List In_ := [(.iload 7, 172, 7, 0, 0, []),
  (.iload 5, 174, 5, 0, 0, []),
  (.iconst 2, 176, 0, 0, 2, []),
  (.idiv, 177, 0, 0, 0, []),
  (.if_icmp .lt 7, 178, 107, 0, 0, []),
  (.iconst 1, 181, 0, 0, 1, []),
  (.goto 4, 182, 108, 0, 0, []),
  (.iconst 0, 185, 0, 0, 0, []),
  (.ireturn, 186, 1, 0, 0, [])]
def kc143 : List In_ := kc143_0 ++ kc143_1
/-- 144: Mo_placeOf(IIII)I -/
def kc144 : List In_ := [(.iconst 0, 0, 0, 0, 0, []),
  (.istore 5, 1, 5, 0, 0, []),
  (.aload_n 0, 3, 0, 0, 0, []),
  (.iload_n 1, 4, 1, 0, 0, []),
  (.iload_n 2, 5, 2, 0, 0, []),
  (.iload_n 3, 6, 3, 0, 0, []),
  (.iload 5, 7, 5, 0, 0, []),
  (.iload 4, 9, 4, 0, 0, []),
  (.invokevirtual 250, 11, 143, 0, 0, [6, 12, 0, 0, 0, 0]),
  (.ifCond .ne 9, 14, 12, 0, 0, []),
  (.iinc 5 1, 17, 5, 0, 1, []),
  (.goto (-17), 20, 2, 0, 0, []),
  (.iload 5, 23, 5, 0, 0, []),
  (.ireturn, 25, 0, 0, 0, [])]
/-- 145: Mo_piece(IIII)I -/
def kc145_0 : List In_ := [(.aload_n 0, 0, 0, 0, 0, []),
  (.iload_n 1, 1, 1, 0, 0, []),
  (.invokevirtual 114, 2, 24, 0, 0, [2, 12, 0, 0, 0, 0]),
  (.ifCond .ne 7, 5, 6, 0, 0, []),
  (.sipush (-1001), 8, 0, 0, (-1001), []),
  (.ireturn, 11, 0, 0, 0, []),
  (.aload_n 0, 12, 0, 0, 0, []),
  (.iload_n 2, 13, 2, 0, 0, []),
  (.invokevirtual 254, 14, 115, 0, 0, [2, 12, 0, 0, 0, 0]),
  (.ifCond .eq 21, 17, 19, 0, 0, []),
  (.iload_n 3, 20, 3, 0, 0, []),
  (.iconst (-1), 21, 0, 0, (-1), []),
  (.if_icmp .eq 20, 22, 21, 0, 0, []),
  (.iload 4, 25, 4, 0, 0, []),
  (.i2l, 27, 0, 0, 0, []),
  (.lconst 0, 28, 0, 0, 0, []),
  (.ldc2_w 259, 29, 0, 0, 3, []),
  (.invokestatic 102, 32, 17, 0, 0, [3, 0, 0, 0, 0]),
  (.ifCond .ne 7, 35, 21, 0, 0, []),
  (.sipush (-1002), 38, 0, 0, (-1002), []),
  (.ireturn, 41, 0, 0, 0, []),
  (.aload_n 0, 42, 0, 0, 0, []),
  (.iload_n 1, 43, 1, 0, 0, []),
  (.iload_n 2, 44, 2, 0, 0, []),
  (.invokevirtual 261, 45, 140, 0, 0, [3, 12, 0, 0, 0, 0]),
  (.aload_n 0, 48, 0, 0, 0, []),
  (.iload_n 1, 49, 1, 0, 0, []),
  (.aload_n 0, 50, 0, 0, 0, []),
  (.getfield 243, 51, 12, 30, 0, [0]),
  (.invokevirtual 265, 54, 141, 0, 0, [3, 12, 0, 0, 0, 0]),
  (.iload_n 3, 57, 3, 0, 0, []),
  (.iconst (-1), 58, 0, 0, (-1), []),
  (.if_icmp .ne 10, 59, 38, 0, 0, []),
  (.aload_n 0, 62, 0, 0, 0, []),
  (.getfield 75, 63, 12, 32, 0, [2]),
  (.iconst 0, 66, 0, 0, 0, []),
  (.iaload, 67, 0, 0, 0, []),
  (.ireturn, 68, 0, 0, 0, []),
  (.iload_n 3, 69, 3, 0, 0, []),
  (.istore 5, 70, 5, 0, 0, []),
  (.iconst 0, 72, 0, 0, 0, []),
  (.istore 6, 73, 6, 0, 0, []),
  (.iload 6, 75, 6, 0, 0, []),
  (.aload_n 0, 77, 0, 0, 0, []),
  (.getfield 16, 78, 12, 3, 0, [2]),
  (.iload_n 1, 81, 1, 0, 0, []),
  (.iaload, 82, 0, 0, 0, []),
  (.if_icmp .ge 119, 83, 105, 0, 0, []),
  (.iload_n 3, 86, 3, 0, 0, []),
  (.ifCond .lt 115, 87, 105, 0, 0, []),
  (.aload_n 0, 90, 0, 0, 0, []),
  (.getfield 78, 91, 12, 33, 0, [2]),
  (.iload 6, 94, 6, 0, 0, []),
  (.iaload, 96, 0, 0, 0, []),
  (.ifCond .le 99, 97, 103, 0, 0, []),
  (.iload 5, 100, 5, 0, 0, []),
  (.ifCond .ne 76, 102, 94, 0, 0, []),
  (.aload_n 0, 105, 0, 0, 0, []),
  (.iload 6, 106, 6, 0, 0, []),
  (.aload_n 0, 108, 0, 0, 0, []),
  (.getfield 78, 109, 12, 33, 0, [2]),
  (.iload 6, 112, 6, 0, 0, []),
  (.iaload, 114, 0, 0, 0, []),
  (.aload_n 0, 115, 0, 0, 0, []),
  (.getfield 243, 116, 12, 30, 0, [0]),
  (.invokevirtual 268, 119, 142, 0, 0, [4, 12, 0, 0, 0, 0]),
  (.istore 7, 122, 7, 0, 0, []),
  (.iload 4, 124, 4, 0, 0, []),
  (.ifCond .ne 8, 126, 71, 0, 0, []),
  (.iload 6, 129, 6, 0, 0, []),
  (.goto 46, 131, 93, 0, 0, []),
  (.iload 4, 134, 4, 0, 0, []),
  (.iconst 1, 136, 0, 0, 1, []),
  (.if_icmp .ne 13, 137, 79, 0, 0, []),
  (.aload_n 0, 140, 0, 0, 0, []),
  (.getfield 78, 141, 12, 33, 0, [2]),
  (.iload 6, 144, 6, 0, 0, []),
  (.iaload, 146, 0, 0, 0, []),
  (.goto 30, 147, 93, 0, 0, []),
  (.iload 4, 150, 4, 0, 0, []),
  (.iconst 2, 152, 0, 0, 2, []),
  (.if_icmp .ne 8, 153, 84, 0, 0, []),
  (.iload 7, 156, 7, 0, 0, []),
  (.goto 19, 158, 93, 0, 0, []),
  (.aload_n 0, 161, 0, 0, 0, []),
  (.iload_n 1, 162, 1, 0, 0, []),
  (.iload 6, 163, 6, 0, 0, []),
  (.iload 7, 165, 7, 0, 0, []),
  (.aload_n 0, 167, 0, 0, 0, []),
  (.getfield 78, 168, 12, 33, 0, [2]),
  (.iload 6, 171, 6, 0, 0, []),
  (.iaload, 173, 0, 0, 0, []),
  (.invokevirtual 271, 174, 144, 0, 0, [5, 12, 0, 0, 0, 0]),
  (.ireturn, 177, 0, 0, 0, []),
  (.iinc 5 (-1), 178, 5, 0, (-1), []),
  (.iload 6, 181, 6, 0, 0, []),
  (.aload_n 0, 183, 0, 0, 0, []),
  (.getfield 78, 184, 12, 33, 0, [2]),
  (.iload 6, 187, 6, 0, 0, []),
  (.iaload, 189, 0, 0, 0, [])]
def kc145_1 : List In_ := [(.iadd, 190, 0, 0, 0, []),
  (.istore 6, 191, 6, 0, 0, []),
  (.goto (-118), 193, 42, 0, 0, []),
  (.iinc 6 1, 196, 6, 0, 1, []),
  (.goto (-124), 199, 42, 0, 0, []),
  (.iconst (-1), 202, 0, 0, (-1), []),
  (.ireturn, 203, 0, 0, 0, [])]
def kc145 : List In_ := kc145_0 ++ kc145_1
/-- 146: BW_takenCount()I -/
def kc146 : List In_ := [(.aload_n 0, 0, 0, 0, 0, []),
  (.getfield 60, 1, 11, 6, 0, [2]),
  (.getfield 326, 4, 7, 7, 0, [1]),
  (.invokestatic 133, 7, 30, 0, 0, [1, 0, 0, 0, 0]),
  (.ireturn, 10, 0, 0, 0, [])]
/-- 147: Marks_rightPlaces(I)J -/
def kc147 : List In_ := [(.lconst 0, 0, 0, 0, 0, []),
  (.lstore_n 2, 1, 2, 0, 0, []),
  (.iconst 0, 2, 0, 0, 0, []),
  (.istore 4, 3, 4, 0, 0, []),
  (.iload 4, 5, 4, 0, 0, []),
  (.aload_n 0, 7, 0, 0, 0, []),
  (.getfield 28, 8, 3, 5, 0, [0]),
  (.if_icmp .ge 63, 11, 39, 0, 0, []),
  (.aload_n 0, 14, 0, 0, 0, []),
  (.getfield 9, 15, 3, 1, 0, [2]),
  (.iload 4, 18, 4, 0, 0, []),
  (.iaload, 20, 0, 0, 0, []),
  (.iload_n 1, 21, 1, 0, 0, []),
  (.if_icmp .ne 46, 22, 37, 0, 0, []),
  (.aload_n 0, 25, 0, 0, 0, []),
  (.iload 4, 26, 4, 0, 0, []),
  (.invokevirtual 48, 28, 42, 0, 0, [2, 3, 0, 0, 0, 0]),
  (.ifCond .ne 37, 31, 37, 0, 0, []),
  (.aload_n 0, 34, 0, 0, 0, []),
  (.getfield 15, 35, 3, 2, 0, [2]),
  (.iload 4, 38, 4, 0, 0, []),
  (.iaload, 40, 0, 0, 0, []),
  (.istore 5, 41, 5, 0, 0, []),
  (.iload 5, 43, 5, 0, 0, []),
  (.aload_n 0, 45, 0, 0, 0, []),
  (.getfield 18, 46, 3, 3, 0, [2]),
  (.iload 4, 49, 4, 0, 0, []),
  (.iaload, 51, 0, 0, 0, []),
  (.if_icmp .gt 16, 52, 37, 0, 0, []),
  (.lload_n 2, 55, 2, 0, 0, []),
  (.lconst 1, 56, 0, 0, 1, []),
  (.iload 5, 57, 5, 0, 0, []),
  (.lshl, 59, 0, 0, 0, []),
  (.lor, 60, 0, 0, 0, []),
  (.lstore_n 2, 61, 2, 0, 0, []),
  (.iinc 5 1, 62, 5, 0, 1, []),
  (.goto (-22), 65, 23, 0, 0, []),
  (.iinc 4 1, 68, 4, 0, 1, []),
  (.goto (-66), 71, 4, 0, 0, []),
  (.lload_n 2, 74, 2, 0, 0, []),
  (.lreturn, 75, 0, 0, 0, [])]
/-- 148: BW_borrowedCount(I)I -/
def kc148 : List In_ := [(.aload_n 0, 0, 0, 0, 0, []),
  (.getfield 60, 1, 11, 6, 0, [2]),
  (.getfield 326, 4, 7, 7, 0, [1]),
  (.aload_n 0, 7, 0, 0, 0, []),
  (.getfield 28, 8, 11, 2, 0, [2]),
  (.iload_n 1, 11, 1, 0, 0, []),
  (.invokevirtual 329, 12, 147, 0, 0, [2, 3, 0, 0, 0, 0]),
  (.ldc2_w 333, 15, 0, 0, (-1), []),
  (.lxor, 18, 0, 0, 0, []),
  (.land, 19, 0, 0, 0, []),
  (.invokestatic 133, 20, 30, 0, 0, [1, 0, 0, 0, 0]),
  (.ireturn, 23, 0, 0, 0, [])]
/-- 149: BW_shareOf(II)I -/
def kc149 : List In_ := [(.aload_n 0, 0, 0, 0, 0, []),
  (.getfield 10, 1, 11, 0, 0, [2]),
  (.getfield 108, 4, 1, 0, 0, [2]),
  (.iload_n 1, 7, 1, 0, 0, []),
  (.aaload, 8, 0, 0, 0, []),
  (.getfield 121, 9, 0, 4, 0, [0]),
  (.istore_n 3, 12, 3, 0, 0, []),
  (.iload_n 3, 13, 3, 0, 0, []),
  (.ifCond .ne 7, 14, 11, 0, 0, []),
  (.iconst 0, 17, 0, 0, 0, []),
  (.goto 9, 18, 16, 0, 0, []),
  (.iload_n 2, 21, 2, 0, 0, []),
  (.bipush 100, 22, 0, 0, 100, []),
  (.imul, 24, 0, 0, 0, []),
  (.iload_n 3, 25, 3, 0, 0, []),
  (.idiv, 26, 0, 0, 0, []),
  (.ireturn, 27, 0, 0, 0, [])]
/-- 150: BW_verdictOn(I)I -/
def kc150 : List In_ := [(.aload_n 0, 0, 0, 0, 0, []),
  (.invokevirtual 251, 1, 146, 0, 0, [1, 11, 0, 0, 0, 0]),
  (.ifCond .ne 5, 4, 5, 0, 0, []),
  (.iconst 0, 7, 0, 0, 0, []),
  (.ireturn, 8, 0, 0, 0, []),
  (.aload_n 0, 9, 0, 0, 0, []),
  (.iload_n 1, 10, 1, 0, 0, []),
  (.invokevirtual 254, 11, 148, 0, 0, [2, 11, 0, 0, 0, 0]),
  (.istore_n 2, 14, 2, 0, 0, []),
  (.iload_n 2, 15, 2, 0, 0, []),
  (.ifCond .ne 5, 16, 13, 0, 0, []),
  (.iconst 1, 19, 0, 0, 1, []),
  (.ireturn, 20, 0, 0, 0, []),
  (.aload_n 0, 21, 0, 0, 0, []),
  (.getfield 10, 22, 11, 0, 0, [2]),
  (.getfield 108, 25, 1, 0, 0, [2]),
  (.iload_n 1, 28, 1, 0, 0, []),
  (.aaload, 29, 0, 0, 0, []),
  (.getfield 153, 30, 0, 3, 0, [0]),
  (.istore_n 3, 33, 3, 0, 0, []),
  (.aload_n 0, 34, 0, 0, 0, []),
  (.iload_n 1, 35, 1, 0, 0, []),
  (.iload_n 2, 36, 2, 0, 0, []),
  (.invokevirtual 257, 37, 149, 0, 0, [3, 11, 0, 0, 0, 0]),
  (.istore 4, 40, 4, 0, 0, []),
  (.iload 4, 42, 4, 0, 0, []),
  (.aload_n 0, 44, 0, 0, 0, []),
  (.getfield 42, 45, 11, 4, 0, [2]),
  (.bipush 6, 48, 0, 0, 6, []),
  (.iload_n 3, 50, 3, 0, 0, []),
  (.invokevirtual 217, 51, 107, 0, 0, [3, 5, 0, 0, 0, 0]),
  (.if_icmp .lt 5, 54, 34, 0, 0, []),
  (.iconst 4, 57, 0, 0, 4, []),
  (.ireturn, 58, 0, 0, 0, []),
  (.iload 4, 59, 4, 0, 0, []),
  (.aload_n 0, 61, 0, 0, 0, []),
  (.getfield 42, 62, 11, 4, 0, [2]),
  (.iconst 5, 65, 0, 0, 5, []),
  (.iload_n 3, 66, 3, 0, 0, []),
  (.invokevirtual 217, 67, 107, 0, 0, [3, 5, 0, 0, 0, 0]),
  (.if_icmp .gt 7, 70, 43, 0, 0, []),
  (.iconst 2, 73, 0, 0, 2, []),
  (.goto 4, 74, 44, 0, 0, []),
  (.iconst 3, 77, 0, 0, 3, []),
  (.ireturn, 78, 0, 0, 0, [])]
/-- 151: BW_judged(III)I -/
def kc151 : List In_ := [(.aload_n 0, 0, 0, 0, 0, []),
  (.iload_n 1, 1, 1, 0, 0, []),
  (.iload_n 2, 2, 2, 0, 0, []),
  (.invokevirtual 220, 3, 112, 0, 0, [3, 11, 0, 0, 0, 0]),
  (.istore 4, 6, 4, 0, 0, []),
  (.iload 4, 8, 4, 0, 0, []),
  (.ifCond .eq 6, 10, 9, 0, 0, []),
  (.iload 4, 13, 4, 0, 0, []),
  (.ireturn, 15, 0, 0, 0, []),
  (.iload_n 3, 16, 3, 0, 0, []),
  (.ifCond .lt 8, 17, 14, 0, 0, []),
  (.iload_n 3, 20, 3, 0, 0, []),
  (.iconst 3, 21, 0, 0, 3, []),
  (.if_icmp .le 7, 22, 16, 0, 0, []),
  (.sipush (-1002), 25, 0, 0, (-1002), []),
  (.ireturn, 28, 0, 0, 0, []),
  (.aload_n 0, 29, 0, 0, 0, []),
  (.getfield 60, 30, 11, 6, 0, [2]),
  (.aload_n 0, 33, 0, 0, 0, []),
  (.iload_n 1, 34, 1, 0, 0, []),
  (.iload_n 2, 35, 2, 0, 0, []),
  (.invokevirtual 226, 36, 127, 0, 0, [3, 11, 0, 0, 0, 0]),
  (.invokevirtual 239, 39, 138, 0, 0, [2, 7, 0, 0, 0, 0]),
  (.iload_n 3, 42, 3, 0, 0, []),
  (.tableswitch 47 0 2 #[25, 30, 36], 43, 39, 0, 0, [25, 28, 32]),
  (.aload_n 0, 68, 0, 0, 0, []),
  (.invokevirtual 251, 69, 146, 0, 0, [1, 11, 0, 0, 0, 0]),
  (.ireturn, 72, 0, 0, 0, []),
  (.aload_n 0, 73, 0, 0, 0, []),
  (.iload_n 1, 74, 1, 0, 0, []),
  (.invokevirtual 254, 75, 148, 0, 0, [2, 11, 0, 0, 0, 0]),
  (.ireturn, 78, 0, 0, 0, []),
  (.aload_n 0, 79, 0, 0, 0, []),
  (.iload_n 1, 80, 1, 0, 0, []),
  (.aload_n 0, 81, 0, 0, 0, []),
  (.iload_n 1, 82, 1, 0, 0, []),
  (.invokevirtual 254, 83, 148, 0, 0, [2, 11, 0, 0, 0, 0]),
  (.invokevirtual 257, 86, 149, 0, 0, [3, 11, 0, 0, 0, 0]),
  (.ireturn, 89, 0, 0, 0, []),
  (.aload_n 0, 90, 0, 0, 0, []),
  (.iload_n 1, 91, 1, 0, 0, []),
  (.invokevirtual 260, 92, 150, 0, 0, [2, 11, 0, 0, 0, 0]),
  (.ireturn, 95, 0, 0, 0, [])]
/-- 152: Mo_isCited(II)Z -/
def kc152 : List In_ := [(.iconst 0, 0, 0, 0, 0, []),
  (.istore_n 3, 1, 3, 0, 0, []),
  (.iconst 0, 2, 0, 0, 0, []),
  (.istore 4, 3, 4, 0, 0, []),
  (.iload 4, 5, 4, 0, 0, []),
  (.aload_n 0, 7, 0, 0, 0, []),
  (.getfield 141, 8, 12, 9, 0, [0]),
  (.if_icmp .ge 63, 11, 40, 0, 0, []),
  (.iload_n 3, 14, 3, 0, 0, []),
  (.ifCond .ne 47, 15, 34, 0, 0, []),
  (.aload_n 0, 18, 0, 0, 0, []),
  (.getfield 32, 19, 12, 10, 0, [2]),
  (.iload 4, 22, 4, 0, 0, []),
  (.iaload, 24, 0, 0, 0, []),
  (.iload_n 1, 25, 1, 0, 0, []),
  (.if_icmp .ne 40, 26, 36, 0, 0, []),
  (.iload_n 2, 29, 2, 0, 0, []),
  (.i2l, 30, 0, 0, 0, []),
  (.aload_n 0, 31, 0, 0, 0, []),
  (.getfield 35, 32, 12, 11, 0, [2]),
  (.iload 4, 35, 4, 0, 0, []),
  (.iaload, 37, 0, 0, 0, []),
  (.i2l, 38, 0, 0, 0, []),
  (.aload_n 0, 39, 0, 0, 0, []),
  (.getfield 38, 40, 12, 12, 0, [2]),
  (.iload 4, 43, 4, 0, 0, []),
  (.iaload, 45, 0, 0, 0, []),
  (.i2l, 46, 0, 0, 0, []),
  (.invokestatic 102, 47, 17, 0, 0, [3, 0, 0, 0, 0]),
  (.ifCond .eq 16, 50, 36, 0, 0, []),
  (.aload_n 0, 53, 0, 0, 0, []),
  (.iload 4, 54, 4, 0, 0, []),
  (.invokevirtual 152, 56, 48, 0, 0, [2, 12, 0, 0, 0, 0]),
  (.ifCond .ne 7, 59, 36, 0, 0, []),
  (.iconst 1, 62, 0, 0, 1, []),
  (.goto 4, 63, 37, 0, 0, []),
  (.iconst 0, 66, 0, 0, 0, []),
  (.istore_n 3, 67, 3, 0, 0, []),
  (.iinc 4 1, 68, 4, 0, 1, []),
  (.goto (-66), 71, 4, 0, 0, []),
  (.iload_n 3, 74, 3, 0, 0, []),
  (.ireturn, 75, 1, 0, 0, [])]
/-- 153: Mo_borrowed(I)I -/
def kc153 : List In_ := [(.iconst 0, 0, 0, 0, 0, []),
  (.istore_n 2, 1, 2, 0, 0, []),
  (.iconst 0, 2, 0, 0, 0, []),
  (.istore_n 3, 3, 3, 0, 0, []),
  (.iconst 0, 4, 0, 0, 0, []),
  (.istore 4, 5, 4, 0, 0, []),
  (.iload 4, 7, 4, 0, 0, []),
  (.aload_n 0, 9, 0, 0, 0, []),
  (.getfield 16, 10, 12, 3, 0, [2]),
  (.iload_n 1, 13, 1, 0, 0, []),
  (.iaload, 14, 0, 0, 0, []),
  (.if_icmp .ge 64, 15, 45, 0, 0, []),
  (.iload 4, 18, 4, 0, 0, []),
  (.iload_n 3, 20, 3, 0, 0, []),
  (.if_icmp .lt 26, 21, 27, 0, 0, []),
  (.aload_n 0, 24, 0, 0, 0, []),
  (.getfield 78, 25, 12, 33, 0, [2]),
  (.iload 4, 28, 4, 0, 0, []),
  (.iaload, 30, 0, 0, 0, []),
  (.ifCond .le 16, 31, 27, 0, 0, []),
  (.iload 4, 34, 4, 0, 0, []),
  (.aload_n 0, 36, 0, 0, 0, []),
  (.getfield 78, 37, 12, 33, 0, [2]),
  (.iload 4, 40, 4, 0, 0, []),
  (.iaload, 42, 0, 0, 0, []),
  (.iadd, 43, 0, 0, 0, []),
  (.goto 4, 44, 28, 0, 0, []),
  (.iload_n 3, 47, 3, 0, 0, []),
  (.istore_n 3, 48, 3, 0, 0, []),
  (.iload_n 2, 49, 2, 0, 0, []),
  (.iload 4, 50, 4, 0, 0, []),
  (.iload_n 3, 52, 3, 0, 0, []),
  (.if_icmp .ge 17, 53, 40, 0, 0, []),
  (.aload_n 0, 56, 0, 0, 0, []),
  (.iload_n 1, 57, 1, 0, 0, []),
  (.iload 4, 58, 4, 0, 0, []),
  (.invokevirtual 275, 60, 152, 0, 0, [3, 12, 0, 0, 0, 0]),
  (.ifCond .ne 7, 63, 40, 0, 0, []),
  (.iconst 1, 66, 0, 0, 1, []),
  (.goto 4, 67, 41, 0, 0, []),
  (.iconst 0, 70, 0, 0, 0, []),
  (.iadd, 71, 0, 0, 0, []),
  (.istore_n 2, 72, 2, 0, 0, []),
  (.iinc 4 1, 73, 4, 0, 1, []),
  (.goto (-69), 76, 6, 0, 0, []),
  (.iload_n 2, 79, 2, 0, 0, []),
  (.ireturn, 80, 0, 0, 0, [])]
/-- 154: Mo_share(I)I -/
def kc154 : List In_ := [(.aload_n 0, 0, 0, 0, 0, []),
  (.getfield 16, 1, 12, 3, 0, [2]),
  (.iload_n 1, 4, 1, 0, 0, []),
  (.iaload, 5, 0, 0, 0, []),
  (.ifCond .ne 7, 6, 7, 0, 0, []),
  (.iconst 0, 9, 0, 0, 0, []),
  (.goto 18, 10, 17, 0, 0, []),
  (.aload_n 0, 13, 0, 0, 0, []),
  (.iload_n 1, 14, 1, 0, 0, []),
  (.invokevirtual 278, 15, 153, 0, 0, [2, 12, 0, 0, 0, 0]),
  (.bipush 100, 18, 0, 0, 100, []),
  (.imul, 20, 0, 0, 0, []),
  (.aload_n 0, 21, 0, 0, 0, []),
  (.getfield 16, 22, 12, 3, 0, [2]),
  (.iload_n 1, 25, 1, 0, 0, []),
  (.iaload, 26, 0, 0, 0, []),
  (.idiv, 27, 0, 0, 0, []),
  (.ireturn, 28, 0, 0, 0, [])]
/-- 155: Mo_verdict(I)I -/
def kc155 : List In_ := [(.aload_n 0, 0, 0, 0, 0, []),
  (.getfield 72, 1, 12, 31, 0, [2]),
  (.iconst 0, 4, 0, 0, 0, []),
  (.iaload, 5, 0, 0, 0, []),
  (.ifCond .ne 5, 6, 7, 0, 0, []),
  (.iconst 0, 9, 0, 0, 0, []),
  (.ireturn, 10, 0, 0, 0, []),
  (.aload_n 0, 11, 0, 0, 0, []),
  (.iload_n 1, 12, 1, 0, 0, []),
  (.invokevirtual 278, 13, 153, 0, 0, [2, 12, 0, 0, 0, 0]),
  (.ifCond .ne 5, 16, 13, 0, 0, []),
  (.iconst 1, 19, 0, 0, 1, []),
  (.ireturn, 20, 0, 0, 0, []),
  (.aload_n 0, 21, 0, 0, 0, []),
  (.iload_n 1, 22, 1, 0, 0, []),
  (.invokevirtual 281, 23, 154, 0, 0, [2, 12, 0, 0, 0, 0]),
  (.aload_n 0, 26, 0, 0, 0, []),
  (.getfield 59, 27, 12, 21, 0, [2]),
  (.bipush 6, 30, 0, 0, 6, []),
  (.iaload, 32, 0, 0, 0, []),
  (.if_icmp .lt 7, 33, 23, 0, 0, []),
  (.iconst 4, 36, 0, 0, 4, []),
  (.goto 22, 37, 34, 0, 0, []),
  (.aload_n 0, 40, 0, 0, 0, []),
  (.iload_n 1, 41, 1, 0, 0, []),
  (.invokevirtual 281, 42, 154, 0, 0, [2, 12, 0, 0, 0, 0]),
  (.aload_n 0, 45, 0, 0, 0, []),
  (.getfield 59, 46, 12, 21, 0, [2]),
  (.iconst 5, 49, 0, 0, 5, []),
  (.iaload, 50, 0, 0, 0, []),
  (.if_icmp .gt 7, 51, 33, 0, 0, []),
  (.iconst 2, 54, 0, 0, 2, []),
  (.goto 4, 55, 34, 0, 0, []),
  (.iconst 3, 58, 0, 0, 3, []),
  (.ireturn, 59, 0, 0, 0, [])]
/-- 156: Mo_judged(III)I -/
def kc156 : List In_ := [(.aload_n 0, 0, 0, 0, 0, []),
  (.iload_n 1, 1, 1, 0, 0, []),
  (.invokevirtual 114, 2, 24, 0, 0, [2, 12, 0, 0, 0, 0]),
  (.ifCond .ne 7, 5, 6, 0, 0, []),
  (.sipush (-1001), 8, 0, 0, (-1001), []),
  (.ireturn, 11, 0, 0, 0, []),
  (.aload_n 0, 12, 0, 0, 0, []),
  (.iload_n 2, 13, 2, 0, 0, []),
  (.invokevirtual 254, 14, 115, 0, 0, [2, 12, 0, 0, 0, 0]),
  (.ifCond .eq 15, 17, 16, 0, 0, []),
  (.iload_n 3, 20, 3, 0, 0, []),
  (.i2l, 21, 0, 0, 0, []),
  (.lconst 0, 22, 0, 0, 0, []),
  (.ldc2_w 259, 23, 0, 0, 3, []),
  (.invokestatic 102, 26, 17, 0, 0, [3, 0, 0, 0, 0]),
  (.ifCond .ne 7, 29, 18, 0, 0, []),
  (.sipush (-1002), 32, 0, 0, (-1002), []),
  (.ireturn, 35, 0, 0, 0, []),
  (.aload_n 0, 36, 0, 0, 0, []),
  (.iload_n 1, 37, 1, 0, 0, []),
  (.iload_n 2, 38, 2, 0, 0, []),
  (.invokevirtual 261, 39, 140, 0, 0, [3, 12, 0, 0, 0, 0]),
  (.aload_n 0, 42, 0, 0, 0, []),
  (.iload_n 1, 43, 1, 0, 0, []),
  (.aload_n 0, 44, 0, 0, 0, []),
  (.getfield 243, 45, 12, 30, 0, [0]),
  (.invokevirtual 265, 48, 141, 0, 0, [3, 12, 0, 0, 0, 0]),
  (.iload_n 3, 51, 3, 0, 0, []),
  (.ifCond .ne 12, 52, 34, 0, 0, []),
  (.aload_n 0, 55, 0, 0, 0, []),
  (.getfield 72, 56, 12, 31, 0, [2]),
  (.iconst 0, 59, 0, 0, 0, []),
  (.iaload, 60, 0, 0, 0, []),
  (.goto 34, 61, 51, 0, 0, []),
  (.iload_n 3, 64, 3, 0, 0, []),
  (.iconst 1, 65, 0, 0, 1, []),
  (.if_icmp .ne 11, 66, 41, 0, 0, []),
  (.aload_n 0, 69, 0, 0, 0, []),
  (.iload_n 1, 70, 1, 0, 0, []),
  (.invokevirtual 278, 71, 153, 0, 0, [2, 12, 0, 0, 0, 0]),
  (.goto 21, 74, 51, 0, 0, []),
  (.iload_n 3, 77, 3, 0, 0, []),
  (.iconst 2, 78, 0, 0, 2, []),
  (.if_icmp .ne 11, 79, 48, 0, 0, []),
  (.aload_n 0, 82, 0, 0, 0, []),
  (.iload_n 1, 83, 1, 0, 0, []),
  (.invokevirtual 281, 84, 154, 0, 0, [2, 12, 0, 0, 0, 0]),
  (.goto 8, 87, 51, 0, 0, []),
  (.aload_n 0, 90, 0, 0, 0, []),
  (.iload_n 1, 91, 1, 0, 0, []),
  (.invokevirtual 284, 92, 155, 0, 0, [2, 12, 0, 0, 0, 0]),
  (.ireturn, 95, 0, 0, 0, [])]
/-- 157: Runs_withRuns(I)I -/
def kc157 : List In_ := [(.iconst 0, 0, 0, 0, 0, []),
  (.istore_n 2, 1, 2, 0, 0, []),
  (.iconst 0, 2, 0, 0, 0, []),
  (.istore_n 3, 3, 3, 0, 0, []),
  (.iload_n 3, 4, 3, 0, 0, []),
  (.aload_n 0, 5, 0, 0, 0, []),
  (.getfield 37, 6, 6, 0, 0, [2]),
  (.getfield 66, 9, 1, 1, 0, [0]),
  (.if_icmp .ge 55, 12, 40, 0, 0, []),
  (.iconst 0, 15, 0, 0, 0, []),
  (.istore 4, 16, 4, 0, 0, []),
  (.iload 4, 18, 4, 0, 0, []),
  (.aload_n 0, 20, 0, 0, 0, []),
  (.getfield 83, 21, 6, 10, 0, [0]),
  (.if_icmp .ge 37, 24, 38, 0, 0, []),
  (.iload_n 1, 27, 1, 0, 0, []),
  (.iload_n 3, 28, 3, 0, 0, []),
  (.iushr, 29, 0, 0, 0, []),
  (.iconst 1, 30, 0, 0, 1, []),
  (.iand, 31, 0, 0, 0, []),
  (.ifCond .eq 23, 32, 36, 0, 0, []),
  (.aload_n 0, 35, 0, 0, 0, []),
  (.getfield 11, 36, 6, 3, 0, [2]),
  (.iload_n 3, 39, 3, 0, 0, []),
  (.aaload, 40, 0, 0, 0, []),
  (.iload 4, 41, 4, 0, 0, []),
  (.laload, 43, 0, 0, 0, []),
  (.lconst 0, 44, 0, 0, 0, []),
  (.lcmp, 45, 0, 0, 0, []),
  (.ifCond .eq 9, 46, 36, 0, 0, []),
  (.iload_n 2, 49, 2, 0, 0, []),
  (.iconst 1, 50, 0, 0, 1, []),
  (.iload_n 3, 51, 3, 0, 0, []),
  (.ishl, 52, 0, 0, 0, []),
  (.ior, 53, 0, 0, 0, []),
  (.istore_n 2, 54, 2, 0, 0, []),
  (.iinc 4 1, 55, 4, 0, 1, []),
  (.goto (-40), 58, 11, 0, 0, []),
  (.iinc 3 1, 61, 3, 0, 1, []),
  (.goto (-60), 64, 4, 0, 0, []),
  (.iload_n 2, 67, 2, 0, 0, []),
  (.ireturn, 68, 0, 0, 0, [])]
/-- 158: Integer_bitCount(I)I -/
def kc158 : List In_ := [(.iload_n 0, 0, 0, 0, 0, []),
  (.iload_n 0, 1, 0, 0, 0, []),
  (.iconst 1, 2, 0, 0, 1, []),
  (.iushr, 3, 0, 0, 0, []),
  (.ldc_w 265, 4, 0, 0, 1431655765, []),
  (.iand, 7, 0, 0, 0, []),
  (.isub, 8, 0, 0, 0, []),
  (.istore_n 0, 9, 0, 0, 0, []),
  (.iload_n 0, 10, 0, 0, 0, []),
  (.ldc_w 266, 11, 0, 0, 858993459, []),
  (.iand, 14, 0, 0, 0, []),
  (.iload_n 0, 15, 0, 0, 0, []),
  (.iconst 2, 16, 0, 0, 2, []),
  (.iushr, 17, 0, 0, 0, []),
  (.ldc_w 266, 18, 0, 0, 858993459, []),
  (.iand, 21, 0, 0, 0, []),
  (.iadd, 22, 0, 0, 0, []),
  (.istore_n 0, 23, 0, 0, 0, []),
  (.iload_n 0, 24, 0, 0, 0, []),
  (.iload_n 0, 25, 0, 0, 0, []),
  (.iconst 4, 26, 0, 0, 4, []),
  (.iushr, 27, 0, 0, 0, []),
  (.iadd, 28, 0, 0, 0, []),
  (.ldc_w 267, 29, 0, 0, 252645135, []),
  (.iand, 32, 0, 0, 0, []),
  (.istore_n 0, 33, 0, 0, 0, []),
  (.iload_n 0, 34, 0, 0, 0, []),
  (.iload_n 0, 35, 0, 0, 0, []),
  (.bipush 8, 36, 0, 0, 8, []),
  (.iushr, 38, 0, 0, 0, []),
  (.iadd, 39, 0, 0, 0, []),
  (.istore_n 0, 40, 0, 0, 0, []),
  (.iload_n 0, 41, 0, 0, 0, []),
  (.iload_n 0, 42, 0, 0, 0, []),
  (.bipush 16, 43, 0, 0, 16, []),
  (.iushr, 45, 0, 0, 0, []),
  (.iadd, 46, 0, 0, 0, []),
  (.istore_n 0, 47, 0, 0, 0, []),
  (.iload_n 0, 48, 0, 0, 0, []),
  (.bipush 63, 49, 0, 0, 63, []),
  (.iand, 51, 0, 0, 0, []),
  (.ireturn, 52, 0, 0, 0, [])]
/-- 159: Explanation_smallestSet(I)I -/
def kc159 : List In_ := [(.aload_n 0, 0, 0, 0, 0, []),
  (.iload_n 1, 1, 1, 0, 0, []),
  (.invokevirtual 31, 2, 137, 0, 0, [2, 7, 0, 0, 0, 0]),
  (.istore_n 2, 5, 2, 0, 0, []),
  (.aload_n 0, 6, 0, 0, 0, []),
  (.getfield 27, 7, 7, 0, 0, [2]),
  (.iload_n 1, 10, 1, 0, 0, []),
  (.invokevirtual 59, 11, 157, 0, 0, [2, 6, 0, 0, 0, 0]),
  (.istore_n 3, 14, 3, 0, 0, []),
  (.iload_n 3, 15, 3, 0, 0, []),
  (.invokestatic 62, 16, 158, 0, 0, [1, 0, 0, 0, 0]),
  (.istore 4, 19, 4, 0, 0, []),
  (.iconst 0, 21, 0, 0, 0, []),
  (.istore 5, 22, 5, 0, 0, []),
  (.iload 5, 24, 5, 0, 0, []),
  (.iload 4, 26, 4, 0, 0, []),
  (.if_icmp .ge 68, 28, 49, 0, 0, []),
  (.iconst 0, 31, 0, 0, 0, []),
  (.istore 6, 32, 6, 0, 0, []),
  (.iload 6, 34, 6, 0, 0, []),
  (.iload_n 3, 36, 3, 0, 0, []),
  (.if_icmp .ge 53, 37, 47, 0, 0, []),
  (.iload 6, 40, 6, 0, 0, []),
  (.iload_n 3, 42, 3, 0, 0, []),
  (.iconst (-1), 43, 0, 0, (-1), []),
  (.ixor, 44, 0, 0, 0, []),
  (.iand, 45, 0, 0, 0, []),
  (.ifCond .ne 17, 46, 34, 0, 0, []),
  (.iload 6, 49, 6, 0, 0, []),
  (.invokestatic 62, 51, 158, 0, 0, [1, 0, 0, 0, 0]),
  (.iload 5, 54, 5, 0, 0, []),
  (.if_icmp .ne 7, 56, 34, 0, 0, []),
  (.iconst 1, 59, 0, 0, 1, []),
  (.goto 4, 60, 35, 0, 0, []),
  (.iconst 0, 63, 0, 0, 0, []),
  (.istore 7, 64, 7, 0, 0, []),
  (.iload 7, 66, 7, 0, 0, []),
  (.ifCond .eq 16, 68, 45, 0, 0, []),
  (.aload_n 0, 71, 0, 0, 0, []),
  (.iload 6, 72, 6, 0, 0, []),
  (.invokevirtual 31, 74, 137, 0, 0, [2, 7, 0, 0, 0, 0]),
  (.iload_n 2, 77, 2, 0, 0, []),
  (.if_icmp .ne 6, 78, 45, 0, 0, []),
  (.iload 6, 81, 6, 0, 0, []),
  (.ireturn, 83, 0, 0, 0, []),
  (.iinc 6 1, 84, 6, 0, 1, []),
  (.goto (-53), 87, 19, 0, 0, []),
  (.iinc 5 1, 90, 5, 0, 1, []),
  (.goto (-69), 93, 14, 0, 0, []),
  (.iload_n 3, 96, 3, 0, 0, []),
  (.ireturn, 97, 0, 0, 0, [])]
/-- 160: BW_fewest(II)I -/
def kc160 : List In_ := [(.aload_n 0, 0, 0, 0, 0, []),
  (.iload_n 1, 1, 1, 0, 0, []),
  (.iload_n 2, 2, 2, 0, 0, []),
  (.invokevirtual 220, 3, 112, 0, 0, [3, 11, 0, 0, 0, 0]),
  (.istore_n 3, 6, 3, 0, 0, []),
  (.iload_n 3, 7, 3, 0, 0, []),
  (.ifCond .eq 7, 8, 9, 0, 0, []),
  (.iload_n 3, 11, 3, 0, 0, []),
  (.goto 16, 12, 16, 0, 0, []),
  (.aload_n 0, 15, 0, 0, 0, []),
  (.getfield 60, 16, 11, 6, 0, [2]),
  (.aload_n 0, 19, 0, 0, 0, []),
  (.iload_n 1, 20, 1, 0, 0, []),
  (.iload_n 2, 21, 2, 0, 0, []),
  (.invokevirtual 226, 22, 127, 0, 0, [3, 11, 0, 0, 0, 0]),
  (.invokevirtual 263, 25, 159, 0, 0, [2, 7, 0, 0, 0, 0]),
  (.ireturn, 28, 0, 0, 0, [])]
/-- 161: Mo_bits(I)I -/
def kc161 : List In_ := [(.iconst 0, 0, 0, 0, 0, []),
  (.istore_n 1, 1, 1, 0, 0, []),
  (.iconst 0, 2, 0, 0, 0, []),
  (.istore_n 2, 3, 2, 0, 0, []),
  (.iload_n 2, 4, 2, 0, 0, []),
  (.bipush 10, 5, 0, 0, 10, []),
  (.if_icmp .ge 17, 7, 17, 0, 0, []),
  (.iload_n 1, 10, 1, 0, 0, []),
  (.iload_n 0, 11, 0, 0, 0, []),
  (.iload_n 2, 12, 2, 0, 0, []),
  (.ishr, 13, 0, 0, 0, []),
  (.iconst 1, 14, 0, 0, 1, []),
  (.iand, 15, 0, 0, 0, []),
  (.iadd, 16, 0, 0, 0, []),
  (.istore_n 1, 17, 1, 0, 0, []),
  (.iinc 2 1, 18, 2, 0, 1, []),
  (.goto (-17), 21, 4, 0, 0, []),
  (.iload_n 1, 24, 1, 0, 0, []),
  (.ireturn, 25, 0, 0, 0, [])]
/-- 162: Mo_fewest(II)I -/
def kc162 : List In_ := [(.aload_n 0, 0, 0, 0, 0, []),
  (.iload_n 1, 1, 1, 0, 0, []),
  (.invokevirtual 114, 2, 24, 0, 0, [2, 12, 0, 0, 0, 0]),
  (.ifCond .ne 7, 5, 6, 0, 0, []),
  (.sipush (-1001), 8, 0, 0, (-1001), []),
  (.ireturn, 11, 0, 0, 0, []),
  (.aload_n 0, 12, 0, 0, 0, []),
  (.iload_n 2, 13, 2, 0, 0, []),
  (.invokevirtual 254, 14, 115, 0, 0, [2, 12, 0, 0, 0, 0]),
  (.ifCond .ne 7, 17, 12, 0, 0, []),
  (.sipush (-1002), 20, 0, 0, (-1002), []),
  (.ireturn, 23, 0, 0, 0, []),
  (.aload_n 0, 24, 0, 0, 0, []),
  (.iload_n 1, 25, 1, 0, 0, []),
  (.iload_n 2, 26, 2, 0, 0, []),
  (.invokevirtual 261, 27, 140, 0, 0, [3, 12, 0, 0, 0, 0]),
  (.aload_n 0, 30, 0, 0, 0, []),
  (.iload_n 1, 31, 1, 0, 0, []),
  (.aload_n 0, 32, 0, 0, 0, []),
  (.getfield 243, 33, 12, 30, 0, [0]),
  (.invokevirtual 265, 36, 141, 0, 0, [3, 12, 0, 0, 0, 0]),
  (.aload_n 0, 39, 0, 0, 0, []),
  (.getfield 72, 40, 12, 31, 0, [2]),
  (.iconst 0, 43, 0, 0, 0, []),
  (.iaload, 44, 0, 0, 0, []),
  (.istore_n 3, 45, 3, 0, 0, []),
  (.iconst 0, 46, 0, 0, 0, []),
  (.istore 4, 47, 4, 0, 0, []),
  (.iconst 0, 49, 0, 0, 0, []),
  (.istore 5, 50, 5, 0, 0, []),
  (.iload 5, 52, 5, 0, 0, []),
  (.sipush 3660, 54, 0, 0, 3660, []),
  (.if_icmp .ge 21, 57, 42, 0, 0, []),
  (.iload 4, 60, 4, 0, 0, []),
  (.aload_n 0, 62, 0, 0, 0, []),
  (.getfield 69, 63, 12, 29, 0, [2]),
  (.iload 5, 66, 5, 0, 0, []),
  (.iaload, 68, 0, 0, 0, []),
  (.ior, 69, 0, 0, 0, []),
  (.istore 4, 70, 4, 0, 0, []),
  (.iinc 5 1, 72, 5, 0, 1, []),
  (.goto (-23), 75, 30, 0, 0, []),
  (.iconst 0, 78, 0, 0, 0, []),
  (.istore 5, 79, 5, 0, 0, []),
  (.iload 5, 81, 5, 0, 0, []),
  (.iload 4, 83, 4, 0, 0, []),
  (.invokestatic 287, 85, 161, 0, 0, [1, 0, 0, 0, 0]),
  (.if_icmp .gt 75, 88, 85, 0, 0, []),
  (.iconst 0, 91, 0, 0, 0, []),
  (.istore 6, 92, 6, 0, 0, []),
  (.iconst 1, 94, 0, 0, 1, []),
  (.istore 7, 95, 7, 0, 0, []),
  (.iload 7, 97, 7, 0, 0, []),
  (.ifCond .eq 58, 99, 83, 0, 0, []),
  (.iload 6, 102, 6, 0, 0, []),
  (.invokestatic 287, 104, 161, 0, 0, [1, 0, 0, 0, 0]),
  (.iload 5, 107, 5, 0, 0, []),
  (.if_icmp .ne 23, 109, 70, 0, 0, []),
  (.aload_n 0, 112, 0, 0, 0, []),
  (.iload_n 1, 113, 1, 0, 0, []),
  (.iload 6, 114, 6, 0, 0, []),
  (.invokevirtual 265, 116, 141, 0, 0, [3, 12, 0, 0, 0, 0]),
  (.aload_n 0, 119, 0, 0, 0, []),
  (.getfield 72, 120, 12, 31, 0, [2]),
  (.iconst 0, 123, 0, 0, 0, []),
  (.iaload, 124, 0, 0, 0, []),
  (.iload_n 3, 125, 3, 0, 0, []),
  (.if_icmp .ne 6, 126, 70, 0, 0, []),
  (.iload 6, 129, 6, 0, 0, []),
  (.ireturn, 131, 0, 0, 0, []),
  (.iload 6, 132, 6, 0, 0, []),
  (.iload 4, 134, 4, 0, 0, []),
  (.isub, 136, 0, 0, 0, []),
  (.iload 4, 137, 4, 0, 0, []),
  (.iand, 139, 0, 0, 0, []),
  (.istore 6, 140, 6, 0, 0, []),
  (.iload 6, 142, 6, 0, 0, []),
  (.ifCond .eq 7, 144, 80, 0, 0, []),
  (.iconst 1, 147, 0, 0, 1, []),
  (.goto 4, 148, 81, 0, 0, []),
  (.iconst 0, 151, 0, 0, 0, []),
  (.istore 7, 152, 7, 0, 0, []),
  (.goto (-57), 154, 52, 0, 0, []),
  (.iinc 5 1, 157, 5, 0, 1, []),
  (.goto (-79), 160, 44, 0, 0, []),
  (.iload 4, 163, 4, 0, 0, []),
  (.ireturn, 165, 0, 0, 0, [])]
/-- 163: BW_hangs(II)I -/
def kc163 : List In_ := [(.aload_n 0, 0, 0, 0, 0, []),
  (.iload_n 1, 1, 1, 0, 0, []),
  (.iload_n 2, 2, 2, 0, 0, []),
  (.invokevirtual 220, 3, 112, 0, 0, [3, 11, 0, 0, 0, 0]),
  (.istore_n 3, 6, 3, 0, 0, []),
  (.iload_n 3, 7, 3, 0, 0, []),
  (.ifCond .eq 5, 8, 9, 0, 0, []),
  (.iload_n 3, 11, 3, 0, 0, []),
  (.ireturn, 12, 0, 0, 0, []),
  (.aload_n 0, 13, 0, 0, 0, []),
  (.iload_n 1, 14, 1, 0, 0, []),
  (.iload_n 2, 15, 2, 0, 0, []),
  (.invokevirtual 226, 16, 127, 0, 0, [3, 11, 0, 0, 0, 0]),
  (.istore 4, 19, 4, 0, 0, []),
  (.aload_n 0, 21, 0, 0, 0, []),
  (.getfield 60, 22, 11, 6, 0, [2]),
  (.iload 4, 25, 4, 0, 0, []),
  (.invokevirtual 239, 27, 138, 0, 0, [2, 7, 0, 0, 0, 0]),
  (.aload_n 0, 30, 0, 0, 0, []),
  (.iload_n 1, 31, 1, 0, 0, []),
  (.invokevirtual 260, 32, 150, 0, 0, [2, 11, 0, 0, 0, 0]),
  (.istore 5, 35, 5, 0, 0, []),
  (.iconst 0, 37, 0, 0, 0, []),
  (.istore 6, 38, 6, 0, 0, []),
  (.iconst 0, 40, 0, 0, 0, []),
  (.istore 7, 41, 7, 0, 0, []),
  (.iload 7, 43, 7, 0, 0, []),
  (.aload_n 0, 45, 0, 0, 0, []),
  (.getfield 10, 46, 11, 0, 0, [2]),
  (.getfield 91, 49, 1, 1, 0, [0]),
  (.if_icmp .ge 54, 52, 60, 0, 0, []),
  (.iload 4, 55, 4, 0, 0, []),
  (.iload 7, 57, 7, 0, 0, []),
  (.iushr, 59, 0, 0, 0, []),
  (.iconst 1, 60, 0, 0, 1, []),
  (.iand, 61, 0, 0, 0, []),
  (.ifCond .eq 38, 62, 58, 0, 0, []),
  (.aload_n 0, 65, 0, 0, 0, []),
  (.getfield 60, 66, 11, 6, 0, [2]),
  (.iload 4, 69, 4, 0, 0, []),
  (.iconst 1, 71, 0, 0, 1, []),
  (.iload 7, 72, 7, 0, 0, []),
  (.ishl, 74, 0, 0, 0, []),
  (.iconst (-1), 75, 0, 0, (-1), []),
  (.ixor, 76, 0, 0, 0, []),
  (.iand, 77, 0, 0, 0, []),
  (.invokevirtual 239, 78, 138, 0, 0, [2, 7, 0, 0, 0, 0]),
  (.aload_n 0, 81, 0, 0, 0, []),
  (.iload_n 1, 82, 1, 0, 0, []),
  (.invokevirtual 260, 83, 150, 0, 0, [2, 11, 0, 0, 0, 0]),
  (.iload 5, 86, 5, 0, 0, []),
  (.if_icmp .eq 12, 88, 58, 0, 0, []),
  (.iload 6, 91, 6, 0, 0, []),
  (.iconst 1, 93, 0, 0, 1, []),
  (.iload 7, 94, 7, 0, 0, []),
  (.ishl, 96, 0, 0, 0, []),
  (.ior, 97, 0, 0, 0, []),
  (.istore 6, 98, 6, 0, 0, []),
  (.iinc 7 1, 100, 7, 0, 1, []),
  (.goto (-60), 103, 26, 0, 0, []),
  (.iload 6, 106, 6, 0, 0, []),
  (.ireturn, 108, 0, 0, 0, [])]
/-- 164: Mo_hangs(II)I -/
def kc164 : List In_ := [(.aload_n 0, 0, 0, 0, 0, []),
  (.iload_n 1, 1, 1, 0, 0, []),
  (.invokevirtual 114, 2, 24, 0, 0, [2, 12, 0, 0, 0, 0]),
  (.ifCond .ne 7, 5, 6, 0, 0, []),
  (.sipush (-1001), 8, 0, 0, (-1001), []),
  (.ireturn, 11, 0, 0, 0, []),
  (.aload_n 0, 12, 0, 0, 0, []),
  (.iload_n 2, 13, 2, 0, 0, []),
  (.invokevirtual 254, 14, 115, 0, 0, [2, 12, 0, 0, 0, 0]),
  (.ifCond .ne 7, 17, 12, 0, 0, []),
  (.sipush (-1002), 20, 0, 0, (-1002), []),
  (.ireturn, 23, 0, 0, 0, []),
  (.aload_n 0, 24, 0, 0, 0, []),
  (.iload_n 1, 25, 1, 0, 0, []),
  (.iload_n 2, 26, 2, 0, 0, []),
  (.invokevirtual 261, 27, 140, 0, 0, [3, 12, 0, 0, 0, 0]),
  (.aload_n 0, 30, 0, 0, 0, []),
  (.iload_n 1, 31, 1, 0, 0, []),
  (.aload_n 0, 32, 0, 0, 0, []),
  (.getfield 243, 33, 12, 30, 0, [0]),
  (.invokevirtual 265, 36, 141, 0, 0, [3, 12, 0, 0, 0, 0]),
  (.aload_n 0, 39, 0, 0, 0, []),
  (.iload_n 1, 40, 1, 0, 0, []),
  (.invokevirtual 284, 41, 155, 0, 0, [2, 12, 0, 0, 0, 0]),
  (.istore_n 3, 44, 3, 0, 0, []),
  (.iconst 0, 45, 0, 0, 0, []),
  (.istore 4, 46, 4, 0, 0, []),
  (.iconst 0, 48, 0, 0, 0, []),
  (.istore 5, 49, 5, 0, 0, []),
  (.iload 5, 51, 5, 0, 0, []),
  (.iload_n 2, 53, 2, 0, 0, []),
  (.if_icmp .ge 60, 54, 66, 0, 0, []),
  (.aload_n 0, 57, 0, 0, 0, []),
  (.getfield 243, 58, 12, 30, 0, [0]),
  (.iload 5, 61, 5, 0, 0, []),
  (.ishr, 63, 0, 0, 0, []),
  (.iconst 1, 64, 0, 0, 1, []),
  (.iand, 65, 0, 0, 0, []),
  (.iconst 1, 66, 0, 0, 1, []),
  (.if_icmp .ne 41, 67, 64, 0, 0, []),
  (.aload_n 0, 70, 0, 0, 0, []),
  (.iload_n 1, 71, 1, 0, 0, []),
  (.aload_n 0, 72, 0, 0, 0, []),
  (.getfield 243, 73, 12, 30, 0, [0]),
  (.iconst 1, 76, 0, 0, 1, []),
  (.iload 5, 77, 5, 0, 0, []),
  (.ishl, 79, 0, 0, 0, []),
  (.iconst (-1), 80, 0, 0, (-1), []),
  (.ixor, 81, 0, 0, 0, []),
  (.iand, 82, 0, 0, 0, []),
  (.invokevirtual 265, 83, 141, 0, 0, [3, 12, 0, 0, 0, 0]),
  (.iload 4, 86, 4, 0, 0, []),
  (.aload_n 0, 88, 0, 0, 0, []),
  (.iload_n 1, 89, 1, 0, 0, []),
  (.invokevirtual 284, 90, 155, 0, 0, [2, 12, 0, 0, 0, 0]),
  (.iload_n 3, 93, 3, 0, 0, []),
  (.if_icmp .eq 10, 94, 61, 0, 0, []),
  (.iconst 1, 97, 0, 0, 1, []),
  (.iload 5, 98, 5, 0, 0, []),
  (.ishl, 100, 0, 0, 0, []),
  (.goto 4, 101, 62, 0, 0, []),
  (.iconst 0, 104, 0, 0, 0, []),
  (.ior, 105, 0, 0, 0, []),
  (.istore 4, 106, 4, 0, 0, []),
  (.iinc 5 1, 108, 5, 0, 1, []),
  (.goto (-60), 111, 29, 0, 0, []),
  (.iload 4, 114, 4, 0, 0, []),
  (.ireturn, 116, 0, 0, 0, [])]
/-- 165: Ways_learnText(I)V -/
def kc165 : List In_ := [(.aload_n 0, 0, 0, 0, 0, []),
  (.getfield 23, 1, 8, 1, 0, [2]),
  (.iload_n 1, 4, 1, 0, 0, []),
  (.invokevirtual 45, 5, 126, 0, 0, [2, 6, 0, 0, 0, 0]),
  (.aload_n 0, 8, 0, 0, 0, []),
  (.getfield 23, 9, 8, 1, 0, [2]),
  (.iload_n 1, 12, 1, 0, 0, []),
  (.aload_n 0, 13, 0, 0, 0, []),
  (.getfield 19, 14, 8, 0, 0, [2]),
  (.getfield 35, 17, 1, 1, 0, [0]),
  (.invokevirtual 50, 20, 113, 0, 0, [3, 6, 0, 0, 0, 0]),
  (.istore_n 2, 23, 2, 0, 0, []),
  (.aload_n 0, 24, 0, 0, 0, []),
  (.getfield 27, 25, 8, 2, 0, [2]),
  (.iload_n 2, 28, 2, 0, 0, []),
  (.invokevirtual 54, 29, 138, 0, 0, [2, 7, 0, 0, 0, 0]),
  (.iconst 0, 32, 0, 0, 0, []),
  (.istore_n 3, 33, 3, 0, 0, []),
  (.iload_n 3, 34, 3, 0, 0, []),
  (.aload_n 0, 35, 0, 0, 0, []),
  (.getfield 19, 36, 8, 0, 0, [2]),
  (.getfield 59, 39, 1, 0, 0, [2]),
  (.iload_n 1, 42, 1, 0, 0, []),
  (.aaload, 43, 0, 0, 0, []),
  (.getfield 63, 44, 0, 4, 0, [0]),
  (.if_icmp .ge 18, 47, 35, 0, 0, []),
  (.aload_n 0, 50, 0, 0, 0, []),
  (.getfield 11, 51, 8, 3, 0, [2]),
  (.iload_n 1, 54, 1, 0, 0, []),
  (.aaload, 55, 0, 0, 0, []),
  (.iload_n 3, 56, 3, 0, 0, []),
  (.iconst (-1), 57, 0, 0, (-1), []),
  (.iastore, 58, 0, 0, 0, []),
  (.iinc 3 1, 59, 3, 0, 1, []),
  (.goto (-28), 62, 18, 0, 0, []),
  (.iconst 0, 65, 0, 0, 0, []),
  (.istore_n 3, 66, 3, 0, 0, []),
  (.iload_n 3, 67, 3, 0, 0, []),
  (.aload_n 0, 68, 0, 0, 0, []),
  (.getfield 27, 69, 8, 2, 0, [2]),
  (.getfield 66, 72, 7, 6, 0, [0]),
  (.if_icmp .ge 107, 75, 97, 0, 0, []),
  (.aload_n 0, 78, 0, 0, 0, []),
  (.getfield 27, 79, 8, 2, 0, [2]),
  (.getfield 69, 82, 7, 4, 0, [2]),
  (.iload_n 3, 85, 3, 0, 0, []),
  (.iaload, 86, 0, 0, 0, []),
  (.istore 4, 87, 4, 0, 0, []),
  (.aload_n 0, 89, 0, 0, 0, []),
  (.getfield 27, 90, 8, 2, 0, [2]),
  (.getfield 73, 93, 7, 5, 0, [2]),
  (.iload_n 3, 96, 3, 0, 0, []),
  (.iaload, 97, 0, 0, 0, []),
  (.istore 5, 98, 5, 0, 0, []),
  (.aload_n 0, 100, 0, 0, 0, []),
  (.getfield 23, 101, 8, 1, 0, [2]),
  (.iload 4, 104, 4, 0, 0, []),
  (.iload 5, 106, 5, 0, 0, []),
  (.iload_n 2, 108, 2, 0, 0, []),
  (.invokevirtual 76, 109, 130, 0, 0, [4, 6, 0, 0, 0, 0]),
  (.istore 6, 112, 6, 0, 0, []),
  (.aload_n 0, 114, 0, 0, 0, []),
  (.getfield 23, 115, 8, 1, 0, [2]),
  (.iload 6, 118, 6, 0, 0, []),
  (.iload 4, 120, 4, 0, 0, []),
  (.iload 5, 122, 5, 0, 0, []),
  (.invokevirtual 80, 124, 131, 0, 0, [4, 6, 0, 0, 0, 0]),
  (.istore 7, 127, 7, 0, 0, []),
  (.iconst 0, 129, 0, 0, 0, []),
  (.istore 8, 130, 8, 0, 0, []),
  (.iload 8, 132, 8, 0, 0, []),
  (.iload 5, 134, 5, 0, 0, []),
  (.if_icmp .ge 40, 136, 95, 0, 0, []),
  (.aload_n 0, 139, 0, 0, 0, []),
  (.getfield 11, 140, 8, 3, 0, [2]),
  (.iload_n 1, 143, 1, 0, 0, []),
  (.aaload, 144, 0, 0, 0, []),
  (.iload 4, 145, 4, 0, 0, []),
  (.iload 8, 147, 8, 0, 0, []),
  (.iadd, 149, 0, 0, 0, []),
  (.iload 6, 150, 6, 0, 0, []),
  (.iastore, 152, 0, 0, 0, []),
  (.aload_n 0, 153, 0, 0, 0, []),
  (.getfield 16, 154, 8, 4, 0, [2]),
  (.iload_n 1, 157, 1, 0, 0, []),
  (.aaload, 158, 0, 0, 0, []),
  (.iload 4, 159, 4, 0, 0, []),
  (.iload 8, 161, 8, 0, 0, []),
  (.iadd, 163, 0, 0, 0, []),
  (.iload 7, 164, 7, 0, 0, []),
  (.iload 8, 166, 8, 0, 0, []),
  (.iadd, 168, 0, 0, 0, []),
  (.iastore, 169, 0, 0, 0, []),
  (.iinc 8 1, 170, 8, 0, 1, []),
  (.goto (-41), 173, 70, 0, 0, []),
  (.iinc 3 1, 176, 3, 0, 1, []),
  (.goto (-112), 179, 37, 0, 0, []),
  (.return_, 182, 0, 0, 0, [])]
/-- 166: Ways_learn()V -/
def kc166 : List In_ := [(.aload_n 0, 0, 0, 0, 0, []),
  (.getfield 31, 1, 8, 5, 0, [3]),
  (.ifCond .eq 4, 4, 4, 0, 0, []),
  (.return_, 7, 0, 0, 0, []),
  (.iconst 0, 8, 0, 0, 0, []),
  (.istore_n 1, 9, 1, 0, 0, []),
  (.iload_n 1, 10, 1, 0, 0, []),
  (.aload_n 0, 11, 0, 0, 0, []),
  (.getfield 19, 12, 8, 0, 0, [2]),
  (.getfield 35, 15, 1, 1, 0, [0]),
  (.if_icmp .ge 14, 18, 16, 0, 0, []),
  (.aload_n 0, 21, 0, 0, 0, []),
  (.iload_n 1, 22, 1, 0, 0, []),
  (.invokevirtual 41, 23, 165, 0, 0, [2, 8, 0, 0, 0, 0]),
  (.iinc 1 1, 26, 1, 0, 1, []),
  (.goto (-19), 29, 6, 0, 0, []),
  (.aload_n 0, 32, 0, 0, 0, []),
  (.iconst 1, 33, 0, 0, 1, []),
  (.putfield 31, 34, 8, 5, 0, [3]),
  (.return_, 37, 0, 0, 0, [])]
/-- 167: Ways_walk(II)V -/
def kc167 : List In_ := [(.aload_n 0, 0, 0, 0, 0, []),
  (.iload_n 1, 1, 1, 0, 0, []),
  (.putfield 83, 2, 8, 6, 0, [0]),
  (.aload_n 0, 5, 0, 0, 0, []),
  (.iload_n 2, 6, 2, 0, 0, []),
  (.putfield 86, 7, 8, 7, 0, [0]),
  (.aload_n 0, 10, 0, 0, 0, []),
  (.iconst 0, 11, 0, 0, 0, []),
  (.putfield 89, 12, 8, 8, 0, [0]),
  (.aload_n 0, 15, 0, 0, 0, []),
  (.iconst 0, 16, 0, 0, 0, []),
  (.putfield 92, 17, 8, 9, 0, [0]),
  (.aload_n 0, 20, 0, 0, 0, []),
  (.getfield 89, 21, 8, 8, 0, [0]),
  (.bipush 10, 24, 0, 0, 10, []),
  (.if_icmp .ge 84, 26, 63, 0, 0, []),
  (.aload_n 0, 29, 0, 0, 0, []),
  (.getfield 11, 30, 8, 3, 0, [2]),
  (.aload_n 0, 33, 0, 0, 0, []),
  (.getfield 83, 34, 8, 6, 0, [0]),
  (.aaload, 37, 0, 0, 0, []),
  (.aload_n 0, 38, 0, 0, 0, []),
  (.getfield 86, 39, 8, 7, 0, [0]),
  (.iaload, 42, 0, 0, 0, []),
  (.iconst (-1), 43, 0, 0, (-1), []),
  (.if_icmp .eq 66, 44, 63, 0, 0, []),
  (.aload_n 0, 47, 0, 0, 0, []),
  (.getfield 11, 48, 8, 3, 0, [2]),
  (.aload_n 0, 51, 0, 0, 0, []),
  (.getfield 83, 52, 8, 6, 0, [0]),
  (.aaload, 55, 0, 0, 0, []),
  (.aload_n 0, 56, 0, 0, 0, []),
  (.getfield 86, 57, 8, 7, 0, [0]),
  (.iaload, 60, 0, 0, 0, []),
  (.istore_n 3, 61, 3, 0, 0, []),
  (.aload_n 0, 62, 0, 0, 0, []),
  (.aload_n 0, 63, 0, 0, 0, []),
  (.getfield 16, 64, 8, 4, 0, [2]),
  (.aload_n 0, 67, 0, 0, 0, []),
  (.getfield 83, 68, 8, 6, 0, [0]),
  (.aaload, 71, 0, 0, 0, []),
  (.aload_n 0, 72, 0, 0, 0, []),
  (.getfield 86, 73, 8, 7, 0, [0]),
  (.iaload, 76, 0, 0, 0, []),
  (.putfield 86, 77, 8, 7, 0, [0]),
  (.aload_n 0, 80, 0, 0, 0, []),
  (.iload_n 3, 81, 3, 0, 0, []),
  (.putfield 83, 82, 8, 6, 0, [0]),
  (.aload_n 0, 85, 0, 0, 0, []),
  (.dup, 86, 0, 0, 0, []),
  (.getfield 92, 87, 8, 9, 0, [0]),
  (.iconst 1, 90, 0, 0, 1, []),
  (.iload_n 3, 91, 3, 0, 0, []),
  (.ishl, 92, 0, 0, 0, []),
  (.ior, 93, 0, 0, 0, []),
  (.putfield 92, 94, 8, 9, 0, [0]),
  (.aload_n 0, 97, 0, 0, 0, []),
  (.dup, 98, 0, 0, 0, []),
  (.getfield 89, 99, 8, 8, 0, [0]),
  (.iconst 1, 102, 0, 0, 1, []),
  (.iadd, 103, 0, 0, 0, []),
  (.putfield 89, 104, 8, 8, 0, [0]),
  (.goto (-87), 107, 12, 0, 0, []),
  (.return_, 110, 0, 0, 0, [])]
/-- 168: BW_first(III)I -/
def kc168 : List In_ := [(.aload_n 0, 0, 0, 0, 0, []),
  (.getfield 10, 1, 11, 0, 0, [2]),
  (.iload_n 1, 4, 1, 0, 0, []),
  (.invokevirtual 102, 5, 19, 0, 0, [2, 1, 0, 0, 0, 0]),
  (.ifCond .ne 7, 8, 7, 0, 0, []),
  (.sipush (-1001), 11, 0, 0, (-1001), []),
  (.ireturn, 14, 0, 0, 0, []),
  (.aload_n 0, 15, 0, 0, 0, []),
  (.getfield 10, 16, 11, 0, 0, [2]),
  (.getfield 108, 19, 1, 0, 0, [2]),
  (.iload_n 1, 22, 1, 0, 0, []),
  (.aaload, 23, 0, 0, 0, []),
  (.iload_n 2, 24, 2, 0, 0, []),
  (.invokevirtual 163, 25, 51, 0, 0, [2, 0, 0, 0, 0, 0]),
  (.ifCond .eq 12, 28, 20, 0, 0, []),
  (.iload_n 3, 31, 3, 0, 0, []),
  (.ifCond .lt 8, 32, 20, 0, 0, []),
  (.iload_n 3, 35, 3, 0, 0, []),
  (.iconst 2, 36, 0, 0, 2, []),
  (.if_icmp .le 7, 37, 22, 0, 0, []),
  (.sipush (-1002), 40, 0, 0, (-1002), []),
  (.ireturn, 43, 0, 0, 0, []),
  (.aload_n 0, 44, 0, 0, 0, []),
  (.getfield 69, 45, 11, 7, 0, [2]),
  (.invokevirtual 266, 48, 166, 0, 0, [1, 8, 0, 0, 0, 0]),
  (.aload_n 0, 51, 0, 0, 0, []),
  (.getfield 69, 52, 11, 7, 0, [2]),
  (.iload_n 1, 55, 1, 0, 0, []),
  (.iload_n 2, 56, 2, 0, 0, []),
  (.invokevirtual 269, 57, 167, 0, 0, [3, 8, 0, 0, 0, 0]),
  (.iload_n 3, 60, 3, 0, 0, []),
  (.ifCond .ne 11, 61, 36, 0, 0, []),
  (.aload_n 0, 64, 0, 0, 0, []),
  (.getfield 69, 65, 11, 7, 0, [2]),
  (.getfield 273, 68, 8, 6, 0, [0]),
  (.ireturn, 71, 0, 0, 0, []),
  (.iload_n 3, 72, 3, 0, 0, []),
  (.iconst 1, 73, 0, 0, 1, []),
  (.if_icmp .ne 13, 74, 43, 0, 0, []),
  (.aload_n 0, 77, 0, 0, 0, []),
  (.getfield 69, 78, 11, 7, 0, [2]),
  (.getfield 276, 81, 8, 7, 0, [0]),
  (.goto 10, 84, 46, 0, 0, []),
  (.aload_n 0, 87, 0, 0, 0, []),
  (.getfield 69, 88, 11, 7, 0, [2]),
  (.getfield 279, 91, 8, 8, 0, [0]),
  (.ireturn, 94, 0, 0, 0, [])]
/-- 169: Mo_find()V -/
def kc169_0 : List In_ := [(.aload_n 0, 0, 0, 0, 0, []),
  (.getfield 110, 1, 12, 8, 0, [3]),
  (.ifCond .eq 4, 4, 4, 0, 0, []),
  (.return_, 7, 0, 0, 0, []),
  (.iconst 0, 8, 0, 0, 0, []),
  (.istore_n 1, 9, 1, 0, 0, []),
  (.iload_n 1, 10, 1, 0, 0, []),
  (.aload_n 0, 11, 0, 0, 0, []),
  (.getfield 99, 12, 12, 0, 0, [0]),
  (.if_icmp .ge 156, 15, 101, 0, 0, []),
  (.aload_n 0, 18, 0, 0, 0, []),
  (.iload_n 1, 19, 1, 0, 0, []),
  (.aload_n 0, 20, 0, 0, 0, []),
  (.getfield 99, 21, 12, 0, 0, [0]),
  (.invokevirtual 261, 24, 140, 0, 0, [3, 12, 0, 0, 0, 0]),
  (.aload_n 0, 27, 0, 0, 0, []),
  (.iload_n 1, 28, 1, 0, 0, []),
  (.aload_n 0, 29, 0, 0, 0, []),
  (.getfield 243, 30, 12, 30, 0, [0]),
  (.invokevirtual 265, 33, 141, 0, 0, [3, 12, 0, 0, 0, 0]),
  (.iconst 0, 36, 0, 0, 0, []),
  (.istore_n 2, 37, 2, 0, 0, []),
  (.iload_n 2, 38, 2, 0, 0, []),
  (.aload_n 0, 39, 0, 0, 0, []),
  (.getfield 16, 40, 12, 3, 0, [2]),
  (.iload_n 1, 43, 1, 0, 0, []),
  (.iaload, 44, 0, 0, 0, []),
  (.if_icmp .ge 120, 45, 99, 0, 0, []),
  (.aload_n 0, 48, 0, 0, 0, []),
  (.getfield 78, 49, 12, 33, 0, [2]),
  (.iload_n 2, 52, 2, 0, 0, []),
  (.iaload, 53, 0, 0, 0, []),
  (.istore_n 3, 54, 3, 0, 0, []),
  (.iload_n 3, 55, 3, 0, 0, []),
  (.ifCond .le 16, 56, 42, 0, 0, []),
  (.aload_n 0, 59, 0, 0, 0, []),
  (.iload_n 2, 60, 2, 0, 0, []),
  (.iload_n 3, 61, 3, 0, 0, []),
  (.aload_n 0, 62, 0, 0, 0, []),
  (.getfield 243, 63, 12, 30, 0, [0]),
  (.invokevirtual 268, 66, 142, 0, 0, [4, 12, 0, 0, 0, 0]),
  (.goto 4, 69, 43, 0, 0, []),
  (.iconst (-1), 72, 0, 0, (-1), []),
  (.istore 4, 73, 4, 0, 0, []),
  (.iload_n 3, 75, 3, 0, 0, []),
  (.ifCond .le 15, 76, 53, 0, 0, []),
  (.aload_n 0, 79, 0, 0, 0, []),
  (.iload_n 1, 80, 1, 0, 0, []),
  (.iload_n 2, 81, 2, 0, 0, []),
  (.iload 4, 82, 4, 0, 0, []),
  (.iload_n 3, 84, 3, 0, 0, []),
  (.invokevirtual 271, 85, 144, 0, 0, [5, 12, 0, 0, 0, 0]),
  (.goto 4, 88, 54, 0, 0, []),
  (.iconst 0, 91, 0, 0, 0, []),
  (.istore 5, 92, 5, 0, 0, []),
  (.iconst 0, 94, 0, 0, 0, []),
  (.istore 6, 95, 6, 0, 0, []),
  (.iload 6, 97, 6, 0, 0, []),
  (.iload_n 3, 99, 3, 0, 0, []),
  (.if_icmp .ge 34, 100, 79, 0, 0, []),
  (.aload_n 0, 103, 0, 0, 0, []),
  (.getfield 81, 104, 12, 34, 0, [2]),
  (.bipush 60, 107, 0, 0, 60, []),
  (.iload_n 1, 109, 1, 0, 0, []),
  (.imul, 110, 0, 0, 0, []),
  (.iload_n 2, 111, 2, 0, 0, []),
  (.iadd, 112, 0, 0, 0, []),
  (.iload 6, 113, 6, 0, 0, []),
  (.iadd, 115, 0, 0, 0, []),
  (.bipush 60, 116, 0, 0, 60, []),
  (.iload 4, 118, 4, 0, 0, []),
  (.imul, 120, 0, 0, 0, []),
  (.iload 5, 121, 5, 0, 0, []),
  (.iadd, 123, 0, 0, 0, []),
  (.iload 6, 124, 6, 0, 0, []),
  (.iadd, 126, 0, 0, 0, []),
  (.iastore, 127, 0, 0, 0, []),
  (.iinc 6 1, 128, 6, 0, 1, []),
  (.goto (-34), 131, 57, 0, 0, []),
  (.iload_n 3, 134, 3, 0, 0, []),
  (.ifCond .ne 15, 135, 90, 0, 0, []),
  (.aload_n 0, 138, 0, 0, 0, []),
  (.getfield 81, 139, 12, 34, 0, [2]),
  (.bipush 60, 142, 0, 0, 60, []),
  (.iload_n 1, 144, 1, 0, 0, []),
  (.imul, 145, 0, 0, 0, []),
  (.iload_n 2, 146, 2, 0, 0, []),
  (.iadd, 147, 0, 0, 0, []),
  (.iconst (-1), 148, 0, 0, (-1), []),
  (.iastore, 149, 0, 0, 0, []),
  (.iload_n 2, 150, 2, 0, 0, []),
  (.iload_n 3, 151, 3, 0, 0, []),
  (.ifCond .le 7, 152, 95, 0, 0, []),
  (.iload_n 3, 155, 3, 0, 0, []),
  (.goto 4, 156, 96, 0, 0, []),
  (.iconst 1, 159, 0, 0, 1, []),
  (.iadd, 160, 0, 0, 0, []),
  (.istore_n 2, 161, 2, 0, 0, []),
  (.goto (-124), 162, 22, 0, 0, []),
  (.iinc 1 1, 165, 1, 0, 1, [])]
def kc169_1 : List In_ := [(.goto (-158), 168, 6, 0, 0, []),
  (.aload_n 0, 171, 0, 0, 0, []),
  (.iconst 1, 172, 0, 0, 1, []),
  (.putfield 110, 173, 12, 8, 0, [3]),
  (.return_, 176, 0, 0, 0, [])]
def kc169 : List In_ := kc169_0 ++ kc169_1
/-- 170: Mo_first(III)I -/
def kc170 : List In_ := [(.aload_n 0, 0, 0, 0, 0, []),
  (.iload_n 1, 1, 1, 0, 0, []),
  (.invokevirtual 114, 2, 24, 0, 0, [2, 12, 0, 0, 0, 0]),
  (.ifCond .ne 7, 5, 6, 0, 0, []),
  (.sipush (-1001), 8, 0, 0, (-1001), []),
  (.ireturn, 11, 0, 0, 0, []),
  (.iload_n 2, 12, 2, 0, 0, []),
  (.i2l, 13, 0, 0, 0, []),
  (.lconst 0, 14, 0, 0, 0, []),
  (.aload_n 0, 15, 0, 0, 0, []),
  (.getfield 16, 16, 12, 3, 0, [2]),
  (.iload_n 1, 19, 1, 0, 0, []),
  (.iaload, 20, 0, 0, 0, []),
  (.iconst 1, 21, 0, 0, 1, []),
  (.isub, 22, 0, 0, 0, []),
  (.i2l, 23, 0, 0, 0, []),
  (.invokestatic 102, 24, 17, 0, 0, [3, 0, 0, 0, 0]),
  (.ifCond .eq 15, 27, 24, 0, 0, []),
  (.iload_n 3, 30, 3, 0, 0, []),
  (.i2l, 31, 0, 0, 0, []),
  (.lconst 0, 32, 0, 0, 0, []),
  (.ldc2_w 257, 33, 0, 0, 2, []),
  (.invokestatic 102, 36, 17, 0, 0, [3, 0, 0, 0, 0]),
  (.ifCond .ne 7, 39, 26, 0, 0, []),
  (.sipush (-1002), 42, 0, 0, (-1002), []),
  (.ireturn, 45, 0, 0, 0, []),
  (.aload_n 0, 46, 0, 0, 0, []),
  (.invokevirtual 290, 47, 169, 0, 0, [1, 12, 0, 0, 0, 0]),
  (.bipush 60, 50, 0, 0, 60, []),
  (.iload_n 1, 52, 1, 0, 0, []),
  (.imul, 53, 0, 0, 0, []),
  (.iload_n 2, 54, 2, 0, 0, []),
  (.iadd, 55, 0, 0, 0, []),
  (.istore 4, 56, 4, 0, 0, []),
  (.iconst 0, 58, 0, 0, 0, []),
  (.istore 5, 59, 5, 0, 0, []),
  (.aload_n 0, 61, 0, 0, 0, []),
  (.getfield 81, 62, 12, 34, 0, [2]),
  (.iload 4, 65, 4, 0, 0, []),
  (.iaload, 67, 0, 0, 0, []),
  (.ifCond .lt 18, 68, 48, 0, 0, []),
  (.aload_n 0, 71, 0, 0, 0, []),
  (.getfield 81, 72, 12, 34, 0, [2]),
  (.iload 4, 75, 4, 0, 0, []),
  (.iaload, 77, 0, 0, 0, []),
  (.istore 4, 78, 4, 0, 0, []),
  (.iinc 5 1, 80, 5, 0, 1, []),
  (.goto (-22), 83, 36, 0, 0, []),
  (.iload_n 3, 86, 3, 0, 0, []),
  (.ifCond .ne 11, 87, 54, 0, 0, []),
  (.iload 4, 90, 4, 0, 0, []),
  (.bipush 60, 92, 0, 0, 60, []),
  (.idiv, 94, 0, 0, 0, []),
  (.goto 18, 95, 62, 0, 0, []),
  (.iload_n 3, 98, 3, 0, 0, []),
  (.iconst 1, 99, 0, 0, 1, []),
  (.if_icmp .ne 11, 100, 61, 0, 0, []),
  (.iload 4, 103, 4, 0, 0, []),
  (.bipush 60, 105, 0, 0, 60, []),
  (.irem, 107, 0, 0, 0, []),
  (.goto 5, 108, 62, 0, 0, []),
  (.iload 5, 111, 5, 0, 0, []),
  (.ireturn, 113, 0, 0, 0, [])]
/-- 171: Ways_countThrough(II)I -/
def kc171 : List In_ := [(.iconst 0, 0, 0, 0, 0, []),
  (.istore_n 3, 1, 3, 0, 0, []),
  (.iconst 0, 2, 0, 0, 0, []),
  (.istore 4, 3, 4, 0, 0, []),
  (.iload 4, 5, 4, 0, 0, []),
  (.aload_n 0, 7, 0, 0, 0, []),
  (.getfield 19, 8, 8, 0, 0, [2]),
  (.getfield 59, 11, 1, 0, 0, [2]),
  (.iload_n 1, 14, 1, 0, 0, []),
  (.aaload, 15, 0, 0, 0, []),
  (.getfield 63, 16, 0, 4, 0, [0]),
  (.if_icmp .ge 27, 19, 27, 0, 0, []),
  (.aload_n 0, 22, 0, 0, 0, []),
  (.iload_n 1, 23, 1, 0, 0, []),
  (.iload 4, 24, 4, 0, 0, []),
  (.invokevirtual 95, 26, 167, 0, 0, [3, 8, 0, 0, 0, 0]),
  (.iload_n 3, 29, 3, 0, 0, []),
  (.aload_n 0, 30, 0, 0, 0, []),
  (.getfield 92, 31, 8, 9, 0, [0]),
  (.iload_n 2, 34, 2, 0, 0, []),
  (.iushr, 35, 0, 0, 0, []),
  (.iconst 1, 36, 0, 0, 1, []),
  (.iand, 37, 0, 0, 0, []),
  (.iadd, 38, 0, 0, 0, []),
  (.istore_n 3, 39, 3, 0, 0, []),
  (.iinc 4 1, 40, 4, 0, 1, []),
  (.goto (-38), 43, 4, 0, 0, []),
  (.iload_n 3, 46, 3, 0, 0, []),
  (.ireturn, 47, 0, 0, 0, [])]
/-- 172: BW_passed(II)I -/
def kc172 : List In_ := [(.aload_n 0, 0, 0, 0, 0, []),
  (.getfield 10, 1, 11, 0, 0, [2]),
  (.iload_n 1, 4, 1, 0, 0, []),
  (.invokevirtual 102, 5, 19, 0, 0, [2, 1, 0, 0, 0, 0]),
  (.ifCond .eq 14, 8, 10, 0, 0, []),
  (.aload_n 0, 11, 0, 0, 0, []),
  (.getfield 10, 12, 11, 0, 0, [2]),
  (.iload_n 2, 15, 2, 0, 0, []),
  (.invokevirtual 102, 16, 19, 0, 0, [2, 1, 0, 0, 0, 0]),
  (.ifCond .ne 7, 19, 12, 0, 0, []),
  (.sipush (-1001), 22, 0, 0, (-1001), []),
  (.ireturn, 25, 0, 0, 0, []),
  (.iload_n 1, 26, 1, 0, 0, []),
  (.iload_n 2, 27, 2, 0, 0, []),
  (.if_icmp .ne 7, 28, 17, 0, 0, []),
  (.sipush (-1002), 31, 0, 0, (-1002), []),
  (.ireturn, 34, 0, 0, 0, []),
  (.aload_n 0, 35, 0, 0, 0, []),
  (.getfield 69, 36, 11, 7, 0, [2]),
  (.invokevirtual 266, 39, 166, 0, 0, [1, 8, 0, 0, 0, 0]),
  (.aload_n 0, 42, 0, 0, 0, []),
  (.getfield 69, 43, 11, 7, 0, [2]),
  (.iload_n 1, 46, 1, 0, 0, []),
  (.iload_n 2, 47, 2, 0, 0, []),
  (.invokevirtual 282, 48, 171, 0, 0, [3, 8, 0, 0, 0, 0]),
  (.ireturn, 51, 0, 0, 0, [])]
/-- 173: Mo_passed(II)I -/
def kc173 : List In_ := [(.aload_n 0, 0, 0, 0, 0, []),
  (.iload_n 1, 1, 1, 0, 0, []),
  (.invokevirtual 114, 2, 24, 0, 0, [2, 12, 0, 0, 0, 0]),
  (.ifCond .eq 11, 5, 8, 0, 0, []),
  (.aload_n 0, 8, 0, 0, 0, []),
  (.iload_n 2, 9, 2, 0, 0, []),
  (.invokevirtual 114, 10, 24, 0, 0, [2, 12, 0, 0, 0, 0]),
  (.ifCond .ne 7, 13, 10, 0, 0, []),
  (.sipush (-1001), 16, 0, 0, (-1001), []),
  (.ireturn, 19, 0, 0, 0, []),
  (.iload_n 1, 20, 1, 0, 0, []),
  (.iload_n 2, 21, 2, 0, 0, []),
  (.if_icmp .ne 7, 22, 15, 0, 0, []),
  (.sipush (-1002), 25, 0, 0, (-1002), []),
  (.ireturn, 28, 0, 0, 0, []),
  (.aload_n 0, 29, 0, 0, 0, []),
  (.invokevirtual 290, 30, 169, 0, 0, [1, 12, 0, 0, 0, 0]),
  (.iconst 0, 33, 0, 0, 0, []),
  (.istore_n 3, 34, 3, 0, 0, []),
  (.iconst 0, 35, 0, 0, 0, []),
  (.istore 4, 36, 4, 0, 0, []),
  (.iload 4, 38, 4, 0, 0, []),
  (.aload_n 0, 40, 0, 0, 0, []),
  (.getfield 16, 41, 12, 3, 0, [2]),
  (.iload_n 1, 44, 1, 0, 0, []),
  (.iaload, 45, 0, 0, 0, []),
  (.if_icmp .ge 62, 46, 59, 0, 0, []),
  (.aload_n 0, 49, 0, 0, 0, []),
  (.getfield 81, 50, 12, 34, 0, [2]),
  (.bipush 60, 53, 0, 0, 60, []),
  (.iload_n 1, 55, 1, 0, 0, []),
  (.imul, 56, 0, 0, 0, []),
  (.iload 4, 57, 4, 0, 0, []),
  (.iadd, 59, 0, 0, 0, []),
  (.iaload, 60, 0, 0, 0, []),
  (.istore 5, 61, 5, 0, 0, []),
  (.iload 5, 63, 5, 0, 0, []),
  (.ifCond .lt 24, 65, 49, 0, 0, []),
  (.iload 5, 68, 5, 0, 0, []),
  (.bipush 60, 70, 0, 0, 60, []),
  (.idiv, 72, 0, 0, 0, []),
  (.iload_n 2, 73, 2, 0, 0, []),
  (.if_icmp .eq 15, 74, 49, 0, 0, []),
  (.aload_n 0, 77, 0, 0, 0, []),
  (.getfield 81, 78, 12, 34, 0, [2]),
  (.iload 5, 81, 5, 0, 0, []),
  (.iaload, 83, 0, 0, 0, []),
  (.istore 5, 84, 5, 0, 0, []),
  (.goto (-23), 86, 36, 0, 0, []),
  (.iload_n 3, 89, 3, 0, 0, []),
  (.iload 5, 90, 5, 0, 0, []),
  (.ifCond .lt 7, 92, 54, 0, 0, []),
  (.iconst 1, 95, 0, 0, 1, []),
  (.goto 4, 96, 55, 0, 0, []),
  (.iconst 0, 99, 0, 0, 0, []),
  (.iadd, 100, 0, 0, 0, []),
  (.istore_n 3, 101, 3, 0, 0, []),
  (.iinc 4 1, 102, 4, 0, 1, []),
  (.goto (-67), 105, 21, 0, 0, []),
  (.iload_n 3, 108, 3, 0, 0, []),
  (.ireturn, 109, 0, 0, 0, [])]
/-- 174: Ways_countEndingIn(I)I -/
def kc174 : List In_ := [(.iconst 0, 0, 0, 0, 0, []),
  (.istore_n 2, 1, 2, 0, 0, []),
  (.iconst 0, 2, 0, 0, 0, []),
  (.istore_n 3, 3, 3, 0, 0, []),
  (.iload_n 3, 4, 3, 0, 0, []),
  (.aload_n 0, 5, 0, 0, 0, []),
  (.getfield 19, 6, 8, 0, 0, [2]),
  (.getfield 35, 9, 1, 1, 0, [0]),
  (.if_icmp .ge 53, 12, 32, 0, 0, []),
  (.iconst 0, 15, 0, 0, 0, []),
  (.istore 4, 16, 4, 0, 0, []),
  (.iload 4, 18, 4, 0, 0, []),
  (.aload_n 0, 20, 0, 0, 0, []),
  (.getfield 19, 21, 8, 0, 0, [2]),
  (.getfield 59, 24, 1, 0, 0, [2]),
  (.iload_n 3, 27, 3, 0, 0, []),
  (.aaload, 28, 0, 0, 0, []),
  (.getfield 63, 29, 0, 4, 0, [0]),
  (.if_icmp .ge 27, 32, 30, 0, 0, []),
  (.aload_n 0, 35, 0, 0, 0, []),
  (.iload_n 3, 36, 3, 0, 0, []),
  (.iload 4, 37, 4, 0, 0, []),
  (.invokevirtual 95, 39, 167, 0, 0, [3, 8, 0, 0, 0, 0]),
  (.aload_n 0, 42, 0, 0, 0, []),
  (.getfield 83, 43, 8, 6, 0, [0]),
  (.iload_n 1, 46, 1, 0, 0, []),
  (.if_icmp .ne 6, 47, 28, 0, 0, []),
  (.iinc 2 1, 50, 2, 0, 1, []),
  (.iinc 4 1, 53, 4, 0, 1, []),
  (.goto (-38), 56, 11, 0, 0, []),
  (.iinc 3 1, 59, 3, 0, 1, []),
  (.goto (-58), 62, 4, 0, 0, []),
  (.iload_n 2, 65, 2, 0, 0, []),
  (.ireturn, 66, 0, 0, 0, [])]
/-- 175: BW_sprung(I)I -/
def kc175 : List In_ := [(.aload_n 0, 0, 0, 0, 0, []),
  (.getfield 10, 1, 11, 0, 0, [2]),
  (.iload_n 1, 4, 1, 0, 0, []),
  (.invokevirtual 102, 5, 19, 0, 0, [2, 1, 0, 0, 0, 0]),
  (.ifCond .ne 7, 8, 7, 0, 0, []),
  (.sipush (-1001), 11, 0, 0, (-1001), []),
  (.ireturn, 14, 0, 0, 0, []),
  (.aload_n 0, 15, 0, 0, 0, []),
  (.getfield 69, 16, 11, 7, 0, [2]),
  (.invokevirtual 266, 19, 166, 0, 0, [1, 8, 0, 0, 0, 0]),
  (.aload_n 0, 22, 0, 0, 0, []),
  (.getfield 69, 23, 11, 7, 0, [2]),
  (.iload_n 1, 26, 1, 0, 0, []),
  (.invokevirtual 285, 27, 174, 0, 0, [2, 8, 0, 0, 0, 0]),
  (.ireturn, 30, 0, 0, 0, [])]
/-- 176: Mo_firstOf(I)I -/
def kc176 : List In_ := [(.iload_n 1, 0, 1, 0, 0, []),
  (.istore_n 2, 1, 2, 0, 0, []),
  (.aload_n 0, 2, 0, 0, 0, []),
  (.getfield 81, 3, 12, 34, 0, [2]),
  (.iload_n 2, 6, 2, 0, 0, []),
  (.iaload, 7, 0, 0, 0, []),
  (.ifCond .lt 13, 8, 13, 0, 0, []),
  (.aload_n 0, 11, 0, 0, 0, []),
  (.getfield 81, 12, 12, 34, 0, [2]),
  (.iload_n 2, 15, 2, 0, 0, []),
  (.iaload, 16, 0, 0, 0, []),
  (.istore_n 2, 17, 2, 0, 0, []),
  (.goto (-16), 18, 2, 0, 0, []),
  (.iload_n 2, 21, 2, 0, 0, []),
  (.ireturn, 22, 0, 0, 0, [])]
/-- 177: Mo_sprung(I)I -/
def kc177 : List In_ := [(.aload_n 0, 0, 0, 0, 0, []),
  (.iload_n 1, 1, 1, 0, 0, []),
  (.invokevirtual 114, 2, 24, 0, 0, [2, 12, 0, 0, 0, 0]),
  (.ifCond .ne 7, 5, 6, 0, 0, []),
  (.sipush (-1001), 8, 0, 0, (-1001), []),
  (.ireturn, 11, 0, 0, 0, []),
  (.aload_n 0, 12, 0, 0, 0, []),
  (.invokevirtual 290, 13, 169, 0, 0, [1, 12, 0, 0, 0, 0]),
  (.iconst 0, 16, 0, 0, 0, []),
  (.istore_n 2, 17, 2, 0, 0, []),
  (.iconst 0, 18, 0, 0, 0, []),
  (.istore_n 3, 19, 3, 0, 0, []),
  (.iload_n 3, 20, 3, 0, 0, []),
  (.aload_n 0, 21, 0, 0, 0, []),
  (.getfield 99, 22, 12, 0, 0, [0]),
  (.if_icmp .ge 55, 25, 45, 0, 0, []),
  (.iconst 0, 28, 0, 0, 0, []),
  (.istore 4, 29, 4, 0, 0, []),
  (.iload 4, 31, 4, 0, 0, []),
  (.aload_n 0, 33, 0, 0, 0, []),
  (.getfield 16, 34, 12, 3, 0, [2]),
  (.iload_n 3, 37, 3, 0, 0, []),
  (.iaload, 38, 0, 0, 0, []),
  (.if_icmp .ge 35, 39, 43, 0, 0, []),
  (.iload_n 2, 42, 2, 0, 0, []),
  (.aload_n 0, 43, 0, 0, 0, []),
  (.bipush 60, 44, 0, 0, 60, []),
  (.iload_n 3, 46, 3, 0, 0, []),
  (.imul, 47, 0, 0, 0, []),
  (.iload 4, 48, 4, 0, 0, []),
  (.iadd, 50, 0, 0, 0, []),
  (.invokevirtual 293, 51, 176, 0, 0, [2, 12, 0, 0, 0, 0]),
  (.bipush 60, 54, 0, 0, 60, []),
  (.idiv, 56, 0, 0, 0, []),
  (.iload_n 1, 57, 1, 0, 0, []),
  (.if_icmp .ne 7, 58, 38, 0, 0, []),
  (.iconst 1, 61, 0, 0, 1, []),
  (.goto 4, 62, 39, 0, 0, []),
  (.iconst 0, 65, 0, 0, 0, []),
  (.iadd, 66, 0, 0, 0, []),
  (.istore_n 2, 67, 2, 0, 0, []),
  (.iinc 4 1, 68, 4, 0, 1, []),
  (.goto (-40), 71, 18, 0, 0, []),
  (.iinc 3 1, 74, 3, 0, 1, []),
  (.goto (-57), 77, 12, 0, 0, []),
  (.iload_n 2, 80, 2, 0, 0, []),
  (.ireturn, 81, 0, 0, 0, [])]
/-- 178: BW_isRowSize(I)Z -/
def kc178 : List In_ := [(.iload_n 0, 0, 0, 0, 0, []),
  (.iconst 1, 1, 0, 0, 1, []),
  (.if_icmp .lt 12, 2, 8, 0, 0, []),
  (.iload_n 0, 5, 0, 0, 0, []),
  (.iconst 5, 6, 0, 0, 5, []),
  (.if_icmp .gt 7, 7, 8, 0, 0, []),
  (.iconst 1, 10, 0, 0, 1, []),
  (.goto 4, 11, 9, 0, 0, []),
  (.iconst 0, 14, 0, 0, 0, []),
  (.ireturn, 15, 1, 0, 0, [])]
/-- 179: RowTable_insert(IJ)V -/
def kc179 : List In_ := [(.aload_n 0, 0, 0, 0, 0, []),
  (.getfield 11, 1, 9, 1, 0, [2]),
  (.iload_n 1, 4, 1, 0, 0, []),
  (.aaload, 5, 0, 0, 0, []),
  (.astore 4, 6, 4, 0, 0, []),
  (.aload_n 0, 8, 0, 0, 0, []),
  (.getfield 16, 9, 9, 2, 0, [2]),
  (.iload_n 1, 12, 1, 0, 0, []),
  (.iaload, 13, 0, 0, 0, []),
  (.istore 5, 14, 5, 0, 0, []),
  (.iload 5, 16, 5, 0, 0, []),
  (.ifCond .le 21, 18, 22, 0, 0, []),
  (.aload 4, 21, 4, 0, 0, []),
  (.iload 5, 23, 5, 0, 0, []),
  (.iconst 1, 25, 0, 0, 1, []),
  (.isub, 26, 0, 0, 0, []),
  (.laload, 27, 0, 0, 0, []),
  (.lload_n 2, 28, 2, 0, 0, []),
  (.lcmp, 29, 0, 0, 0, []),
  (.ifCond .le 9, 30, 22, 0, 0, []),
  (.iinc 5 (-1), 33, 5, 0, (-1), []),
  (.goto (-20), 36, 10, 0, 0, []),
  (.iload 5, 39, 5, 0, 0, []),
  (.ifCond .le 19, 41, 34, 0, 0, []),
  (.aload 4, 44, 4, 0, 0, []),
  (.iload 5, 46, 5, 0, 0, []),
  (.iconst 1, 48, 0, 0, 1, []),
  (.isub, 49, 0, 0, 0, []),
  (.laload, 50, 0, 0, 0, []),
  (.lload_n 2, 51, 2, 0, 0, []),
  (.lcmp, 52, 0, 0, 0, []),
  (.ifCond .ne 7, 53, 34, 0, 0, []),
  (.iconst 1, 56, 0, 0, 1, []),
  (.goto 4, 57, 35, 0, 0, []),
  (.iconst 0, 60, 0, 0, 0, []),
  (.istore 6, 61, 6, 0, 0, []),
  (.iload 6, 63, 6, 0, 0, []),
  (.ifCond .ne 14, 65, 44, 0, 0, []),
  (.aload_n 0, 68, 0, 0, 0, []),
  (.getfield 16, 69, 9, 2, 0, [2]),
  (.iload_n 1, 72, 1, 0, 0, []),
  (.iaload, 73, 0, 0, 0, []),
  (.bipush 60, 74, 0, 0, 60, []),
  (.if_icmp .lt 4, 76, 45, 0, 0, []),
  (.return_, 79, 0, 0, 0, []),
  (.aload_n 0, 80, 0, 0, 0, []),
  (.getfield 16, 81, 9, 2, 0, [2]),
  (.iload_n 1, 84, 1, 0, 0, []),
  (.iaload, 85, 0, 0, 0, []),
  (.istore 7, 86, 7, 0, 0, []),
  (.iload 7, 88, 7, 0, 0, []),
  (.iload 5, 90, 5, 0, 0, []),
  (.if_icmp .le 21, 92, 63, 0, 0, []),
  (.aload 4, 95, 4, 0, 0, []),
  (.iload 7, 97, 7, 0, 0, []),
  (.aload 4, 99, 4, 0, 0, []),
  (.iload 7, 101, 7, 0, 0, []),
  (.iconst 1, 103, 0, 0, 1, []),
  (.isub, 104, 0, 0, 0, []),
  (.laload, 105, 0, 0, 0, []),
  (.lastore, 106, 0, 0, 0, []),
  (.iinc 7 (-1), 107, 7, 0, (-1), []),
  (.goto (-22), 110, 50, 0, 0, []),
  (.aload 4, 113, 4, 0, 0, []),
  (.iload 5, 115, 5, 0, 0, []),
  (.lload_n 2, 117, 2, 0, 0, []),
  (.lastore, 118, 0, 0, 0, []),
  (.aload_n 0, 119, 0, 0, 0, []),
  (.getfield 16, 120, 9, 2, 0, [2]),
  (.iload_n 1, 123, 1, 0, 0, []),
  (.dup2, 124, 0, 0, 0, []),
  (.iaload, 125, 0, 0, 0, []),
  (.iconst 1, 126, 0, 0, 1, []),
  (.iadd, 127, 0, 0, 0, []),
  (.iastore, 128, 0, 0, 0, []),
  (.return_, 129, 0, 0, 0, [])]
/-- 180: RowTable_fill(II)V -/
def kc180 : List In_ := [(.aload_n 0, 0, 0, 0, 0, []),
  (.getfield 23, 1, 9, 0, 0, [2]),
  (.getfield 27, 4, 1, 0, 0, [2]),
  (.iload_n 1, 7, 1, 0, 0, []),
  (.aaload, 8, 0, 0, 0, []),
  (.astore_n 3, 9, 3, 0, 0, []),
  (.aload_n 0, 10, 0, 0, 0, []),
  (.getfield 16, 11, 9, 2, 0, [2]),
  (.iload_n 1, 14, 1, 0, 0, []),
  (.iconst 0, 15, 0, 0, 0, []),
  (.iastore, 16, 0, 0, 0, []),
  (.iconst 0, 17, 0, 0, 0, []),
  (.istore 4, 18, 4, 0, 0, []),
  (.iload 4, 20, 4, 0, 0, []),
  (.iload_n 2, 22, 2, 0, 0, []),
  (.iadd, 23, 0, 0, 0, []),
  (.aload_n 3, 24, 3, 0, 0, []),
  (.getfield 33, 25, 0, 4, 0, [0]),
  (.if_icmp .gt 54, 28, 46, 0, 0, []),
  (.lconst 0, 31, 0, 0, 0, []),
  (.lstore 5, 32, 5, 0, 0, []),
  (.iconst 0, 34, 0, 0, 0, []),
  (.istore 7, 35, 7, 0, 0, []),
  (.iload 7, 37, 7, 0, 0, []),
  (.iload_n 2, 39, 2, 0, 0, []),
  (.if_icmp .ge 29, 40, 40, 0, 0, []),
  (.lload 5, 43, 5, 0, 0, []),
  (.ldc2_w 39, 45, 0, 0, 201, []),
  (.lmul, 48, 0, 0, 0, []),
  (.aload_n 3, 49, 3, 0, 0, []),
  (.getfield 41, 50, 0, 0, 0, [2]),
  (.iload 4, 53, 4, 0, 0, []),
  (.iload 7, 55, 7, 0, 0, []),
  (.iadd, 57, 0, 0, 0, []),
  (.iaload, 58, 0, 0, 0, []),
  (.i2l, 59, 0, 0, 0, []),
  (.ladd, 60, 0, 0, 0, []),
  (.lstore 5, 61, 5, 0, 0, []),
  (.iinc 7 1, 63, 7, 0, 1, []),
  (.goto (-29), 66, 23, 0, 0, []),
  (.aload_n 0, 69, 0, 0, 0, []),
  (.iload_n 1, 70, 1, 0, 0, []),
  (.lload 5, 71, 5, 0, 0, []),
  (.invokevirtual 44, 73, 179, 0, 0, [3, 9, 0, 0, 0, 0]),
  (.iinc 4 1, 76, 4, 0, 1, []),
  (.goto (-59), 79, 13, 0, 0, []),
  (.return_, 82, 0, 0, 0, [])]
/-- 181: BW_rows(II)I -/
def kc181 : List In_ := [(.aload_n 0, 0, 0, 0, 0, []),
  (.getfield 10, 1, 11, 0, 0, [2]),
  (.iload_n 1, 4, 1, 0, 0, []),
  (.invokevirtual 102, 5, 19, 0, 0, [2, 1, 0, 0, 0, 0]),
  (.ifCond .ne 7, 8, 7, 0, 0, []),
  (.sipush (-1001), 11, 0, 0, (-1001), []),
  (.ireturn, 14, 0, 0, 0, []),
  (.iload_n 2, 15, 2, 0, 0, []),
  (.invokestatic 288, 16, 178, 0, 0, [1, 0, 0, 0, 0]),
  (.ifCond .ne 7, 19, 12, 0, 0, []),
  (.sipush (-1002), 22, 0, 0, (-1002), []),
  (.ireturn, 25, 0, 0, 0, []),
  (.aload_n 0, 26, 0, 0, 0, []),
  (.getfield 76, 27, 11, 8, 0, [2]),
  (.iload_n 1, 30, 1, 0, 0, []),
  (.iload_n 2, 31, 2, 0, 0, []),
  (.invokevirtual 291, 32, 180, 0, 0, [3, 9, 0, 0, 0, 0]),
  (.aload_n 0, 35, 0, 0, 0, []),
  (.getfield 76, 36, 11, 8, 0, [2]),
  (.getfield 294, 39, 9, 2, 0, [2]),
  (.iload_n 1, 42, 1, 0, 0, []),
  (.iaload, 43, 0, 0, 0, []),
  (.ireturn, 44, 0, 0, 0, [])]
/-- 182: Mo_isSameRow(IIIII)Z -/
def kc182 : List In_ := [(.iconst 1, 0, 0, 0, 1, []),
  (.istore 6, 1, 6, 0, 0, []),
  (.iconst 0, 3, 0, 0, 0, []),
  (.istore 7, 4, 7, 0, 0, []),
  (.iload 7, 6, 7, 0, 0, []),
  (.iload 5, 8, 5, 0, 0, []),
  (.if_icmp .ge 43, 10, 28, 0, 0, []),
  (.iload 6, 13, 6, 0, 0, []),
  (.ifCond .eq 38, 15, 28, 0, 0, []),
  (.aload_n 0, 18, 0, 0, 0, []),
  (.iload_n 1, 19, 1, 0, 0, []),
  (.iload_n 2, 20, 2, 0, 0, []),
  (.iload 7, 21, 7, 0, 0, []),
  (.iadd, 23, 0, 0, 0, []),
  (.invokevirtual 128, 24, 36, 0, 0, [3, 12, 0, 0, 0, 0]),
  (.aload_n 0, 27, 0, 0, 0, []),
  (.iload_n 3, 28, 3, 0, 0, []),
  (.iload 4, 29, 4, 0, 0, []),
  (.iload 7, 31, 7, 0, 0, []),
  (.iadd, 33, 0, 0, 0, []),
  (.invokevirtual 128, 34, 36, 0, 0, [3, 12, 0, 0, 0, 0]),
  (.if_icmp .ne 7, 37, 24, 0, 0, []),
  (.iconst 1, 40, 0, 0, 1, []),
  (.goto 4, 41, 25, 0, 0, []),
  (.iconst 0, 44, 0, 0, 0, []),
  (.istore 6, 45, 6, 0, 0, []),
  (.iinc 7 1, 47, 7, 0, 1, []),
  (.goto (-44), 50, 4, 0, 0, []),
  (.iload 6, 53, 6, 0, 0, []),
  (.ireturn, 55, 1, 0, 0, [])]
/-- 183: Mo_hasRow(IIIII)Z -/
def kc183 : List In_ := [(.iconst 0, 0, 0, 0, 0, []),
  (.istore 6, 1, 6, 0, 0, []),
  (.iconst 0, 3, 0, 0, 0, []),
  (.istore 7, 4, 7, 0, 0, []),
  (.iload 7, 6, 7, 0, 0, []),
  (.iload 4, 8, 4, 0, 0, []),
  (.if_icmp .ge 41, 10, 27, 0, 0, []),
  (.iload 7, 13, 7, 0, 0, []),
  (.iload 5, 15, 5, 0, 0, []),
  (.iadd, 17, 0, 0, 0, []),
  (.aload_n 0, 18, 0, 0, 0, []),
  (.getfield 16, 19, 12, 3, 0, [2]),
  (.iload_n 3, 22, 3, 0, 0, []),
  (.iaload, 23, 0, 0, 0, []),
  (.if_icmp .gt 27, 24, 27, 0, 0, []),
  (.iload 6, 27, 6, 0, 0, []),
  (.ifCond .ne 22, 29, 27, 0, 0, []),
  (.aload_n 0, 32, 0, 0, 0, []),
  (.iload_n 1, 33, 1, 0, 0, []),
  (.iload_n 2, 34, 2, 0, 0, []),
  (.iload_n 3, 35, 3, 0, 0, []),
  (.iload 7, 36, 7, 0, 0, []),
  (.iload 5, 38, 5, 0, 0, []),
  (.invokevirtual 296, 40, 182, 0, 0, [6, 12, 0, 0, 0, 0]),
  (.istore 6, 43, 6, 0, 0, []),
  (.iinc 7 1, 45, 7, 0, 1, []),
  (.goto (-42), 48, 4, 0, 0, []),
  (.iload 6, 51, 6, 0, 0, []),
  (.ireturn, 53, 1, 0, 0, [])]
/-- 184: Mo_rowsOf(II)I -/
def kc184 : List In_ := [(.iconst 0, 0, 0, 0, 0, []),
  (.istore_n 3, 1, 3, 0, 0, []),
  (.iconst 0, 2, 0, 0, 0, []),
  (.istore 4, 3, 4, 0, 0, []),
  (.iload 4, 5, 4, 0, 0, []),
  (.iload_n 2, 7, 2, 0, 0, []),
  (.iadd, 8, 0, 0, 0, []),
  (.aload_n 0, 9, 0, 0, 0, []),
  (.getfield 16, 10, 12, 3, 0, [2]),
  (.iload_n 1, 13, 1, 0, 0, []),
  (.iaload, 14, 0, 0, 0, []),
  (.if_icmp .gt 31, 15, 28, 0, 0, []),
  (.iload_n 3, 18, 3, 0, 0, []),
  (.aload_n 0, 19, 0, 0, 0, []),
  (.iload_n 1, 20, 1, 0, 0, []),
  (.iload 4, 21, 4, 0, 0, []),
  (.iload_n 1, 23, 1, 0, 0, []),
  (.iload 4, 24, 4, 0, 0, []),
  (.iload_n 2, 26, 2, 0, 0, []),
  (.invokevirtual 299, 27, 183, 0, 0, [6, 12, 0, 0, 0, 0]),
  (.ifCond .eq 7, 30, 23, 0, 0, []),
  (.iconst 0, 33, 0, 0, 0, []),
  (.goto 4, 34, 24, 0, 0, []),
  (.iconst 1, 37, 0, 0, 1, []),
  (.iadd, 38, 0, 0, 0, []),
  (.istore_n 3, 39, 3, 0, 0, []),
  (.iinc 4 1, 40, 4, 0, 1, []),
  (.goto (-38), 43, 4, 0, 0, []),
  (.iload_n 3, 46, 3, 0, 0, []),
  (.ireturn, 47, 0, 0, 0, [])]
/-- 185: Mo_rows(II)I -/
def kc185 : List In_ := [(.aload_n 0, 0, 0, 0, 0, []),
  (.iload_n 1, 1, 1, 0, 0, []),
  (.invokevirtual 114, 2, 24, 0, 0, [2, 12, 0, 0, 0, 0]),
  (.ifCond .ne 7, 5, 6, 0, 0, []),
  (.sipush (-1001), 8, 0, 0, (-1001), []),
  (.ireturn, 11, 0, 0, 0, []),
  (.iload_n 2, 12, 2, 0, 0, []),
  (.i2l, 13, 0, 0, 0, []),
  (.lconst 1, 14, 0, 0, 1, []),
  (.ldc2_w 302, 15, 0, 0, 5, []),
  (.invokestatic 102, 18, 17, 0, 0, [3, 0, 0, 0, 0]),
  (.ifCond .eq 12, 21, 17, 0, 0, []),
  (.aload_n 0, 24, 0, 0, 0, []),
  (.iload_n 1, 25, 1, 0, 0, []),
  (.iload_n 2, 26, 2, 0, 0, []),
  (.invokevirtual 304, 27, 184, 0, 0, [3, 12, 0, 0, 0, 0]),
  (.goto 6, 30, 18, 0, 0, []),
  (.sipush (-1002), 33, 0, 0, (-1002), []),
  (.ireturn, 36, 0, 0, 0, [])]
/-- 186: RowTable_countInBoth(II)I -/
def kc186 : List In_ := [(.iconst 0, 0, 0, 0, 0, []),
  (.istore_n 3, 1, 3, 0, 0, []),
  (.iconst 0, 2, 0, 0, 0, []),
  (.istore 4, 3, 4, 0, 0, []),
  (.iconst 0, 5, 0, 0, 0, []),
  (.istore 5, 6, 5, 0, 0, []),
  (.iload 5, 8, 5, 0, 0, []),
  (.aload_n 0, 10, 0, 0, 0, []),
  (.getfield 16, 11, 9, 2, 0, [2]),
  (.iload_n 1, 14, 1, 0, 0, []),
  (.iaload, 15, 0, 0, 0, []),
  (.if_icmp .ge 84, 16, 57, 0, 0, []),
  (.iload 4, 19, 4, 0, 0, []),
  (.aload_n 0, 21, 0, 0, 0, []),
  (.getfield 16, 22, 9, 2, 0, [2]),
  (.iload_n 2, 25, 2, 0, 0, []),
  (.iaload, 26, 0, 0, 0, []),
  (.if_icmp .ge 31, 27, 34, 0, 0, []),
  (.aload_n 0, 30, 0, 0, 0, []),
  (.getfield 11, 31, 9, 1, 0, [2]),
  (.iload_n 2, 34, 2, 0, 0, []),
  (.aaload, 35, 0, 0, 0, []),
  (.iload 4, 36, 4, 0, 0, []),
  (.laload, 38, 0, 0, 0, []),
  (.aload_n 0, 39, 0, 0, 0, []),
  (.getfield 11, 40, 9, 1, 0, [2]),
  (.iload_n 1, 43, 1, 0, 0, []),
  (.aaload, 44, 0, 0, 0, []),
  (.iload 5, 45, 5, 0, 0, []),
  (.laload, 47, 0, 0, 0, []),
  (.lcmp, 48, 0, 0, 0, []),
  (.ifCond .ge 9, 49, 34, 0, 0, []),
  (.iinc 4 1, 52, 4, 0, 1, []),
  (.goto (-36), 55, 12, 0, 0, []),
  (.iload 4, 58, 4, 0, 0, []),
  (.aload_n 0, 60, 0, 0, 0, []),
  (.getfield 16, 61, 9, 2, 0, [2]),
  (.iload_n 2, 64, 2, 0, 0, []),
  (.iaload, 65, 0, 0, 0, []),
  (.if_icmp .ge 28, 66, 55, 0, 0, []),
  (.aload_n 0, 69, 0, 0, 0, []),
  (.getfield 11, 70, 9, 1, 0, [2]),
  (.iload_n 2, 73, 2, 0, 0, []),
  (.aaload, 74, 0, 0, 0, []),
  (.iload 4, 75, 4, 0, 0, []),
  (.laload, 77, 0, 0, 0, []),
  (.aload_n 0, 78, 0, 0, 0, []),
  (.getfield 11, 79, 9, 1, 0, [2]),
  (.iload_n 1, 82, 1, 0, 0, []),
  (.aaload, 83, 0, 0, 0, []),
  (.iload 5, 84, 5, 0, 0, []),
  (.laload, 86, 0, 0, 0, []),
  (.lcmp, 87, 0, 0, 0, []),
  (.ifCond .ne 6, 88, 55, 0, 0, []),
  (.iinc 3 1, 91, 3, 0, 1, []),
  (.iinc 5 1, 94, 5, 0, 1, []),
  (.goto (-89), 97, 6, 0, 0, []),
  (.iload_n 3, 100, 3, 0, 0, []),
  (.ireturn, 101, 0, 0, 0, [])]
/-- 187: RowTable_commonDivisor(II)I -/
def kc187 : List In_ := [(.iload_n 0, 0, 0, 0, 0, []),
  (.istore_n 2, 1, 2, 0, 0, []),
  (.iload_n 1, 2, 1, 0, 0, []),
  (.istore_n 3, 3, 3, 0, 0, []),
  (.iconst 0, 4, 0, 0, 0, []),
  (.istore 4, 5, 4, 0, 0, []),
  (.iload 4, 7, 4, 0, 0, []),
  (.sipush 1000, 9, 0, 0, 1000, []),
  (.if_icmp .ge 23, 12, 21, 0, 0, []),
  (.iload_n 3, 15, 3, 0, 0, []),
  (.ifCond .le 19, 16, 21, 0, 0, []),
  (.iload_n 2, 19, 2, 0, 0, []),
  (.iload_n 3, 20, 3, 0, 0, []),
  (.irem, 21, 0, 0, 0, []),
  (.istore 5, 22, 5, 0, 0, []),
  (.iload_n 3, 24, 3, 0, 0, []),
  (.istore_n 2, 25, 2, 0, 0, []),
  (.iload 5, 26, 5, 0, 0, []),
  (.istore_n 3, 28, 3, 0, 0, []),
  (.iinc 4 1, 29, 4, 0, 1, []),
  (.goto (-25), 32, 6, 0, 0, []),
  (.iload_n 2, 35, 2, 0, 0, []),
  (.ireturn, 36, 0, 0, 0, [])]
/-- 188: RowTable_compare(II)V -/
def kc188 : List In_ := [(.aload_n 0, 0, 0, 0, 0, []),
  (.iload_n 1, 1, 1, 0, 0, []),
  (.iload_n 2, 2, 2, 0, 0, []),
  (.invokevirtual 53, 3, 186, 0, 0, [3, 9, 0, 0, 0, 0]),
  (.istore_n 3, 6, 3, 0, 0, []),
  (.aload_n 0, 7, 0, 0, 0, []),
  (.getfield 16, 8, 9, 2, 0, [2]),
  (.iload_n 1, 11, 1, 0, 0, []),
  (.iaload, 12, 0, 0, 0, []),
  (.aload_n 0, 13, 0, 0, 0, []),
  (.getfield 16, 14, 9, 2, 0, [2]),
  (.iload_n 2, 17, 2, 0, 0, []),
  (.iaload, 18, 0, 0, 0, []),
  (.iadd, 19, 0, 0, 0, []),
  (.iload_n 3, 20, 3, 0, 0, []),
  (.isub, 21, 0, 0, 0, []),
  (.istore 4, 22, 4, 0, 0, []),
  (.iload 4, 24, 4, 0, 0, []),
  (.iload_n 3, 26, 3, 0, 0, []),
  (.invokestatic 57, 27, 187, 0, 0, [2, 0, 0, 0, 0]),
  (.istore 5, 30, 5, 0, 0, []),
  (.aload_n 0, 32, 0, 0, 0, []),
  (.iload 5, 33, 5, 0, 0, []),
  (.ifCond .ne 7, 35, 26, 0, 0, []),
  (.iconst 0, 38, 0, 0, 0, []),
  (.goto 7, 39, 29, 0, 0, []),
  (.iload_n 3, 42, 3, 0, 0, []),
  (.iload 5, 43, 5, 0, 0, []),
  (.idiv, 45, 0, 0, 0, []),
  (.putfield 60, 46, 9, 4, 0, [0]),
  (.aload_n 0, 49, 0, 0, 0, []),
  (.iload 5, 50, 5, 0, 0, []),
  (.ifCond .ne 7, 52, 35, 0, 0, []),
  (.iconst 1, 55, 0, 0, 1, []),
  (.goto 8, 56, 38, 0, 0, []),
  (.iload 4, 59, 4, 0, 0, []),
  (.iload 5, 61, 5, 0, 0, []),
  (.idiv, 63, 0, 0, 0, []),
  (.putfield 63, 64, 9, 5, 0, [0]),
  (.return_, 67, 0, 0, 0, [])]
/-- 189: BW_likeness(IIII)I -/
def kc189 : List In_ := [(.aload_n 0, 0, 0, 0, 0, []),
  (.getfield 10, 1, 11, 0, 0, [2]),
  (.iload_n 1, 4, 1, 0, 0, []),
  (.invokevirtual 102, 5, 19, 0, 0, [2, 1, 0, 0, 0, 0]),
  (.ifCond .eq 14, 8, 10, 0, 0, []),
  (.aload_n 0, 11, 0, 0, 0, []),
  (.getfield 10, 12, 11, 0, 0, [2]),
  (.iload_n 2, 15, 2, 0, 0, []),
  (.invokevirtual 102, 16, 19, 0, 0, [2, 1, 0, 0, 0, 0]),
  (.ifCond .ne 7, 19, 12, 0, 0, []),
  (.sipush (-1001), 22, 0, 0, (-1001), []),
  (.ireturn, 25, 0, 0, 0, []),
  (.iload_n 3, 26, 3, 0, 0, []),
  (.invokestatic 288, 27, 178, 0, 0, [1, 0, 0, 0, 0]),
  (.ifCond .eq 14, 30, 20, 0, 0, []),
  (.iload 4, 33, 4, 0, 0, []),
  (.ifCond .lt 9, 35, 20, 0, 0, []),
  (.iload 4, 38, 4, 0, 0, []),
  (.iconst 1, 40, 0, 0, 1, []),
  (.if_icmp .le 7, 41, 22, 0, 0, []),
  (.sipush (-1002), 44, 0, 0, (-1002), []),
  (.ireturn, 47, 0, 0, 0, []),
  (.aload_n 0, 48, 0, 0, 0, []),
  (.getfield 76, 49, 11, 8, 0, [2]),
  (.iload_n 1, 52, 1, 0, 0, []),
  (.iload_n 3, 53, 3, 0, 0, []),
  (.invokevirtual 291, 54, 180, 0, 0, [3, 9, 0, 0, 0, 0]),
  (.aload_n 0, 57, 0, 0, 0, []),
  (.getfield 76, 58, 11, 8, 0, [2]),
  (.iload_n 2, 61, 2, 0, 0, []),
  (.iload_n 3, 62, 3, 0, 0, []),
  (.invokevirtual 291, 63, 180, 0, 0, [3, 9, 0, 0, 0, 0]),
  (.aload_n 0, 66, 0, 0, 0, []),
  (.getfield 76, 67, 11, 8, 0, [2]),
  (.iload_n 1, 70, 1, 0, 0, []),
  (.iload_n 2, 71, 2, 0, 0, []),
  (.invokevirtual 295, 72, 188, 0, 0, [3, 9, 0, 0, 0, 0]),
  (.iload 4, 75, 4, 0, 0, []),
  (.ifCond .ne 13, 77, 43, 0, 0, []),
  (.aload_n 0, 80, 0, 0, 0, []),
  (.getfield 76, 81, 11, 8, 0, [2]),
  (.getfield 298, 84, 9, 4, 0, [0]),
  (.goto 10, 87, 46, 0, 0, []),
  (.aload_n 0, 90, 0, 0, 0, []),
  (.getfield 76, 91, 11, 8, 0, [2]),
  (.getfield 301, 94, 9, 5, 0, [0]),
  (.ireturn, 97, 0, 0, 0, [])]
/-- 190: Mo_common2(III)I -/
def kc190 : List In_ := [(.iconst 0, 0, 0, 0, 0, []),
  (.istore 4, 1, 4, 0, 0, []),
  (.iconst 0, 3, 0, 0, 0, []),
  (.istore 5, 4, 5, 0, 0, []),
  (.iload 5, 6, 5, 0, 0, []),
  (.iload_n 3, 8, 3, 0, 0, []),
  (.iadd, 9, 0, 0, 0, []),
  (.aload_n 0, 10, 0, 0, 0, []),
  (.getfield 16, 11, 12, 3, 0, [2]),
  (.iload_n 1, 14, 1, 0, 0, []),
  (.iaload, 15, 0, 0, 0, []),
  (.if_icmp .gt 47, 16, 36, 0, 0, []),
  (.iload 4, 19, 4, 0, 0, []),
  (.aload_n 0, 21, 0, 0, 0, []),
  (.iload_n 1, 22, 1, 0, 0, []),
  (.iload 5, 23, 5, 0, 0, []),
  (.iload_n 1, 25, 1, 0, 0, []),
  (.iload 5, 26, 5, 0, 0, []),
  (.iload_n 3, 28, 3, 0, 0, []),
  (.invokevirtual 299, 29, 183, 0, 0, [6, 12, 0, 0, 0, 0]),
  (.ifCond .ne 21, 32, 31, 0, 0, []),
  (.aload_n 0, 35, 0, 0, 0, []),
  (.iload_n 1, 36, 1, 0, 0, []),
  (.iload 5, 37, 5, 0, 0, []),
  (.iload_n 2, 39, 2, 0, 0, []),
  (.bipush 60, 40, 0, 0, 60, []),
  (.iload_n 3, 42, 3, 0, 0, []),
  (.invokevirtual 299, 43, 183, 0, 0, [6, 12, 0, 0, 0, 0]),
  (.ifCond .eq 7, 46, 31, 0, 0, []),
  (.iconst 1, 49, 0, 0, 1, []),
  (.goto 4, 50, 32, 0, 0, []),
  (.iconst 0, 53, 0, 0, 0, []),
  (.iadd, 54, 0, 0, 0, []),
  (.istore 4, 55, 4, 0, 0, []),
  (.iinc 5 1, 57, 5, 0, 1, []),
  (.goto (-54), 60, 4, 0, 0, []),
  (.iload 4, 63, 4, 0, 0, []),
  (.ireturn, 65, 0, 0, 0, [])]
/-- 191: Mo_liken(III)V -/
def kc191 : List In_ := [(.aload_n 0, 0, 0, 0, 0, []),
  (.aload_n 0, 1, 0, 0, 0, []),
  (.iload_n 1, 2, 1, 0, 0, []),
  (.iload_n 2, 3, 2, 0, 0, []),
  (.iload_n 3, 4, 3, 0, 0, []),
  (.invokevirtual 307, 5, 190, 0, 0, [4, 12, 0, 0, 0, 0]),
  (.putfield 310, 8, 12, 35, 0, [0]),
  (.aload_n 0, 11, 0, 0, 0, []),
  (.aload_n 0, 12, 0, 0, 0, []),
  (.iload_n 1, 13, 1, 0, 0, []),
  (.iload_n 3, 14, 3, 0, 0, []),
  (.invokevirtual 304, 15, 184, 0, 0, [3, 12, 0, 0, 0, 0]),
  (.aload_n 0, 18, 0, 0, 0, []),
  (.iload_n 2, 19, 2, 0, 0, []),
  (.iload_n 3, 20, 3, 0, 0, []),
  (.invokevirtual 304, 21, 184, 0, 0, [3, 12, 0, 0, 0, 0]),
  (.iadd, 24, 0, 0, 0, []),
  (.aload_n 0, 25, 0, 0, 0, []),
  (.getfield 310, 26, 12, 35, 0, [0]),
  (.isub, 29, 0, 0, 0, []),
  (.putfield 313, 30, 12, 36, 0, [0]),
  (.aload_n 0, 33, 0, 0, 0, []),
  (.aload_n 0, 34, 0, 0, 0, []),
  (.getfield 313, 35, 12, 36, 0, [0]),
  (.ifCond .ne 7, 38, 27, 0, 0, []),
  (.iconst 1, 41, 0, 0, 1, []),
  (.goto 7, 42, 29, 0, 0, []),
  (.aload_n 0, 45, 0, 0, 0, []),
  (.getfield 313, 46, 12, 36, 0, [0]),
  (.putfield 313, 49, 12, 36, 0, [0]),
  (.return_, 52, 0, 0, 0, [])]
/-- 192: Mo_gcd(II)I -/
def kc192 : List In_ := [(.iload_n 0, 0, 0, 0, 0, []),
  (.istore_n 2, 1, 2, 0, 0, []),
  (.iload_n 1, 2, 1, 0, 0, []),
  (.istore_n 3, 3, 3, 0, 0, []),
  (.iload_n 3, 4, 3, 0, 0, []),
  (.ifCond .eq 16, 5, 15, 0, 0, []),
  (.iload_n 2, 8, 2, 0, 0, []),
  (.iload_n 3, 9, 3, 0, 0, []),
  (.irem, 10, 0, 0, 0, []),
  (.istore 4, 11, 4, 0, 0, []),
  (.iload_n 3, 13, 3, 0, 0, []),
  (.istore_n 2, 14, 2, 0, 0, []),
  (.iload 4, 15, 4, 0, 0, []),
  (.istore_n 3, 17, 3, 0, 0, []),
  (.goto (-14), 18, 4, 0, 0, []),
  (.iload_n 2, 21, 2, 0, 0, []),
  (.ireturn, 22, 0, 0, 0, [])]
/-- 193: Mo_likeness(IIII)I -/
def kc193 : List In_ := [(.aload_n 0, 0, 0, 0, 0, []),
  (.iload_n 1, 1, 1, 0, 0, []),
  (.invokevirtual 114, 2, 24, 0, 0, [2, 12, 0, 0, 0, 0]),
  (.ifCond .eq 11, 5, 8, 0, 0, []),
  (.aload_n 0, 8, 0, 0, 0, []),
  (.iload_n 2, 9, 2, 0, 0, []),
  (.invokevirtual 114, 10, 24, 0, 0, [2, 12, 0, 0, 0, 0]),
  (.ifCond .ne 7, 13, 10, 0, 0, []),
  (.sipush (-1001), 16, 0, 0, (-1001), []),
  (.ireturn, 19, 0, 0, 0, []),
  (.iload_n 3, 20, 3, 0, 0, []),
  (.i2l, 21, 0, 0, 0, []),
  (.lconst 1, 22, 0, 0, 1, []),
  (.ldc2_w 302, 23, 0, 0, 5, []),
  (.invokestatic 102, 26, 17, 0, 0, [3, 0, 0, 0, 0]),
  (.ifCond .eq 14, 29, 22, 0, 0, []),
  (.iload 4, 32, 4, 0, 0, []),
  (.i2l, 34, 0, 0, 0, []),
  (.lconst 0, 35, 0, 0, 0, []),
  (.lconst 1, 36, 0, 0, 1, []),
  (.invokestatic 102, 37, 17, 0, 0, [3, 0, 0, 0, 0]),
  (.ifCond .ne 7, 40, 24, 0, 0, []),
  (.sipush (-1002), 43, 0, 0, (-1002), []),
  (.ireturn, 46, 0, 0, 0, []),
  (.aload_n 0, 47, 0, 0, 0, []),
  (.iload_n 1, 48, 1, 0, 0, []),
  (.iload_n 2, 49, 2, 0, 0, []),
  (.iload_n 3, 50, 3, 0, 0, []),
  (.invokevirtual 316, 51, 191, 0, 0, [4, 12, 0, 0, 0, 0]),
  (.aload_n 0, 54, 0, 0, 0, []),
  (.getfield 310, 55, 12, 35, 0, [0]),
  (.aload_n 0, 58, 0, 0, 0, []),
  (.getfield 313, 59, 12, 36, 0, [0]),
  (.invokestatic 320, 62, 192, 0, 0, [2, 0, 0, 0, 0]),
  (.istore 5, 65, 5, 0, 0, []),
  (.iload 4, 67, 4, 0, 0, []),
  (.ifCond .ne 13, 69, 42, 0, 0, []),
  (.aload_n 0, 72, 0, 0, 0, []),
  (.getfield 310, 73, 12, 35, 0, [0]),
  (.iload 5, 76, 5, 0, 0, []),
  (.idiv, 78, 0, 0, 0, []),
  (.goto 10, 79, 46, 0, 0, []),
  (.aload_n 0, 82, 0, 0, 0, []),
  (.getfield 313, 83, 12, 36, 0, [0]),
  (.iload 5, 86, 5, 0, 0, []),
  (.idiv, 88, 0, 0, 0, []),
  (.ireturn, 89, 0, 0, 0, [])]
/-- 194: RowTable_fillAll(I)V -/
def kc194 : List In_ := [(.iconst 0, 0, 0, 0, 0, []),
  (.istore_n 2, 1, 2, 0, 0, []),
  (.iload_n 2, 2, 2, 0, 0, []),
  (.aload_n 0, 3, 0, 0, 0, []),
  (.getfield 23, 4, 9, 0, 0, [2]),
  (.getfield 48, 7, 1, 1, 0, [0]),
  (.if_icmp .ge 15, 10, 13, 0, 0, []),
  (.aload_n 0, 13, 0, 0, 0, []),
  (.iload_n 2, 14, 2, 0, 0, []),
  (.iload_n 1, 15, 1, 0, 0, []),
  (.invokevirtual 49, 16, 180, 0, 0, [3, 9, 0, 0, 0, 0]),
  (.iinc 2 1, 19, 2, 0, 1, []),
  (.goto (-20), 22, 2, 0, 0, []),
  (.return_, 25, 0, 0, 0, [])]
/-- 195: RowTable_likestTo(II)I -/
def kc195 : List In_ := [(.aload_n 0, 0, 0, 0, 0, []),
  (.iload_n 2, 1, 2, 0, 0, []),
  (.invokevirtual 66, 2, 194, 0, 0, [2, 9, 0, 0, 0, 0]),
  (.iconst (-1), 5, 0, 0, (-1), []),
  (.istore_n 3, 6, 3, 0, 0, []),
  (.iconst 0, 7, 0, 0, 0, []),
  (.istore 4, 8, 4, 0, 0, []),
  (.iconst 1, 10, 0, 0, 1, []),
  (.istore 5, 11, 5, 0, 0, []),
  (.iconst 0, 13, 0, 0, 0, []),
  (.istore 6, 14, 6, 0, 0, []),
  (.iload 6, 16, 6, 0, 0, []),
  (.aload_n 0, 18, 0, 0, 0, []),
  (.getfield 23, 19, 9, 0, 0, [2]),
  (.getfield 48, 22, 1, 1, 0, [0]),
  (.if_icmp .ge 62, 25, 46, 0, 0, []),
  (.iload 6, 28, 6, 0, 0, []),
  (.iload_n 1, 30, 1, 0, 0, []),
  (.if_icmp .ne 6, 31, 20, 0, 0, []),
  (.goto 47, 34, 44, 0, 0, []),
  (.aload_n 0, 37, 0, 0, 0, []),
  (.iload_n 1, 38, 1, 0, 0, []),
  (.iload 6, 39, 6, 0, 0, []),
  (.invokevirtual 70, 41, 188, 0, 0, [3, 9, 0, 0, 0, 0]),
  (.iload_n 3, 44, 3, 0, 0, []),
  (.iconst (-1), 45, 0, 0, (-1), []),
  (.if_icmp .eq 20, 46, 36, 0, 0, []),
  (.aload_n 0, 49, 0, 0, 0, []),
  (.getfield 60, 50, 9, 4, 0, [0]),
  (.iload 5, 53, 5, 0, 0, []),
  (.imul, 55, 0, 0, 0, []),
  (.iload 4, 56, 4, 0, 0, []),
  (.aload_n 0, 58, 0, 0, 0, []),
  (.getfield 63, 59, 9, 5, 0, [0]),
  (.imul, 62, 0, 0, 0, []),
  (.if_icmp .le 18, 63, 44, 0, 0, []),
  (.iload 6, 66, 6, 0, 0, []),
  (.istore_n 3, 68, 3, 0, 0, []),
  (.aload_n 0, 69, 0, 0, 0, []),
  (.getfield 60, 70, 9, 4, 0, [0]),
  (.istore 4, 73, 4, 0, 0, []),
  (.aload_n 0, 75, 0, 0, 0, []),
  (.getfield 63, 76, 9, 5, 0, [0]),
  (.istore 5, 79, 5, 0, 0, []),
  (.iinc 6 1, 81, 6, 0, 1, []),
  (.goto (-68), 84, 11, 0, 0, []),
  (.iload_n 3, 87, 3, 0, 0, []),
  (.ireturn, 88, 0, 0, 0, [])]
/-- 196: BW_nearest(II)I -/
def kc196 : List In_ := [(.aload_n 0, 0, 0, 0, 0, []),
  (.getfield 10, 1, 11, 0, 0, [2]),
  (.iload_n 1, 4, 1, 0, 0, []),
  (.invokevirtual 102, 5, 19, 0, 0, [2, 1, 0, 0, 0, 0]),
  (.ifCond .ne 7, 8, 7, 0, 0, []),
  (.sipush (-1001), 11, 0, 0, (-1001), []),
  (.ireturn, 14, 0, 0, 0, []),
  (.iload_n 2, 15, 2, 0, 0, []),
  (.invokestatic 288, 16, 178, 0, 0, [1, 0, 0, 0, 0]),
  (.ifCond .eq 15, 19, 16, 0, 0, []),
  (.aload_n 0, 22, 0, 0, 0, []),
  (.getfield 76, 23, 11, 8, 0, [2]),
  (.iload_n 1, 26, 1, 0, 0, []),
  (.iload_n 2, 27, 2, 0, 0, []),
  (.invokevirtual 304, 28, 195, 0, 0, [3, 9, 0, 0, 0, 0]),
  (.goto 6, 31, 17, 0, 0, []),
  (.sipush (-1002), 34, 0, 0, (-1002), []),
  (.ireturn, 37, 0, 0, 0, [])]
/-- 197: Mo_nearest(II)I -/
def kc197 : List In_ := [(.aload_n 0, 0, 0, 0, 0, []),
  (.iload_n 1, 1, 1, 0, 0, []),
  (.invokevirtual 114, 2, 24, 0, 0, [2, 12, 0, 0, 0, 0]),
  (.ifCond .ne 7, 5, 6, 0, 0, []),
  (.sipush (-1001), 8, 0, 0, (-1001), []),
  (.ireturn, 11, 0, 0, 0, []),
  (.iload_n 2, 12, 2, 0, 0, []),
  (.i2l, 13, 0, 0, 0, []),
  (.lconst 1, 14, 0, 0, 1, []),
  (.ldc2_w 302, 15, 0, 0, 5, []),
  (.invokestatic 102, 18, 17, 0, 0, [3, 0, 0, 0, 0]),
  (.ifCond .ne 7, 21, 14, 0, 0, []),
  (.sipush (-1002), 24, 0, 0, (-1002), []),
  (.ireturn, 27, 0, 0, 0, []),
  (.iconst (-1), 28, 0, 0, (-1), []),
  (.istore_n 3, 29, 3, 0, 0, []),
  (.iconst 0, 30, 0, 0, 0, []),
  (.istore 4, 31, 4, 0, 0, []),
  (.iconst 1, 33, 0, 0, 1, []),
  (.istore 5, 34, 5, 0, 0, []),
  (.iconst 0, 36, 0, 0, 0, []),
  (.istore 6, 37, 6, 0, 0, []),
  (.iload 6, 39, 6, 0, 0, []),
  (.aload_n 0, 41, 0, 0, 0, []),
  (.getfield 99, 42, 12, 0, 0, [0]),
  (.if_icmp .ge 59, 45, 55, 0, 0, []),
  (.iload 6, 48, 6, 0, 0, []),
  (.iload_n 1, 50, 1, 0, 0, []),
  (.if_icmp .eq 47, 51, 53, 0, 0, []),
  (.aload_n 0, 54, 0, 0, 0, []),
  (.iload_n 1, 55, 1, 0, 0, []),
  (.iload 6, 56, 6, 0, 0, []),
  (.iload_n 2, 58, 2, 0, 0, []),
  (.invokevirtual 316, 59, 191, 0, 0, [4, 12, 0, 0, 0, 0]),
  (.iload_n 3, 62, 3, 0, 0, []),
  (.ifCond .lt 20, 63, 45, 0, 0, []),
  (.aload_n 0, 66, 0, 0, 0, []),
  (.getfield 310, 67, 12, 35, 0, [0]),
  (.iload 5, 70, 5, 0, 0, []),
  (.imul, 72, 0, 0, 0, []),
  (.iload 4, 73, 4, 0, 0, []),
  (.aload_n 0, 75, 0, 0, 0, []),
  (.getfield 313, 76, 12, 36, 0, [0]),
  (.imul, 79, 0, 0, 0, []),
  (.if_icmp .le 18, 80, 53, 0, 0, []),
  (.iload 6, 83, 6, 0, 0, []),
  (.istore_n 3, 85, 3, 0, 0, []),
  (.aload_n 0, 86, 0, 0, 0, []),
  (.getfield 310, 87, 12, 35, 0, [0]),
  (.istore 4, 90, 4, 0, 0, []),
  (.aload_n 0, 92, 0, 0, 0, []),
  (.getfield 313, 93, 12, 36, 0, [0]),
  (.istore 5, 96, 5, 0, 0, []),
  (.iinc 6 1, 98, 6, 0, 1, []),
  (.goto (-62), 101, 22, 0, 0, []),
  (.iload_n 3, 104, 3, 0, 0, []),
  (.ireturn, 105, 0, 0, 0, [])]
/-- 198: RowTable_joinFamilies(II)V -/
def kc198 : List In_ := [(.iload_n 1, 0, 1, 0, 0, []),
  (.iload_n 2, 1, 2, 0, 0, []),
  (.invokestatic 76, 2, 0, 0, 0, [1]),
  (.istore_n 3, 5, 3, 0, 0, []),
  (.iload_n 1, 6, 1, 0, 0, []),
  (.iload_n 2, 7, 2, 0, 0, []),
  (.invokestatic 81, 8, 0, 0, 0, [0]),
  (.istore 4, 11, 4, 0, 0, []),
  (.iconst 0, 13, 0, 0, 0, []),
  (.istore 5, 14, 5, 0, 0, []),
  (.iload 5, 16, 5, 0, 0, []),
  (.aload_n 0, 18, 0, 0, 0, []),
  (.getfield 23, 19, 9, 0, 0, [2]),
  (.getfield 48, 22, 1, 1, 0, [0]),
  (.if_icmp .ge 29, 25, 28, 0, 0, []),
  (.aload_n 0, 28, 0, 0, 0, []),
  (.getfield 20, 29, 9, 3, 0, [2]),
  (.iload 5, 32, 5, 0, 0, []),
  (.iaload, 34, 0, 0, 0, []),
  (.iload 4, 35, 4, 0, 0, []),
  (.if_icmp .ne 11, 37, 26, 0, 0, []),
  (.aload_n 0, 40, 0, 0, 0, []),
  (.getfield 20, 41, 9, 3, 0, [2]),
  (.iload 5, 44, 5, 0, 0, []),
  (.iload_n 3, 46, 3, 0, 0, []),
  (.iastore, 47, 0, 0, 0, []),
  (.iinc 5 1, 48, 5, 0, 1, []),
  (.goto (-35), 51, 10, 0, 0, []),
  (.return_, 54, 0, 0, 0, [])]
/-- 199: RowTable_familyOf(III)I -/
def kc199 : List In_ := [(.aload_n 0, 0, 0, 0, 0, []),
  (.iload_n 2, 1, 2, 0, 0, []),
  (.invokevirtual 66, 2, 194, 0, 0, [2, 9, 0, 0, 0, 0]),
  (.iconst 0, 5, 0, 0, 0, []),
  (.istore 4, 6, 4, 0, 0, []),
  (.iload 4, 8, 4, 0, 0, []),
  (.aload_n 0, 10, 0, 0, 0, []),
  (.getfield 23, 11, 9, 0, 0, [2]),
  (.getfield 48, 14, 1, 1, 0, [0]),
  (.if_icmp .ge 18, 17, 17, 0, 0, []),
  (.aload_n 0, 20, 0, 0, 0, []),
  (.getfield 20, 21, 9, 3, 0, [2]),
  (.iload 4, 24, 4, 0, 0, []),
  (.iload 4, 26, 4, 0, 0, []),
  (.iastore, 28, 0, 0, 0, []),
  (.iinc 4 1, 29, 4, 0, 1, []),
  (.goto (-24), 32, 5, 0, 0, []),
  (.iconst 0, 35, 0, 0, 0, []),
  (.istore 4, 36, 4, 0, 0, []),
  (.iload 4, 38, 4, 0, 0, []),
  (.aload_n 0, 40, 0, 0, 0, []),
  (.getfield 23, 41, 9, 0, 0, [2]),
  (.getfield 48, 44, 1, 1, 0, [0]),
  (.if_icmp .ge 67, 47, 56, 0, 0, []),
  (.iconst 0, 50, 0, 0, 0, []),
  (.istore 5, 51, 5, 0, 0, []),
  (.iload 5, 53, 5, 0, 0, []),
  (.iload 4, 55, 4, 0, 0, []),
  (.if_icmp .ge 51, 57, 54, 0, 0, []),
  (.aload_n 0, 60, 0, 0, 0, []),
  (.iload 4, 61, 4, 0, 0, []),
  (.iload 5, 63, 5, 0, 0, []),
  (.invokevirtual 70, 65, 188, 0, 0, [3, 9, 0, 0, 0, 0]),
  (.aload_n 0, 68, 0, 0, 0, []),
  (.getfield 60, 69, 9, 4, 0, [0]),
  (.bipush 100, 72, 0, 0, 100, []),
  (.imul, 74, 0, 0, 0, []),
  (.iload_n 3, 75, 3, 0, 0, []),
  (.aload_n 0, 76, 0, 0, 0, []),
  (.getfield 63, 77, 9, 5, 0, [0]),
  (.imul, 80, 0, 0, 0, []),
  (.if_icmp .lt 21, 81, 52, 0, 0, []),
  (.aload_n 0, 84, 0, 0, 0, []),
  (.aload_n 0, 85, 0, 0, 0, []),
  (.getfield 20, 86, 9, 3, 0, [2]),
  (.iload 4, 89, 4, 0, 0, []),
  (.iaload, 91, 0, 0, 0, []),
  (.aload_n 0, 92, 0, 0, 0, []),
  (.getfield 20, 93, 9, 3, 0, [2]),
  (.iload 5, 96, 5, 0, 0, []),
  (.iaload, 98, 0, 0, 0, []),
  (.invokevirtual 73, 99, 198, 0, 0, [3, 9, 0, 0, 0, 0]),
  (.iinc 5 1, 102, 5, 0, 1, []),
  (.goto (-52), 105, 26, 0, 0, []),
  (.iinc 4 1, 108, 4, 0, 1, []),
  (.goto (-73), 111, 19, 0, 0, []),
  (.aload_n 0, 114, 0, 0, 0, []),
  (.getfield 20, 115, 9, 3, 0, [2]),
  (.iload_n 1, 118, 1, 0, 0, []),
  (.iaload, 119, 0, 0, 0, []),
  (.ireturn, 120, 0, 0, 0, [])]
/-- 200: BW_family(III)I -/
def kc200 : List In_ := [(.aload_n 0, 0, 0, 0, 0, []),
  (.getfield 10, 1, 11, 0, 0, [2]),
  (.iload_n 1, 4, 1, 0, 0, []),
  (.invokevirtual 102, 5, 19, 0, 0, [2, 1, 0, 0, 0, 0]),
  (.ifCond .ne 7, 8, 7, 0, 0, []),
  (.sipush (-1001), 11, 0, 0, (-1001), []),
  (.ireturn, 14, 0, 0, 0, []),
  (.iload_n 2, 15, 2, 0, 0, []),
  (.invokestatic 288, 16, 178, 0, 0, [1, 0, 0, 0, 0]),
  (.ifCond .eq 13, 19, 15, 0, 0, []),
  (.iload_n 3, 22, 3, 0, 0, []),
  (.ifCond .lt 9, 23, 15, 0, 0, []),
  (.iload_n 3, 26, 3, 0, 0, []),
  (.bipush 100, 27, 0, 0, 100, []),
  (.if_icmp .le 7, 29, 17, 0, 0, []),
  (.sipush (-1002), 32, 0, 0, (-1002), []),
  (.ireturn, 35, 0, 0, 0, []),
  (.aload_n 0, 36, 0, 0, 0, []),
  (.getfield 76, 37, 11, 8, 0, [2]),
  (.iload_n 1, 40, 1, 0, 0, []),
  (.iload_n 2, 41, 2, 0, 0, []),
  (.iload_n 3, 42, 3, 0, 0, []),
  (.invokevirtual 307, 43, 199, 0, 0, [4, 9, 0, 0, 0, 0]),
  (.ireturn, 46, 0, 0, 0, [])]
/-- 201: Mo_family(III)I -/
def kc201_0 : List In_ := [(.aload_n 0, 0, 0, 0, 0, []),
  (.iload_n 1, 1, 1, 0, 0, []),
  (.invokevirtual 114, 2, 24, 0, 0, [2, 12, 0, 0, 0, 0]),
  (.ifCond .ne 7, 5, 6, 0, 0, []),
  (.sipush (-1001), 8, 0, 0, (-1001), []),
  (.ireturn, 11, 0, 0, 0, []),
  (.iload_n 2, 12, 2, 0, 0, []),
  (.i2l, 13, 0, 0, 0, []),
  (.lconst 1, 14, 0, 0, 1, []),
  (.ldc2_w 302, 15, 0, 0, 5, []),
  (.invokestatic 102, 18, 17, 0, 0, [3, 0, 0, 0, 0]),
  (.ifCond .eq 15, 21, 18, 0, 0, []),
  (.iload_n 3, 24, 3, 0, 0, []),
  (.i2l, 25, 0, 0, 0, []),
  (.lconst 0, 26, 0, 0, 0, []),
  (.ldc2_w 323, 27, 0, 0, 100, []),
  (.invokestatic 102, 30, 17, 0, 0, [3, 0, 0, 0, 0]),
  (.ifCond .ne 7, 33, 20, 0, 0, []),
  (.sipush (-1002), 36, 0, 0, (-1002), []),
  (.ireturn, 39, 0, 0, 0, []),
  (.iconst 0, 40, 0, 0, 0, []),
  (.istore 4, 41, 4, 0, 0, []),
  (.iload 4, 43, 4, 0, 0, []),
  (.aload_n 0, 45, 0, 0, 0, []),
  (.getfield 99, 46, 12, 0, 0, [0]),
  (.if_icmp .ge 85, 49, 70, 0, 0, []),
  (.aload_n 0, 52, 0, 0, 0, []),
  (.getfield 84, 53, 12, 37, 0, [2]),
  (.iload 4, 56, 4, 0, 0, []),
  (.iconst 0, 58, 0, 0, 0, []),
  (.iastore, 59, 0, 0, 0, []),
  (.iconst 0, 60, 0, 0, 0, []),
  (.istore 5, 61, 5, 0, 0, []),
  (.iload 5, 63, 5, 0, 0, []),
  (.aload_n 0, 65, 0, 0, 0, []),
  (.getfield 99, 66, 12, 0, 0, [0]),
  (.if_icmp .ge 59, 69, 68, 0, 0, []),
  (.aload_n 0, 72, 0, 0, 0, []),
  (.iload 4, 73, 4, 0, 0, []),
  (.iload 5, 75, 5, 0, 0, []),
  (.iload_n 2, 77, 2, 0, 0, []),
  (.invokevirtual 316, 78, 191, 0, 0, [4, 12, 0, 0, 0, 0]),
  (.aload_n 0, 81, 0, 0, 0, []),
  (.getfield 84, 82, 12, 37, 0, [2]),
  (.iload 4, 85, 4, 0, 0, []),
  (.dup2, 87, 0, 0, 0, []),
  (.iaload, 88, 0, 0, 0, []),
  (.iload 4, 89, 4, 0, 0, []),
  (.iload 5, 91, 5, 0, 0, []),
  (.if_icmp .eq 26, 93, 63, 0, 0, []),
  (.bipush 100, 96, 0, 0, 100, []),
  (.aload_n 0, 98, 0, 0, 0, []),
  (.getfield 310, 99, 12, 35, 0, [0]),
  (.imul, 102, 0, 0, 0, []),
  (.iload_n 3, 103, 3, 0, 0, []),
  (.aload_n 0, 104, 0, 0, 0, []),
  (.getfield 313, 105, 12, 36, 0, [0]),
  (.imul, 108, 0, 0, 0, []),
  (.if_icmp .lt 10, 109, 63, 0, 0, []),
  (.iconst 1, 112, 0, 0, 1, []),
  (.iload 5, 113, 5, 0, 0, []),
  (.ishl, 115, 0, 0, 0, []),
  (.goto 4, 116, 64, 0, 0, []),
  (.iconst 0, 119, 0, 0, 0, []),
  (.ior, 120, 0, 0, 0, []),
  (.iastore, 121, 0, 0, 0, []),
  (.iinc 5 1, 122, 5, 0, 1, []),
  (.goto (-62), 125, 33, 0, 0, []),
  (.iinc 4 1, 128, 4, 0, 1, []),
  (.goto (-88), 131, 22, 0, 0, []),
  (.iconst 1, 134, 0, 0, 1, []),
  (.iload_n 1, 135, 1, 0, 0, []),
  (.ishl, 136, 0, 0, 0, []),
  (.istore 4, 137, 4, 0, 0, []),
  (.iconst 0, 139, 0, 0, 0, []),
  (.istore 5, 140, 5, 0, 0, []),
  (.iload 4, 142, 4, 0, 0, []),
  (.iload 5, 144, 5, 0, 0, []),
  (.if_icmp .eq 55, 146, 106, 0, 0, []),
  (.iload 4, 149, 4, 0, 0, []),
  (.istore 5, 151, 5, 0, 0, []),
  (.iconst 0, 153, 0, 0, 0, []),
  (.istore 6, 154, 6, 0, 0, []),
  (.iload 6, 156, 6, 0, 0, []),
  (.aload_n 0, 158, 0, 0, 0, []),
  (.getfield 99, 159, 12, 0, 0, [0]),
  (.if_icmp .ge 36, 162, 105, 0, 0, []),
  (.iload 4, 165, 4, 0, 0, []),
  (.iload 5, 167, 5, 0, 0, []),
  (.iload 6, 169, 6, 0, 0, []),
  (.ishr, 171, 0, 0, 0, []),
  (.iconst 1, 172, 0, 0, 1, []),
  (.iand, 173, 0, 0, 0, []),
  (.iconst 1, 174, 0, 0, 1, []),
  (.if_icmp .ne 13, 175, 100, 0, 0, []),
  (.aload_n 0, 178, 0, 0, 0, []),
  (.getfield 84, 179, 12, 37, 0, [2]),
  (.iload 6, 182, 6, 0, 0, []),
  (.iaload, 184, 0, 0, 0, []),
  (.goto 4, 185, 101, 0, 0, [])]
def kc201_1 : List In_ := [(.iconst 0, 188, 0, 0, 0, []),
  (.ior, 189, 0, 0, 0, []),
  (.istore 4, 190, 4, 0, 0, []),
  (.iinc 6 1, 192, 6, 0, 1, []),
  (.goto (-39), 195, 83, 0, 0, []),
  (.goto (-56), 198, 76, 0, 0, []),
  (.iconst 0, 201, 0, 0, 0, []),
  (.istore 6, 202, 6, 0, 0, []),
  (.iload 4, 204, 4, 0, 0, []),
  (.iload 6, 206, 6, 0, 0, []),
  (.ishr, 208, 0, 0, 0, []),
  (.iconst 1, 209, 0, 0, 1, []),
  (.iand, 210, 0, 0, 0, []),
  (.ifCond .ne 9, 211, 116, 0, 0, []),
  (.iinc 6 1, 214, 6, 0, 1, []),
  (.goto (-13), 217, 108, 0, 0, []),
  (.iload 6, 220, 6, 0, 0, []),
  (.ireturn, 222, 0, 0, 0, [])]
def kc201 : List In_ := kc201_0 ++ kc201_1
/-- 202: Sentences_split(LBorrowedWords$Text;[I)I -/
def kc202 : List In_ := [(.iconst 0, 0, 0, 0, 0, []),
  (.istore_n 2, 1, 2, 0, 0, []),
  (.iconst 0, 2, 0, 0, 0, []),
  (.istore_n 3, 3, 3, 0, 0, []),
  (.iload_n 3, 4, 3, 0, 0, []),
  (.aload_n 0, 5, 0, 0, 0, []),
  (.getfield 39, 6, 0, 4, 0, [0]),
  (.if_icmp .ge 36, 9, 27, 0, 0, []),
  (.aload_n 0, 12, 0, 0, 0, []),
  (.iload_n 3, 13, 3, 0, 0, []),
  (.invokevirtual 44, 14, 27, 0, 0, [2, 0, 0, 0, 0, 0]),
  (.ifCond .ne 13, 17, 18, 0, 0, []),
  (.iload_n 3, 20, 3, 0, 0, []),
  (.aload_n 0, 21, 0, 0, 0, []),
  (.getfield 39, 22, 0, 4, 0, [0]),
  (.iconst 1, 25, 0, 0, 1, []),
  (.isub, 26, 0, 0, 0, []),
  (.if_icmp .ne 12, 27, 25, 0, 0, []),
  (.aload_n 1, 30, 1, 0, 0, []),
  (.iload_n 2, 31, 2, 0, 0, []),
  (.iload_n 3, 32, 3, 0, 0, []),
  (.iconst 1, 33, 0, 0, 1, []),
  (.iadd, 34, 0, 0, 0, []),
  (.iastore, 35, 0, 0, 0, []),
  (.iinc 2 1, 36, 2, 0, 1, []),
  (.iinc 3 1, 39, 3, 0, 1, []),
  (.goto (-38), 42, 4, 0, 0, []),
  (.iload_n 2, 45, 2, 0, 0, []),
  (.ireturn, 46, 0, 0, 0, [])]
/-- 203: Sentences_isSameSentence(LBorrowedWords$Text;ILBorrowedWords$Text;I)Z -/
def kc203 : List In_ := [(.iload_n 2, 0, 2, 0, 0, []),
  (.ifCond .ne 7, 1, 4, 0, 0, []),
  (.iconst 0, 4, 0, 0, 0, []),
  (.goto 11, 5, 10, 0, 0, []),
  (.aload_n 0, 8, 0, 0, 0, []),
  (.getfield 9, 9, 10, 0, 0, [2]),
  (.iload_n 2, 12, 2, 0, 0, []),
  (.iconst 1, 13, 0, 0, 1, []),
  (.isub, 14, 0, 0, 0, []),
  (.iaload, 15, 0, 0, 0, []),
  (.istore 5, 16, 5, 0, 0, []),
  (.iload 4, 18, 4, 0, 0, []),
  (.ifCond .ne 7, 20, 15, 0, 0, []),
  (.iconst 0, 23, 0, 0, 0, []),
  (.goto 12, 24, 21, 0, 0, []),
  (.aload_n 0, 27, 0, 0, 0, []),
  (.getfield 15, 28, 10, 1, 0, [2]),
  (.iload 4, 31, 4, 0, 0, []),
  (.iconst 1, 33, 0, 0, 1, []),
  (.isub, 34, 0, 0, 0, []),
  (.iaload, 35, 0, 0, 0, []),
  (.istore 6, 36, 6, 0, 0, []),
  (.aload_n 0, 38, 0, 0, 0, []),
  (.getfield 9, 39, 10, 0, 0, [2]),
  (.iload_n 2, 42, 2, 0, 0, []),
  (.iaload, 43, 0, 0, 0, []),
  (.iload 5, 44, 5, 0, 0, []),
  (.isub, 46, 0, 0, 0, []),
  (.aload_n 0, 47, 0, 0, 0, []),
  (.getfield 15, 48, 10, 1, 0, [2]),
  (.iload 4, 51, 4, 0, 0, []),
  (.iaload, 53, 0, 0, 0, []),
  (.iload 6, 54, 6, 0, 0, []),
  (.isub, 56, 0, 0, 0, []),
  (.if_icmp .eq 5, 57, 37, 0, 0, []),
  (.iconst 0, 60, 0, 0, 0, []),
  (.ireturn, 61, 1, 0, 0, []),
  (.aload_n 3, 62, 3, 0, 0, []),
  (.iload 6, 63, 6, 0, 0, []),
  (.aload_n 1, 65, 1, 0, 0, []),
  (.iload 5, 66, 5, 0, 0, []),
  (.aload_n 0, 68, 0, 0, 0, []),
  (.getfield 9, 69, 10, 0, 0, [2]),
  (.iload_n 2, 72, 2, 0, 0, []),
  (.iaload, 73, 0, 0, 0, []),
  (.iconst 1, 74, 0, 0, 1, []),
  (.isub, 75, 0, 0, 0, []),
  (.invokevirtual 48, 76, 40, 0, 0, [5, 0, 0, 0, 0, 0]),
  (.ireturn, 79, 1, 0, 0, [])]
/-- 204: Sentences_pair(LBorrowedWords$Text;LBorrowedWords$Text;)V -/
def kc204 : List In_ := [(.aload_n 0, 0, 0, 0, 0, []),
  (.aload_n 1, 1, 1, 0, 0, []),
  (.aload_n 0, 2, 0, 0, 0, []),
  (.getfield 9, 3, 10, 0, 0, [2]),
  (.invokestatic 24, 6, 202, 0, 0, [2, 0, 0, 0, 0]),
  (.putfield 28, 9, 10, 4, 0, [0]),
  (.aload_n 2, 12, 2, 0, 0, []),
  (.aload_n 0, 13, 0, 0, 0, []),
  (.getfield 15, 14, 10, 1, 0, [2]),
  (.invokestatic 24, 17, 202, 0, 0, [2, 0, 0, 0, 0]),
  (.istore_n 3, 20, 3, 0, 0, []),
  (.aload_n 0, 21, 0, 0, 0, []),
  (.iconst 0, 22, 0, 0, 0, []),
  (.putfield 32, 23, 10, 5, 0, [0]),
  (.lconst 0, 26, 0, 0, 0, []),
  (.lstore 4, 27, 4, 0, 0, []),
  (.iconst 0, 29, 0, 0, 0, []),
  (.istore 6, 30, 6, 0, 0, []),
  (.iload 6, 32, 6, 0, 0, []),
  (.aload_n 0, 34, 0, 0, 0, []),
  (.getfield 28, 35, 10, 4, 0, [0]),
  (.if_icmp .ge 98, 38, 74, 0, 0, []),
  (.iconst (-1), 41, 0, 0, (-1), []),
  (.istore 7, 42, 7, 0, 0, []),
  (.iconst 0, 44, 0, 0, 0, []),
  (.istore 8, 45, 8, 0, 0, []),
  (.iload 8, 47, 8, 0, 0, []),
  (.iload_n 3, 49, 3, 0, 0, []),
  (.if_icmp .ge 44, 50, 51, 0, 0, []),
  (.iload 7, 53, 7, 0, 0, []),
  (.iconst (-1), 55, 0, 0, (-1), []),
  (.if_icmp .ne 38, 56, 51, 0, 0, []),
  (.lload 4, 59, 4, 0, 0, []),
  (.iload 8, 61, 8, 0, 0, []),
  (.lushr, 63, 0, 0, 0, []),
  (.lconst 1, 64, 0, 0, 1, []),
  (.land, 65, 0, 0, 0, []),
  (.lconst 0, 66, 0, 0, 0, []),
  (.lcmp, 67, 0, 0, 0, []),
  (.ifCond .ne 20, 68, 49, 0, 0, []),
  (.aload_n 0, 71, 0, 0, 0, []),
  (.aload_n 1, 72, 1, 0, 0, []),
  (.iload 6, 73, 6, 0, 0, []),
  (.aload_n 2, 75, 2, 0, 0, []),
  (.iload 8, 76, 8, 0, 0, []),
  (.invokevirtual 35, 78, 203, 0, 0, [5, 10, 0, 0, 0, 0]),
  (.ifCond .eq 7, 81, 49, 0, 0, []),
  (.iload 8, 84, 8, 0, 0, []),
  (.istore 7, 86, 7, 0, 0, []),
  (.iinc 8 1, 88, 8, 0, 1, []),
  (.goto (-44), 91, 26, 0, 0, []),
  (.iload 7, 94, 7, 0, 0, []),
  (.iconst (-1), 96, 0, 0, (-1), []),
  (.if_icmp .eq 33, 97, 72, 0, 0, []),
  (.lload 4, 100, 4, 0, 0, []),
  (.lconst 1, 102, 0, 0, 1, []),
  (.iload 7, 103, 7, 0, 0, []),
  (.lshl, 105, 0, 0, 0, []),
  (.lor, 106, 0, 0, 0, []),
  (.lstore 4, 107, 4, 0, 0, []),
  (.aload_n 0, 109, 0, 0, 0, []),
  (.getfield 18, 110, 10, 2, 0, [2]),
  (.aload_n 0, 113, 0, 0, 0, []),
  (.getfield 32, 114, 10, 5, 0, [0]),
  (.iload 7, 117, 7, 0, 0, []),
  (.iastore, 119, 0, 0, 0, []),
  (.aload_n 0, 120, 0, 0, 0, []),
  (.dup, 121, 0, 0, 0, []),
  (.getfield 32, 122, 10, 5, 0, [0]),
  (.iconst 1, 125, 0, 0, 1, []),
  (.iadd, 126, 0, 0, 0, []),
  (.putfield 32, 127, 10, 5, 0, [0]),
  (.iinc 6 1, 130, 6, 0, 1, []),
  (.goto (-101), 133, 18, 0, 0, []),
  (.return_, 136, 0, 0, 0, [])]
/-- 205: Sentences_longestInOrder()I -/
def kc205 : List In_ := [(.iconst 0, 0, 0, 0, 0, []),
  (.istore_n 1, 1, 1, 0, 0, []),
  (.iconst 0, 2, 0, 0, 0, []),
  (.istore_n 2, 3, 2, 0, 0, []),
  (.iload_n 2, 4, 2, 0, 0, []),
  (.aload_n 0, 5, 0, 0, 0, []),
  (.getfield 32, 6, 10, 5, 0, [0]),
  (.if_icmp .ge 78, 9, 53, 0, 0, []),
  (.aload_n 0, 12, 0, 0, 0, []),
  (.getfield 21, 13, 10, 3, 0, [2]),
  (.iload_n 2, 16, 2, 0, 0, []),
  (.iconst 1, 17, 0, 0, 1, []),
  (.iastore, 18, 0, 0, 0, []),
  (.iconst 0, 19, 0, 0, 0, []),
  (.istore_n 3, 20, 3, 0, 0, []),
  (.iload_n 3, 21, 3, 0, 0, []),
  (.iload_n 2, 22, 2, 0, 0, []),
  (.if_icmp .ge 47, 23, 44, 0, 0, []),
  (.aload_n 0, 26, 0, 0, 0, []),
  (.getfield 18, 27, 10, 2, 0, [2]),
  (.iload_n 3, 30, 3, 0, 0, []),
  (.iaload, 31, 0, 0, 0, []),
  (.aload_n 0, 32, 0, 0, 0, []),
  (.getfield 18, 33, 10, 2, 0, [2]),
  (.iload_n 2, 36, 2, 0, 0, []),
  (.iaload, 37, 0, 0, 0, []),
  (.if_icmp .ge 26, 38, 42, 0, 0, []),
  (.aload_n 0, 41, 0, 0, 0, []),
  (.getfield 21, 42, 10, 3, 0, [2]),
  (.iload_n 2, 45, 2, 0, 0, []),
  (.aload_n 0, 46, 0, 0, 0, []),
  (.getfield 21, 47, 10, 3, 0, [2]),
  (.iload_n 2, 50, 2, 0, 0, []),
  (.iaload, 51, 0, 0, 0, []),
  (.aload_n 0, 52, 0, 0, 0, []),
  (.getfield 21, 53, 10, 3, 0, [2]),
  (.iload_n 3, 56, 3, 0, 0, []),
  (.iaload, 57, 0, 0, 0, []),
  (.iconst 1, 58, 0, 0, 1, []),
  (.iadd, 59, 0, 0, 0, []),
  (.invokestatic 52, 60, 0, 0, 0, [0]),
  (.iastore, 63, 0, 0, 0, []),
  (.iinc 3 1, 64, 3, 0, 1, []),
  (.goto (-46), 67, 15, 0, 0, []),
  (.iload_n 1, 70, 1, 0, 0, []),
  (.aload_n 0, 71, 0, 0, 0, []),
  (.getfield 21, 72, 10, 3, 0, [2]),
  (.iload_n 2, 75, 2, 0, 0, []),
  (.iaload, 76, 0, 0, 0, []),
  (.invokestatic 52, 77, 0, 0, 0, [0]),
  (.istore_n 1, 80, 1, 0, 0, []),
  (.iinc 2 1, 81, 2, 0, 1, []),
  (.goto (-80), 84, 4, 0, 0, []),
  (.iload_n 1, 87, 1, 0, 0, []),
  (.ireturn, 88, 0, 0, 0, [])]
/-- 206: BW_moved(III)I -/
def kc206 : List In_ := [(.aload_n 0, 0, 0, 0, 0, []),
  (.getfield 10, 1, 11, 0, 0, [2]),
  (.iload_n 1, 4, 1, 0, 0, []),
  (.invokevirtual 102, 5, 19, 0, 0, [2, 1, 0, 0, 0, 0]),
  (.ifCond .eq 14, 8, 10, 0, 0, []),
  (.aload_n 0, 11, 0, 0, 0, []),
  (.getfield 10, 12, 11, 0, 0, [2]),
  (.iload_n 2, 15, 2, 0, 0, []),
  (.invokevirtual 102, 16, 19, 0, 0, [2, 1, 0, 0, 0, 0]),
  (.ifCond .ne 7, 19, 12, 0, 0, []),
  (.sipush (-1001), 22, 0, 0, (-1001), []),
  (.ireturn, 25, 0, 0, 0, []),
  (.iload_n 3, 26, 3, 0, 0, []),
  (.ifCond .lt 8, 27, 17, 0, 0, []),
  (.iload_n 3, 30, 3, 0, 0, []),
  (.iconst 2, 31, 0, 0, 2, []),
  (.if_icmp .le 7, 32, 19, 0, 0, []),
  (.sipush (-1002), 35, 0, 0, (-1002), []),
  (.ireturn, 38, 0, 0, 0, []),
  (.aload_n 0, 39, 0, 0, 0, []),
  (.getfield 83, 40, 11, 9, 0, [2]),
  (.aload_n 0, 43, 0, 0, 0, []),
  (.getfield 10, 44, 11, 0, 0, [2]),
  (.getfield 108, 47, 1, 0, 0, [2]),
  (.iload_n 1, 50, 1, 0, 0, []),
  (.aaload, 51, 0, 0, 0, []),
  (.aload_n 0, 52, 0, 0, 0, []),
  (.getfield 10, 53, 11, 0, 0, [2]),
  (.getfield 108, 56, 1, 0, 0, [2]),
  (.iload_n 2, 59, 2, 0, 0, []),
  (.aaload, 60, 0, 0, 0, []),
  (.invokevirtual 310, 61, 204, 0, 0, [3, 10, 0, 0, 0, 0]),
  (.iload_n 3, 64, 3, 0, 0, []),
  (.ifCond .ne 11, 65, 38, 0, 0, []),
  (.aload_n 0, 68, 0, 0, 0, []),
  (.getfield 83, 69, 11, 9, 0, [2]),
  (.getfield 314, 72, 10, 5, 0, [0]),
  (.ireturn, 75, 0, 0, 0, []),
  (.iload_n 3, 76, 3, 0, 0, []),
  (.iconst 1, 77, 0, 0, 1, []),
  (.if_icmp .ne 21, 78, 49, 0, 0, []),
  (.aload_n 0, 81, 0, 0, 0, []),
  (.getfield 83, 82, 11, 9, 0, [2]),
  (.getfield 314, 85, 10, 5, 0, [0]),
  (.aload_n 0, 88, 0, 0, 0, []),
  (.getfield 83, 89, 11, 9, 0, [2]),
  (.invokevirtual 317, 92, 205, 0, 0, [1, 10, 0, 0, 0, 0]),
  (.isub, 95, 0, 0, 0, []),
  (.goto 18, 96, 56, 0, 0, []),
  (.aload_n 0, 99, 0, 0, 0, []),
  (.getfield 83, 100, 11, 9, 0, [2]),
  (.getfield 320, 103, 10, 4, 0, [0]),
  (.aload_n 0, 106, 0, 0, 0, []),
  (.getfield 83, 107, 11, 9, 0, [2]),
  (.getfield 314, 110, 10, 5, 0, [0]),
  (.isub, 113, 0, 0, 0, []),
  (.ireturn, 114, 0, 0, 0, [])]
/-- 207: Mo_findSentences(II)I -/
def kc207 : List In_ := [(.iconst 0, 0, 0, 0, 0, []),
  (.istore_n 3, 1, 3, 0, 0, []),
  (.iconst 0, 2, 0, 0, 0, []),
  (.istore 4, 3, 4, 0, 0, []),
  (.iconst 0, 5, 0, 0, 0, []),
  (.istore 5, 6, 5, 0, 0, []),
  (.iload 5, 8, 5, 0, 0, []),
  (.aload_n 0, 10, 0, 0, 0, []),
  (.getfield 16, 11, 12, 3, 0, [2]),
  (.iload_n 1, 14, 1, 0, 0, []),
  (.iaload, 15, 0, 0, 0, []),
  (.if_icmp .ge 66, 16, 50, 0, 0, []),
  (.aload_n 0, 19, 0, 0, 0, []),
  (.getfield 22, 20, 12, 5, 0, [2]),
  (.bipush 60, 23, 0, 0, 60, []),
  (.iload_n 1, 25, 1, 0, 0, []),
  (.imul, 26, 0, 0, 0, []),
  (.iload 5, 27, 5, 0, 0, []),
  (.iadd, 29, 0, 0, 0, []),
  (.baload, 30, 0, 0, 0, []),
  (.ifCond .ne 16, 31, 29, 0, 0, []),
  (.iload 5, 34, 5, 0, 0, []),
  (.aload_n 0, 36, 0, 0, 0, []),
  (.getfield 16, 37, 12, 3, 0, [2]),
  (.iload_n 1, 40, 1, 0, 0, []),
  (.iaload, 41, 0, 0, 0, []),
  (.iconst 1, 42, 0, 0, 1, []),
  (.isub, 43, 0, 0, 0, []),
  (.if_icmp .ne 32, 44, 48, 0, 0, []),
  (.aload_n 0, 47, 0, 0, 0, []),
  (.getfield 87, 48, 12, 38, 0, [2]),
  (.iload_n 2, 51, 2, 0, 0, []),
  (.iload_n 3, 52, 3, 0, 0, []),
  (.iadd, 53, 0, 0, 0, []),
  (.iload 4, 54, 4, 0, 0, []),
  (.iastore, 56, 0, 0, 0, []),
  (.aload_n 0, 57, 0, 0, 0, []),
  (.getfield 90, 58, 12, 39, 0, [2]),
  (.iload_n 2, 61, 2, 0, 0, []),
  (.iload_n 3, 62, 3, 0, 0, []),
  (.iadd, 63, 0, 0, 0, []),
  (.iload 5, 64, 5, 0, 0, []),
  (.iastore, 66, 0, 0, 0, []),
  (.iload 5, 67, 5, 0, 0, []),
  (.iconst 1, 69, 0, 0, 1, []),
  (.iadd, 70, 0, 0, 0, []),
  (.istore 4, 71, 4, 0, 0, []),
  (.iinc 3 1, 73, 3, 0, 1, []),
  (.iinc 5 1, 76, 5, 0, 1, []),
  (.goto (-71), 79, 6, 0, 0, []),
  (.iload_n 3, 82, 3, 0, 0, []),
  (.ireturn, 83, 0, 0, 0, [])]
/-- 208: Mo_areSame(IIII)Z -/
def kc208 : List In_ := [(.aload_n 0, 0, 0, 0, 0, []),
  (.getfield 90, 1, 12, 39, 0, [2]),
  (.iload_n 2, 4, 2, 0, 0, []),
  (.iaload, 5, 0, 0, 0, []),
  (.aload_n 0, 6, 0, 0, 0, []),
  (.getfield 87, 7, 12, 38, 0, [2]),
  (.iload_n 2, 10, 2, 0, 0, []),
  (.iaload, 11, 0, 0, 0, []),
  (.isub, 12, 0, 0, 0, []),
  (.iconst 1, 13, 0, 0, 1, []),
  (.iadd, 14, 0, 0, 0, []),
  (.istore 5, 15, 5, 0, 0, []),
  (.aload_n 0, 17, 0, 0, 0, []),
  (.getfield 90, 18, 12, 39, 0, [2]),
  (.iload 4, 21, 4, 0, 0, []),
  (.iaload, 23, 0, 0, 0, []),
  (.aload_n 0, 24, 0, 0, 0, []),
  (.getfield 87, 25, 12, 38, 0, [2]),
  (.iload 4, 28, 4, 0, 0, []),
  (.iaload, 30, 0, 0, 0, []),
  (.isub, 31, 0, 0, 0, []),
  (.iconst 1, 32, 0, 0, 1, []),
  (.iadd, 33, 0, 0, 0, []),
  (.iload 5, 34, 5, 0, 0, []),
  (.if_icmp .ne 31, 36, 41, 0, 0, []),
  (.aload_n 0, 39, 0, 0, 0, []),
  (.iload_n 1, 40, 1, 0, 0, []),
  (.aload_n 0, 41, 0, 0, 0, []),
  (.getfield 87, 42, 12, 38, 0, [2]),
  (.iload_n 2, 45, 2, 0, 0, []),
  (.iaload, 46, 0, 0, 0, []),
  (.iload_n 3, 47, 3, 0, 0, []),
  (.aload_n 0, 48, 0, 0, 0, []),
  (.getfield 87, 49, 12, 38, 0, [2]),
  (.iload 4, 52, 4, 0, 0, []),
  (.iaload, 54, 0, 0, 0, []),
  (.iload 5, 55, 5, 0, 0, []),
  (.invokevirtual 296, 57, 182, 0, 0, [6, 12, 0, 0, 0, 0]),
  (.ifCond .eq 7, 60, 41, 0, 0, []),
  (.iconst 1, 63, 0, 0, 1, []),
  (.goto 4, 64, 42, 0, 0, []),
  (.iconst 0, 67, 0, 0, 0, []),
  (.ireturn, 68, 1, 0, 0, [])]
/-- 209: Mo_moved(III)I -/
def kc209_0 : List In_ := [(.aload_n 0, 0, 0, 0, 0, []),
  (.iload_n 1, 1, 1, 0, 0, []),
  (.invokevirtual 114, 2, 24, 0, 0, [2, 12, 0, 0, 0, 0]),
  (.ifCond .eq 11, 5, 8, 0, 0, []),
  (.aload_n 0, 8, 0, 0, 0, []),
  (.iload_n 2, 9, 2, 0, 0, []),
  (.invokevirtual 114, 10, 24, 0, 0, [2, 12, 0, 0, 0, 0]),
  (.ifCond .ne 7, 13, 10, 0, 0, []),
  (.sipush (-1001), 16, 0, 0, (-1001), []),
  (.ireturn, 19, 0, 0, 0, []),
  (.iload_n 3, 20, 3, 0, 0, []),
  (.i2l, 21, 0, 0, 0, []),
  (.lconst 0, 22, 0, 0, 0, []),
  (.ldc2_w 257, 23, 0, 0, 2, []),
  (.invokestatic 102, 26, 17, 0, 0, [3, 0, 0, 0, 0]),
  (.ifCond .ne 7, 29, 18, 0, 0, []),
  (.sipush (-1002), 32, 0, 0, (-1002), []),
  (.ireturn, 35, 0, 0, 0, []),
  (.aload_n 0, 36, 0, 0, 0, []),
  (.iload_n 1, 37, 1, 0, 0, []),
  (.iconst 0, 38, 0, 0, 0, []),
  (.invokevirtual 325, 39, 207, 0, 0, [3, 12, 0, 0, 0, 0]),
  (.istore 4, 42, 4, 0, 0, []),
  (.aload_n 0, 44, 0, 0, 0, []),
  (.iload_n 2, 45, 2, 0, 0, []),
  (.bipush 60, 46, 0, 0, 60, []),
  (.invokevirtual 325, 48, 207, 0, 0, [3, 12, 0, 0, 0, 0]),
  (.istore 5, 51, 5, 0, 0, []),
  (.lconst 0, 53, 0, 0, 0, []),
  (.lstore 6, 54, 6, 0, 0, []),
  (.iconst 0, 56, 0, 0, 0, []),
  (.istore 8, 57, 8, 0, 0, []),
  (.iconst 0, 59, 0, 0, 0, []),
  (.istore 9, 60, 9, 0, 0, []),
  (.iload 9, 62, 9, 0, 0, []),
  (.iload 4, 64, 4, 0, 0, []),
  (.if_icmp .ge 81, 66, 78, 0, 0, []),
  (.iconst 0, 69, 0, 0, 0, []),
  (.istore 10, 70, 10, 0, 0, []),
  (.iload 10, 72, 10, 0, 0, []),
  (.iload 5, 74, 5, 0, 0, []),
  (.if_icmp .ge 37, 76, 61, 0, 0, []),
  (.lload 6, 79, 6, 0, 0, []),
  (.iload 10, 81, 10, 0, 0, []),
  (.lshr, 83, 0, 0, 0, []),
  (.lconst 1, 84, 0, 0, 1, []),
  (.land, 85, 0, 0, 0, []),
  (.lconst 1, 86, 0, 0, 1, []),
  (.lcmp, 87, 0, 0, 0, []),
  (.ifCond .eq 19, 88, 59, 0, 0, []),
  (.aload_n 0, 91, 0, 0, 0, []),
  (.iload_n 1, 92, 1, 0, 0, []),
  (.iload 9, 93, 9, 0, 0, []),
  (.iload_n 2, 95, 2, 0, 0, []),
  (.bipush 60, 96, 0, 0, 60, []),
  (.iload 10, 98, 10, 0, 0, []),
  (.iadd, 100, 0, 0, 0, []),
  (.invokevirtual 328, 101, 208, 0, 0, [5, 12, 0, 0, 0, 0]),
  (.ifCond .ne 9, 104, 61, 0, 0, []),
  (.iinc 10 1, 107, 10, 0, 1, []),
  (.goto (-38), 110, 39, 0, 0, []),
  (.iload 10, 113, 10, 0, 0, []),
  (.iload 5, 115, 5, 0, 0, []),
  (.if_icmp .ge 24, 117, 76, 0, 0, []),
  (.lload 6, 120, 6, 0, 0, []),
  (.lconst 1, 122, 0, 0, 1, []),
  (.iload 10, 123, 10, 0, 0, []),
  (.lshl, 125, 0, 0, 0, []),
  (.lor, 126, 0, 0, 0, []),
  (.lstore 6, 127, 6, 0, 0, []),
  (.aload_n 0, 129, 0, 0, 0, []),
  (.getfield 93, 130, 12, 40, 0, [2]),
  (.iload 8, 133, 8, 0, 0, []),
  (.iload 10, 135, 10, 0, 0, []),
  (.iastore, 137, 0, 0, 0, []),
  (.iinc 8 1, 138, 8, 0, 1, []),
  (.iinc 9 1, 141, 9, 0, 1, []),
  (.goto (-82), 144, 34, 0, 0, []),
  (.iconst 0, 147, 0, 0, 0, []),
  (.istore 9, 148, 9, 0, 0, []),
  (.iconst 0, 150, 0, 0, 0, []),
  (.istore 10, 151, 10, 0, 0, []),
  (.iload 10, 153, 10, 0, 0, []),
  (.iload 8, 155, 8, 0, 0, []),
  (.if_icmp .ge 121, 157, 147, 0, 0, []),
  (.aload_n 0, 160, 0, 0, 0, []),
  (.getfield 96, 161, 12, 41, 0, [2]),
  (.iload 10, 164, 10, 0, 0, []),
  (.iconst 1, 166, 0, 0, 1, []),
  (.iastore, 167, 0, 0, 0, []),
  (.iconst 0, 168, 0, 0, 0, []),
  (.istore 11, 169, 11, 0, 0, []),
  (.iload 11, 171, 11, 0, 0, []),
  (.iload 10, 173, 10, 0, 0, []),
  (.if_icmp .ge 71, 175, 132, 0, 0, []),
  (.aload_n 0, 178, 0, 0, 0, []),
  (.getfield 96, 179, 12, 41, 0, [2]),
  (.iload 10, 182, 10, 0, 0, []),
  (.aload_n 0, 184, 0, 0, 0, []),
  (.getfield 93, 185, 12, 40, 0, [2])]
def kc209_1 : List In_ := [(.iload 11, 188, 11, 0, 0, []),
  (.iaload, 190, 0, 0, 0, []),
  (.aload_n 0, 191, 0, 0, 0, []),
  (.getfield 93, 192, 12, 40, 0, [2]),
  (.iload 10, 195, 10, 0, 0, []),
  (.iaload, 197, 0, 0, 0, []),
  (.if_icmp .ge 34, 198, 125, 0, 0, []),
  (.aload_n 0, 201, 0, 0, 0, []),
  (.getfield 96, 202, 12, 41, 0, [2]),
  (.iload 11, 205, 11, 0, 0, []),
  (.iaload, 207, 0, 0, 0, []),
  (.iconst 1, 208, 0, 0, 1, []),
  (.iadd, 209, 0, 0, 0, []),
  (.aload_n 0, 210, 0, 0, 0, []),
  (.getfield 96, 211, 12, 41, 0, [2]),
  (.iload 10, 214, 10, 0, 0, []),
  (.iaload, 216, 0, 0, 0, []),
  (.if_icmp .le 15, 217, 125, 0, 0, []),
  (.aload_n 0, 220, 0, 0, 0, []),
  (.getfield 96, 221, 12, 41, 0, [2]),
  (.iload 11, 224, 11, 0, 0, []),
  (.iaload, 226, 0, 0, 0, []),
  (.iconst 1, 227, 0, 0, 1, []),
  (.iadd, 228, 0, 0, 0, []),
  (.goto 10, 229, 129, 0, 0, []),
  (.aload_n 0, 232, 0, 0, 0, []),
  (.getfield 96, 233, 12, 41, 0, [2]),
  (.iload 10, 236, 10, 0, 0, []),
  (.iaload, 238, 0, 0, 0, []),
  (.iastore, 239, 0, 0, 0, []),
  (.iinc 11 1, 240, 11, 0, 1, []),
  (.goto (-72), 243, 92, 0, 0, []),
  (.aload_n 0, 246, 0, 0, 0, []),
  (.getfield 96, 247, 12, 41, 0, [2]),
  (.iload 10, 250, 10, 0, 0, []),
  (.iaload, 252, 0, 0, 0, []),
  (.iload 9, 253, 9, 0, 0, []),
  (.if_icmp .le 13, 255, 143, 0, 0, []),
  (.aload_n 0, 258, 0, 0, 0, []),
  (.getfield 96, 259, 12, 41, 0, [2]),
  (.iload 10, 262, 10, 0, 0, []),
  (.iaload, 264, 0, 0, 0, []),
  (.goto 5, 265, 144, 0, 0, []),
  (.iload 9, 268, 9, 0, 0, []),
  (.istore 9, 270, 9, 0, 0, []),
  (.iinc 10 1, 272, 10, 0, 1, []),
  (.goto (-122), 275, 82, 0, 0, []),
  (.iload_n 3, 278, 3, 0, 0, []),
  (.ifCond .ne 8, 279, 151, 0, 0, []),
  (.iload 8, 282, 8, 0, 0, []),
  (.goto 21, 284, 161, 0, 0, []),
  (.iload_n 3, 287, 3, 0, 0, []),
  (.iconst 1, 288, 0, 0, 1, []),
  (.if_icmp .ne 11, 289, 158, 0, 0, []),
  (.iload 8, 292, 8, 0, 0, []),
  (.iload 9, 294, 9, 0, 0, []),
  (.isub, 296, 0, 0, 0, []),
  (.goto 8, 297, 161, 0, 0, []),
  (.iload 4, 300, 4, 0, 0, []),
  (.iload 8, 302, 8, 0, 0, []),
  (.isub, 304, 0, 0, 0, []),
  (.ireturn, 305, 0, 0, 0, [])]
def kc209 : List In_ := kc209_0 ++ kc209_1
/-- 210: Law_law([I)Z -/
def kc210_0 : List In_ := [(.new 7, 0, 11, 10, 0, [600000, 7302250]),
  (.dup, 3, 0, 0, 0, []),
  (.invokespecial 9, 4, 11, 0, 0, [1, 111, 5045, 600000, 7302250]),
  (.astore_n 1, 7, 1, 0, 0, []),
  (.new 10, 8, 12, 42, 0, [600000, 7302250]),
  (.dup, 11, 0, 0, 0, []),
  (.invokespecial 12, 12, 12, 0, 0, [1, 28, 7965, 600000, 7302250]),
  (.astore_n 2, 15, 2, 0, 0, []),
  (.iconst 0, 16, 0, 0, 0, []),
  (.istore_n 3, 17, 3, 0, 0, []),
  (.iload_n 3, 18, 3, 0, 0, []),
  (.aload_n 0, 19, 0, 0, 0, []),
  (.arraylength, 20, 0, 0, 0, []),
  (.iconst 5, 21, 0, 0, 5, []),
  (.isub, 22, 0, 0, 0, []),
  (.if_icmp .gt 1220, 23, 909, 0, 0, []),
  (.aload_n 0, 26, 0, 0, 0, []),
  (.iload_n 3, 27, 3, 0, 0, []),
  (.iaload, 28, 0, 0, 0, []),
  (.bipush 31, 29, 0, 0, 31, []),
  (.iand, 31, 0, 0, 0, []),
  (.tableswitch 1205 0 28 #[132, 165, 198, 221, 274, 307, 340, 373, 422, 475, 498, 521, 584, 607, 620, 653, 686, 739, 792, 835, 868, 901, 944, 977, 1000, 1033, 1086, 1119, 1162], 32, 907, 0, 0, [22, 49, 76, 93, 140, 167, 194, 221, 256, 303, 320, 337, 388, 405, 412, 439, 466, 513, 560, 597, 624, 651, 688, 715, 732, 759, 806, 833, 870]),
  (.aload_n 1, 164, 1, 0, 0, []),
  (.aload_n 0, 165, 0, 0, 0, []),
  (.iload_n 3, 166, 3, 0, 0, []),
  (.iconst 1, 167, 0, 0, 1, []),
  (.iadd, 168, 0, 0, 0, []),
  (.iaload, 169, 0, 0, 0, []),
  (.aload_n 0, 170, 0, 0, 0, []),
  (.iload_n 3, 171, 3, 0, 0, []),
  (.iconst 2, 172, 0, 0, 2, []),
  (.iadd, 173, 0, 0, 0, []),
  (.iaload, 174, 0, 0, 0, []),
  (.invokevirtual 13, 175, 16, 0, 0, [3, 11, 0, 0, 600000, 7302250]),
  (.aload_n 2, 178, 2, 0, 0, []),
  (.aload_n 0, 179, 0, 0, 0, []),
  (.iload_n 3, 180, 3, 0, 0, []),
  (.iconst 1, 181, 0, 0, 1, []),
  (.iadd, 182, 0, 0, 0, []),
  (.iaload, 183, 0, 0, 0, []),
  (.aload_n 0, 184, 0, 0, 0, []),
  (.iload_n 3, 185, 3, 0, 0, []),
  (.iconst 2, 186, 0, 0, 2, []),
  (.iadd, 187, 0, 0, 0, []),
  (.iaload, 188, 0, 0, 0, []),
  (.invokevirtual 17, 189, 18, 0, 0, [3, 12, 0, 0, 600000, 7302250]),
  (.if_icmp .eq 1045, 192, 907, 0, 0, []),
  (.iconst 0, 195, 0, 0, 0, []),
  (.ireturn, 196, 1, 0, 0, []),
  (.aload_n 1, 197, 1, 0, 0, []),
  (.aload_n 0, 198, 0, 0, 0, []),
  (.iload_n 3, 199, 3, 0, 0, []),
  (.iconst 1, 200, 0, 0, 1, []),
  (.iadd, 201, 0, 0, 0, []),
  (.iaload, 202, 0, 0, 0, []),
  (.aload_n 0, 203, 0, 0, 0, []),
  (.iload_n 3, 204, 3, 0, 0, []),
  (.iconst 2, 205, 0, 0, 2, []),
  (.iadd, 206, 0, 0, 0, []),
  (.iaload, 207, 0, 0, 0, []),
  (.invokevirtual 18, 208, 23, 0, 0, [3, 11, 0, 0, 600000, 7302250]),
  (.aload_n 2, 211, 2, 0, 0, []),
  (.aload_n 0, 212, 0, 0, 0, []),
  (.iload_n 3, 213, 3, 0, 0, []),
  (.iconst 1, 214, 0, 0, 1, []),
  (.iadd, 215, 0, 0, 0, []),
  (.iaload, 216, 0, 0, 0, []),
  (.aload_n 0, 217, 0, 0, 0, []),
  (.iload_n 3, 218, 3, 0, 0, []),
  (.iconst 2, 219, 0, 0, 2, []),
  (.iadd, 220, 0, 0, 0, []),
  (.iaload, 221, 0, 0, 0, []),
  (.invokevirtual 21, 222, 26, 0, 0, [3, 12, 0, 0, 600000, 7302250]),
  (.if_icmp .eq 1012, 225, 907, 0, 0, []),
  (.iconst 0, 228, 0, 0, 0, []),
  (.ireturn, 229, 1, 0, 0, []),
  (.aload_n 1, 230, 1, 0, 0, []),
  (.aload_n 0, 231, 0, 0, 0, []),
  (.iload_n 3, 232, 3, 0, 0, []),
  (.iconst 1, 233, 0, 0, 1, []),
  (.iadd, 234, 0, 0, 0, []),
  (.iaload, 235, 0, 0, 0, []),
  (.invokevirtual 22, 236, 31, 0, 0, [2, 11, 0, 0, 600000, 7302250]),
  (.aload_n 2, 239, 2, 0, 0, []),
  (.aload_n 0, 240, 0, 0, 0, []),
  (.iload_n 3, 241, 3, 0, 0, []),
  (.iconst 1, 242, 0, 0, 1, []),
  (.iadd, 243, 0, 0, 0, []),
  (.iaload, 244, 0, 0, 0, []),
  (.invokevirtual 26, 245, 33, 0, 0, [2, 12, 0, 0, 600000, 7302250]),
  (.if_icmp .eq 989, 248, 907, 0, 0, []),
  (.iconst 0, 251, 0, 0, 0, []),
  (.ireturn, 252, 1, 0, 0, []),
  (.aload_n 1, 253, 1, 0, 0, []),
  (.aload_n 0, 254, 0, 0, 0, []),
  (.iload_n 3, 255, 3, 0, 0, []),
  (.iconst 1, 256, 0, 0, 1, []),
  (.iadd, 257, 0, 0, 0, []),
  (.iaload, 258, 0, 0, 0, []),
  (.aload_n 0, 259, 0, 0, 0, [])]
def kc210_1 : List In_ := [(.iload_n 3, 260, 3, 0, 0, []),
  (.iconst 2, 261, 0, 0, 2, []),
  (.iadd, 262, 0, 0, 0, []),
  (.iaload, 263, 0, 0, 0, []),
  (.aload_n 0, 264, 0, 0, 0, []),
  (.iload_n 3, 265, 3, 0, 0, []),
  (.iconst 3, 266, 0, 0, 3, []),
  (.iadd, 267, 0, 0, 0, []),
  (.iaload, 268, 0, 0, 0, []),
  (.aload_n 0, 269, 0, 0, 0, []),
  (.iload_n 3, 270, 3, 0, 0, []),
  (.iconst 4, 271, 0, 0, 4, []),
  (.iadd, 272, 0, 0, 0, []),
  (.iaload, 273, 0, 0, 0, []),
  (.invokevirtual 27, 274, 35, 0, 0, [5, 11, 0, 0, 600000, 7302250]),
  (.aload_n 2, 277, 2, 0, 0, []),
  (.aload_n 0, 278, 0, 0, 0, []),
  (.iload_n 3, 279, 3, 0, 0, []),
  (.iconst 1, 280, 0, 0, 1, []),
  (.iadd, 281, 0, 0, 0, []),
  (.iaload, 282, 0, 0, 0, []),
  (.aload_n 0, 283, 0, 0, 0, []),
  (.iload_n 3, 284, 3, 0, 0, []),
  (.iconst 2, 285, 0, 0, 2, []),
  (.iadd, 286, 0, 0, 0, []),
  (.iaload, 287, 0, 0, 0, []),
  (.aload_n 0, 288, 0, 0, 0, []),
  (.iload_n 3, 289, 3, 0, 0, []),
  (.iconst 3, 290, 0, 0, 3, []),
  (.iadd, 291, 0, 0, 0, []),
  (.iaload, 292, 0, 0, 0, []),
  (.aload_n 0, 293, 0, 0, 0, []),
  (.iload_n 3, 294, 3, 0, 0, []),
  (.iconst 4, 295, 0, 0, 4, []),
  (.iadd, 296, 0, 0, 0, []),
  (.iaload, 297, 0, 0, 0, []),
  (.invokevirtual 31, 298, 37, 0, 0, [5, 12, 0, 0, 600000, 7302250]),
  (.if_icmp .eq 936, 301, 907, 0, 0, []),
  (.iconst 0, 304, 0, 0, 0, []),
  (.ireturn, 305, 1, 0, 0, []),
  (.aload_n 1, 306, 1, 0, 0, []),
  (.aload_n 0, 307, 0, 0, 0, []),
  (.iload_n 3, 308, 3, 0, 0, []),
  (.iconst 1, 309, 0, 0, 1, []),
  (.iadd, 310, 0, 0, 0, []),
  (.iaload, 311, 0, 0, 0, []),
  (.aload_n 0, 312, 0, 0, 0, []),
  (.iload_n 3, 313, 3, 0, 0, []),
  (.iconst 2, 314, 0, 0, 2, []),
  (.iadd, 315, 0, 0, 0, []),
  (.iaload, 316, 0, 0, 0, []),
  (.invokevirtual 32, 317, 44, 0, 0, [3, 11, 0, 0, 600000, 7302250]),
  (.aload_n 2, 320, 2, 0, 0, []),
  (.aload_n 0, 321, 0, 0, 0, []),
  (.iload_n 3, 322, 3, 0, 0, []),
  (.iconst 1, 323, 0, 0, 1, []),
  (.iadd, 324, 0, 0, 0, []),
  (.iaload, 325, 0, 0, 0, []),
  (.aload_n 0, 326, 0, 0, 0, []),
  (.iload_n 3, 327, 3, 0, 0, []),
  (.iconst 2, 328, 0, 0, 2, []),
  (.iadd, 329, 0, 0, 0, []),
  (.iaload, 330, 0, 0, 0, []),
  (.invokevirtual 35, 331, 50, 0, 0, [3, 12, 0, 0, 600000, 7302250]),
  (.if_icmp .eq 903, 334, 907, 0, 0, []),
  (.iconst 0, 337, 0, 0, 0, []),
  (.ireturn, 338, 1, 0, 0, []),
  (.aload_n 1, 339, 1, 0, 0, []),
  (.aload_n 0, 340, 0, 0, 0, []),
  (.iload_n 3, 341, 3, 0, 0, []),
  (.iconst 1, 342, 0, 0, 1, []),
  (.iadd, 343, 0, 0, 0, []),
  (.iaload, 344, 0, 0, 0, []),
  (.aload_n 0, 345, 0, 0, 0, []),
  (.iload_n 3, 346, 3, 0, 0, []),
  (.iconst 2, 347, 0, 0, 2, []),
  (.iadd, 348, 0, 0, 0, []),
  (.iaload, 349, 0, 0, 0, []),
  (.invokevirtual 36, 350, 52, 0, 0, [3, 11, 0, 0, 600000, 7302250]),
  (.aload_n 2, 353, 2, 0, 0, []),
  (.aload_n 0, 354, 0, 0, 0, []),
  (.iload_n 3, 355, 3, 0, 0, []),
  (.iconst 1, 356, 0, 0, 1, []),
  (.iadd, 357, 0, 0, 0, []),
  (.iaload, 358, 0, 0, 0, []),
  (.aload_n 0, 359, 0, 0, 0, []),
  (.iload_n 3, 360, 3, 0, 0, []),
  (.iconst 2, 361, 0, 0, 2, []),
  (.iadd, 362, 0, 0, 0, []),
  (.iaload, 363, 0, 0, 0, []),
  (.invokevirtual 39, 364, 53, 0, 0, [3, 12, 0, 0, 600000, 7302250]),
  (.if_icmp .eq 870, 367, 907, 0, 0, []),
  (.iconst 0, 370, 0, 0, 0, []),
  (.ireturn, 371, 1, 0, 0, []),
  (.aload_n 1, 372, 1, 0, 0, []),
  (.aload_n 0, 373, 0, 0, 0, []),
  (.iload_n 3, 374, 3, 0, 0, []),
  (.iconst 1, 375, 0, 0, 1, []),
  (.iadd, 376, 0, 0, 0, []),
  (.iaload, 377, 0, 0, 0, [])]
def kc210_2 : List In_ := [(.aload_n 0, 378, 0, 0, 0, []),
  (.iload_n 3, 379, 3, 0, 0, []),
  (.iconst 2, 380, 0, 0, 2, []),
  (.iadd, 381, 0, 0, 0, []),
  (.iaload, 382, 0, 0, 0, []),
  (.invokevirtual 40, 383, 55, 0, 0, [3, 11, 0, 0, 600000, 7302250]),
  (.aload_n 2, 386, 2, 0, 0, []),
  (.aload_n 0, 387, 0, 0, 0, []),
  (.iload_n 3, 388, 3, 0, 0, []),
  (.iconst 1, 389, 0, 0, 1, []),
  (.iadd, 390, 0, 0, 0, []),
  (.iaload, 391, 0, 0, 0, []),
  (.aload_n 0, 392, 0, 0, 0, []),
  (.iload_n 3, 393, 3, 0, 0, []),
  (.iconst 2, 394, 0, 0, 2, []),
  (.iadd, 395, 0, 0, 0, []),
  (.iaload, 396, 0, 0, 0, []),
  (.invokevirtual 43, 397, 57, 0, 0, [3, 12, 0, 0, 600000, 7302250]),
  (.if_icmp .eq 837, 400, 907, 0, 0, []),
  (.iconst 0, 403, 0, 0, 0, []),
  (.ireturn, 404, 1, 0, 0, []),
  (.aload_n 1, 405, 1, 0, 0, []),
  (.aload_n 0, 406, 0, 0, 0, []),
  (.iload_n 3, 407, 3, 0, 0, []),
  (.iconst 1, 408, 0, 0, 1, []),
  (.iadd, 409, 0, 0, 0, []),
  (.iaload, 410, 0, 0, 0, []),
  (.aload_n 0, 411, 0, 0, 0, []),
  (.iload_n 3, 412, 3, 0, 0, []),
  (.iconst 2, 413, 0, 0, 2, []),
  (.iadd, 414, 0, 0, 0, []),
  (.iaload, 415, 0, 0, 0, []),
  (.ifCond .eq 7, 416, 235, 0, 0, []),
  (.iconst 1, 419, 0, 0, 1, []),
  (.goto 4, 420, 236, 0, 0, []),
  (.iconst 0, 423, 0, 0, 0, []),
  (.invokevirtual 44, 424, 58, 0, 0, [3, 11, 0, 0, 600000, 7302250]),
  (.aload_n 2, 427, 2, 0, 0, []),
  (.aload_n 0, 428, 0, 0, 0, []),
  (.iload_n 3, 429, 3, 0, 0, []),
  (.iconst 1, 430, 0, 0, 1, []),
  (.iadd, 431, 0, 0, 0, []),
  (.iaload, 432, 0, 0, 0, []),
  (.aload_n 0, 433, 0, 0, 0, []),
  (.iload_n 3, 434, 3, 0, 0, []),
  (.iconst 2, 435, 0, 0, 2, []),
  (.iadd, 436, 0, 0, 0, []),
  (.iaload, 437, 0, 0, 0, []),
  (.ifCond .eq 7, 438, 251, 0, 0, []),
  (.iconst 1, 441, 0, 0, 1, []),
  (.goto 4, 442, 252, 0, 0, []),
  (.iconst 0, 445, 0, 0, 0, []),
  (.invokevirtual 48, 446, 59, 0, 0, [3, 12, 0, 0, 600000, 7302250]),
  (.if_icmp .eq 788, 449, 907, 0, 0, []),
  (.iconst 0, 452, 0, 0, 0, []),
  (.ireturn, 453, 1, 0, 0, []),
  (.aload_n 1, 454, 1, 0, 0, []),
  (.aload_n 0, 455, 0, 0, 0, []),
  (.iload_n 3, 456, 3, 0, 0, []),
  (.iconst 1, 457, 0, 0, 1, []),
  (.iadd, 458, 0, 0, 0, []),
  (.iaload, 459, 0, 0, 0, []),
  (.aload_n 0, 460, 0, 0, 0, []),
  (.iload_n 3, 461, 3, 0, 0, []),
  (.iconst 2, 462, 0, 0, 2, []),
  (.iadd, 463, 0, 0, 0, []),
  (.iaload, 464, 0, 0, 0, []),
  (.aload_n 0, 465, 0, 0, 0, []),
  (.iload_n 3, 466, 3, 0, 0, []),
  (.iconst 3, 467, 0, 0, 3, []),
  (.iadd, 468, 0, 0, 0, []),
  (.iaload, 469, 0, 0, 0, []),
  (.aload_n 0, 470, 0, 0, 0, []),
  (.iload_n 3, 471, 3, 0, 0, []),
  (.iconst 4, 472, 0, 0, 4, []),
  (.iadd, 473, 0, 0, 0, []),
  (.iaload, 474, 0, 0, 0, []),
  (.invokevirtual 49, 475, 61, 0, 0, [5, 11, 0, 0, 600000, 7302250]),
  (.aload_n 2, 478, 2, 0, 0, []),
  (.aload_n 0, 479, 0, 0, 0, []),
  (.iload_n 3, 480, 3, 0, 0, []),
  (.iconst 1, 481, 0, 0, 1, []),
  (.iadd, 482, 0, 0, 0, []),
  (.iaload, 483, 0, 0, 0, []),
  (.aload_n 0, 484, 0, 0, 0, []),
  (.iload_n 3, 485, 3, 0, 0, []),
  (.iconst 2, 486, 0, 0, 2, []),
  (.iadd, 487, 0, 0, 0, []),
  (.iaload, 488, 0, 0, 0, []),
  (.aload_n 0, 489, 0, 0, 0, []),
  (.iload_n 3, 490, 3, 0, 0, []),
  (.iconst 3, 491, 0, 0, 3, []),
  (.iadd, 492, 0, 0, 0, []),
  (.iaload, 493, 0, 0, 0, []),
  (.aload_n 0, 494, 0, 0, 0, []),
  (.iload_n 3, 495, 3, 0, 0, []),
  (.iconst 4, 496, 0, 0, 4, []),
  (.iadd, 497, 0, 0, 0, []),
  (.iaload, 498, 0, 0, 0, []),
  (.invokevirtual 52, 499, 62, 0, 0, [5, 12, 0, 0, 600000, 7302250])]
def kc210_3 : List In_ := [(.if_icmp .eq 735, 502, 907, 0, 0, []),
  (.iconst 0, 505, 0, 0, 0, []),
  (.ireturn, 506, 1, 0, 0, []),
  (.aload_n 1, 507, 1, 0, 0, []),
  (.aload_n 0, 508, 0, 0, 0, []),
  (.iload_n 3, 509, 3, 0, 0, []),
  (.iconst 1, 510, 0, 0, 1, []),
  (.iadd, 511, 0, 0, 0, []),
  (.iaload, 512, 0, 0, 0, []),
  (.invokevirtual 53, 513, 64, 0, 0, [2, 11, 0, 0, 600000, 7302250]),
  (.aload_n 2, 516, 2, 0, 0, []),
  (.aload_n 0, 517, 0, 0, 0, []),
  (.iload_n 3, 518, 3, 0, 0, []),
  (.iconst 1, 519, 0, 0, 1, []),
  (.iadd, 520, 0, 0, 0, []),
  (.iaload, 521, 0, 0, 0, []),
  (.invokevirtual 56, 522, 65, 0, 0, [2, 12, 0, 0, 600000, 7302250]),
  (.if_icmp .eq 712, 525, 907, 0, 0, []),
  (.iconst 0, 528, 0, 0, 0, []),
  (.ireturn, 529, 1, 0, 0, []),
  (.aload_n 1, 530, 1, 0, 0, []),
  (.aload_n 0, 531, 0, 0, 0, []),
  (.iload_n 3, 532, 3, 0, 0, []),
  (.iconst 1, 533, 0, 0, 1, []),
  (.iadd, 534, 0, 0, 0, []),
  (.iaload, 535, 0, 0, 0, []),
  (.invokevirtual 57, 536, 69, 0, 0, [2, 11, 0, 0, 600000, 7302250]),
  (.aload_n 2, 539, 2, 0, 0, []),
  (.aload_n 0, 540, 0, 0, 0, []),
  (.iload_n 3, 541, 3, 0, 0, []),
  (.iconst 1, 542, 0, 0, 1, []),
  (.iadd, 543, 0, 0, 0, []),
  (.iaload, 544, 0, 0, 0, []),
  (.invokevirtual 60, 545, 70, 0, 0, [2, 12, 0, 0, 600000, 7302250]),
  (.if_icmp .eq 689, 548, 907, 0, 0, []),
  (.iconst 0, 551, 0, 0, 0, []),
  (.ireturn, 552, 1, 0, 0, []),
  (.aload_n 1, 553, 1, 0, 0, []),
  (.aload_n 0, 554, 0, 0, 0, []),
  (.iload_n 3, 555, 3, 0, 0, []),
  (.iconst 1, 556, 0, 0, 1, []),
  (.iadd, 557, 0, 0, 0, []),
  (.iaload, 558, 0, 0, 0, []),
  (.aload_n 0, 559, 0, 0, 0, []),
  (.iload_n 3, 560, 3, 0, 0, []),
  (.iconst 2, 561, 0, 0, 2, []),
  (.iadd, 562, 0, 0, 0, []),
  (.iaload, 563, 0, 0, 0, []),
  (.i2l, 564, 0, 0, 0, []),
  (.bipush 32, 565, 0, 0, 32, []),
  (.lshl, 567, 0, 0, 0, []),
  (.aload_n 0, 568, 0, 0, 0, []),
  (.iload_n 3, 569, 3, 0, 0, []),
  (.iconst 3, 570, 0, 0, 3, []),
  (.iadd, 571, 0, 0, 0, []),
  (.iaload, 572, 0, 0, 0, []),
  (.i2l, 573, 0, 0, 0, []),
  (.ldc2_w 61, 574, 0, 0, 4294967295, []),
  (.land, 577, 0, 0, 0, []),
  (.lor, 578, 0, 0, 0, []),
  (.invokevirtual 63, 579, 72, 0, 0, [3, 11, 0, 0, 600000, 7302250]),
  (.aload_n 2, 582, 2, 0, 0, []),
  (.aload_n 0, 583, 0, 0, 0, []),
  (.iload_n 3, 584, 3, 0, 0, []),
  (.iconst 1, 585, 0, 0, 1, []),
  (.iadd, 586, 0, 0, 0, []),
  (.iaload, 587, 0, 0, 0, []),
  (.aload_n 0, 588, 0, 0, 0, []),
  (.iload_n 3, 589, 3, 0, 0, []),
  (.iconst 2, 590, 0, 0, 2, []),
  (.iadd, 591, 0, 0, 0, []),
  (.iaload, 592, 0, 0, 0, []),
  (.i2l, 593, 0, 0, 0, []),
  (.bipush 32, 594, 0, 0, 32, []),
  (.lshl, 596, 0, 0, 0, []),
  (.aload_n 0, 597, 0, 0, 0, []),
  (.iload_n 3, 598, 3, 0, 0, []),
  (.iconst 3, 599, 0, 0, 3, []),
  (.iadd, 600, 0, 0, 0, []),
  (.iaload, 601, 0, 0, 0, []),
  (.i2l, 602, 0, 0, 0, []),
  (.ldc2_w 61, 603, 0, 0, 4294967295, []),
  (.land, 606, 0, 0, 0, []),
  (.lor, 607, 0, 0, 0, []),
  (.invokevirtual 67, 608, 73, 0, 0, [3, 12, 0, 0, 600000, 7302250]),
  (.if_icmp .eq 626, 611, 907, 0, 0, []),
  (.iconst 0, 614, 0, 0, 0, []),
  (.ireturn, 615, 1, 0, 0, []),
  (.aload_n 1, 616, 1, 0, 0, []),
  (.aload_n 0, 617, 0, 0, 0, []),
  (.iload_n 3, 618, 3, 0, 0, []),
  (.iconst 1, 619, 0, 0, 1, []),
  (.iadd, 620, 0, 0, 0, []),
  (.iaload, 621, 0, 0, 0, []),
  (.invokevirtual 68, 622, 93, 0, 0, [2, 11, 0, 0, 600000, 7302250]),
  (.aload_n 2, 625, 2, 0, 0, []),
  (.aload_n 0, 626, 0, 0, 0, []),
  (.iload_n 3, 627, 3, 0, 0, []),
  (.iconst 1, 628, 0, 0, 1, []),
  (.iadd, 629, 0, 0, 0, [])]
def kc210_4 : List In_ := [(.iaload, 630, 0, 0, 0, []),
  (.invokevirtual 71, 631, 103, 0, 0, [2, 12, 0, 0, 600000, 7302250]),
  (.if_icmp .eq 603, 634, 907, 0, 0, []),
  (.iconst 0, 637, 0, 0, 0, []),
  (.ireturn, 638, 1, 0, 0, []),
  (.aload_n 1, 639, 1, 0, 0, []),
  (.invokevirtual 72, 640, 104, 0, 0, [1, 11, 0, 0, 600000, 7302250]),
  (.aload_n 2, 643, 2, 0, 0, []),
  (.invokevirtual 76, 644, 105, 0, 0, [1, 12, 0, 0, 600000, 7302250]),
  (.if_icmp .eq 590, 647, 907, 0, 0, []),
  (.iconst 0, 650, 0, 0, 0, []),
  (.ireturn, 651, 1, 0, 0, []),
  (.aload_n 1, 652, 1, 0, 0, []),
  (.aload_n 0, 653, 0, 0, 0, []),
  (.iload_n 3, 654, 3, 0, 0, []),
  (.iconst 1, 655, 0, 0, 1, []),
  (.iadd, 656, 0, 0, 0, []),
  (.iaload, 657, 0, 0, 0, []),
  (.aload_n 0, 658, 0, 0, 0, []),
  (.iload_n 3, 659, 3, 0, 0, []),
  (.iconst 2, 660, 0, 0, 2, []),
  (.iadd, 661, 0, 0, 0, []),
  (.iaload, 662, 0, 0, 0, []),
  (.invokevirtual 77, 663, 108, 0, 0, [3, 11, 0, 0, 600000, 7302250]),
  (.aload_n 2, 666, 2, 0, 0, []),
  (.aload_n 0, 667, 0, 0, 0, []),
  (.iload_n 3, 668, 3, 0, 0, []),
  (.iconst 1, 669, 0, 0, 1, []),
  (.iadd, 670, 0, 0, 0, []),
  (.iaload, 671, 0, 0, 0, []),
  (.aload_n 0, 672, 0, 0, 0, []),
  (.iload_n 3, 673, 3, 0, 0, []),
  (.iconst 2, 674, 0, 0, 2, []),
  (.iadd, 675, 0, 0, 0, []),
  (.iaload, 676, 0, 0, 0, []),
  (.invokevirtual 80, 677, 111, 0, 0, [3, 12, 0, 0, 600000, 7302250]),
  (.if_icmp .eq 557, 680, 907, 0, 0, []),
  (.iconst 0, 683, 0, 0, 0, []),
  (.ireturn, 684, 1, 0, 0, []),
  (.aload_n 1, 685, 1, 0, 0, []),
  (.aload_n 0, 686, 0, 0, 0, []),
  (.iload_n 3, 687, 3, 0, 0, []),
  (.iconst 1, 688, 0, 0, 1, []),
  (.iadd, 689, 0, 0, 0, []),
  (.iaload, 690, 0, 0, 0, []),
  (.aload_n 0, 691, 0, 0, 0, []),
  (.iload_n 3, 692, 3, 0, 0, []),
  (.iconst 2, 693, 0, 0, 2, []),
  (.iadd, 694, 0, 0, 0, []),
  (.iaload, 695, 0, 0, 0, []),
  (.invokevirtual 81, 696, 114, 0, 0, [3, 11, 0, 0, 600000, 7302250]),
  (.aload_n 2, 699, 2, 0, 0, []),
  (.aload_n 0, 700, 0, 0, 0, []),
  (.iload_n 3, 701, 3, 0, 0, []),
  (.iconst 1, 702, 0, 0, 1, []),
  (.iadd, 703, 0, 0, 0, []),
  (.iaload, 704, 0, 0, 0, []),
  (.aload_n 0, 705, 0, 0, 0, []),
  (.iload_n 3, 706, 3, 0, 0, []),
  (.iconst 2, 707, 0, 0, 2, []),
  (.iadd, 708, 0, 0, 0, []),
  (.iaload, 709, 0, 0, 0, []),
  (.invokevirtual 84, 710, 117, 0, 0, [3, 12, 0, 0, 600000, 7302250]),
  (.if_icmp .eq 524, 713, 907, 0, 0, []),
  (.iconst 0, 716, 0, 0, 0, []),
  (.ireturn, 717, 1, 0, 0, []),
  (.aload_n 1, 718, 1, 0, 0, []),
  (.aload_n 0, 719, 0, 0, 0, []),
  (.iload_n 3, 720, 3, 0, 0, []),
  (.iconst 1, 721, 0, 0, 1, []),
  (.iadd, 722, 0, 0, 0, []),
  (.iaload, 723, 0, 0, 0, []),
  (.aload_n 0, 724, 0, 0, 0, []),
  (.iload_n 3, 725, 3, 0, 0, []),
  (.iconst 2, 726, 0, 0, 2, []),
  (.iadd, 727, 0, 0, 0, []),
  (.iaload, 728, 0, 0, 0, []),
  (.aload_n 0, 729, 0, 0, 0, []),
  (.iload_n 3, 730, 3, 0, 0, []),
  (.iconst 3, 731, 0, 0, 3, []),
  (.iadd, 732, 0, 0, 0, []),
  (.iaload, 733, 0, 0, 0, []),
  (.aload_n 0, 734, 0, 0, 0, []),
  (.iload_n 3, 735, 3, 0, 0, []),
  (.iconst 4, 736, 0, 0, 4, []),
  (.iadd, 737, 0, 0, 0, []),
  (.iaload, 738, 0, 0, 0, []),
  (.invokevirtual 85, 739, 132, 0, 0, [5, 11, 0, 0, 600000, 7302250]),
  (.aload_n 2, 742, 2, 0, 0, []),
  (.aload_n 0, 743, 0, 0, 0, []),
  (.iload_n 3, 744, 3, 0, 0, []),
  (.iconst 1, 745, 0, 0, 1, []),
  (.iadd, 746, 0, 0, 0, []),
  (.iaload, 747, 0, 0, 0, []),
  (.aload_n 0, 748, 0, 0, 0, []),
  (.iload_n 3, 749, 3, 0, 0, []),
  (.iconst 2, 750, 0, 0, 2, []),
  (.iadd, 751, 0, 0, 0, []),
  (.iaload, 752, 0, 0, 0, []),
  (.aload_n 0, 753, 0, 0, 0, [])]
def kc210_5 : List In_ := [(.iload_n 3, 754, 3, 0, 0, []),
  (.iconst 3, 755, 0, 0, 3, []),
  (.iadd, 756, 0, 0, 0, []),
  (.iaload, 757, 0, 0, 0, []),
  (.aload_n 0, 758, 0, 0, 0, []),
  (.iload_n 3, 759, 3, 0, 0, []),
  (.iconst 4, 760, 0, 0, 4, []),
  (.iadd, 761, 0, 0, 0, []),
  (.iaload, 762, 0, 0, 0, []),
  (.invokevirtual 88, 763, 135, 0, 0, [5, 12, 0, 0, 600000, 7302250]),
  (.if_icmp .eq 471, 766, 907, 0, 0, []),
  (.iconst 0, 769, 0, 0, 0, []),
  (.ireturn, 770, 1, 0, 0, []),
  (.aload_n 1, 771, 1, 0, 0, []),
  (.aload_n 0, 772, 0, 0, 0, []),
  (.iload_n 3, 773, 3, 0, 0, []),
  (.iconst 1, 774, 0, 0, 1, []),
  (.iadd, 775, 0, 0, 0, []),
  (.iaload, 776, 0, 0, 0, []),
  (.aload_n 0, 777, 0, 0, 0, []),
  (.iload_n 3, 778, 3, 0, 0, []),
  (.iconst 2, 779, 0, 0, 2, []),
  (.iadd, 780, 0, 0, 0, []),
  (.iaload, 781, 0, 0, 0, []),
  (.aload_n 0, 782, 0, 0, 0, []),
  (.iload_n 3, 783, 3, 0, 0, []),
  (.iconst 3, 784, 0, 0, 3, []),
  (.iadd, 785, 0, 0, 0, []),
  (.iaload, 786, 0, 0, 0, []),
  (.aload_n 0, 787, 0, 0, 0, []),
  (.iload_n 3, 788, 3, 0, 0, []),
  (.iconst 4, 789, 0, 0, 4, []),
  (.iadd, 790, 0, 0, 0, []),
  (.iaload, 791, 0, 0, 0, []),
  (.invokevirtual 89, 792, 139, 0, 0, [5, 11, 0, 0, 600000, 7302250]),
  (.aload_n 2, 795, 2, 0, 0, []),
  (.aload_n 0, 796, 0, 0, 0, []),
  (.iload_n 3, 797, 3, 0, 0, []),
  (.iconst 1, 798, 0, 0, 1, []),
  (.iadd, 799, 0, 0, 0, []),
  (.iaload, 800, 0, 0, 0, []),
  (.aload_n 0, 801, 0, 0, 0, []),
  (.iload_n 3, 802, 3, 0, 0, []),
  (.iconst 2, 803, 0, 0, 2, []),
  (.iadd, 804, 0, 0, 0, []),
  (.iaload, 805, 0, 0, 0, []),
  (.aload_n 0, 806, 0, 0, 0, []),
  (.iload_n 3, 807, 3, 0, 0, []),
  (.iconst 3, 808, 0, 0, 3, []),
  (.iadd, 809, 0, 0, 0, []),
  (.iaload, 810, 0, 0, 0, []),
  (.aload_n 0, 811, 0, 0, 0, []),
  (.iload_n 3, 812, 3, 0, 0, []),
  (.iconst 4, 813, 0, 0, 4, []),
  (.iadd, 814, 0, 0, 0, []),
  (.iaload, 815, 0, 0, 0, []),
  (.invokevirtual 92, 816, 145, 0, 0, [5, 12, 0, 0, 600000, 7302250]),
  (.if_icmp .eq 418, 819, 907, 0, 0, []),
  (.iconst 0, 822, 0, 0, 0, []),
  (.ireturn, 823, 1, 0, 0, []),
  (.aload_n 1, 824, 1, 0, 0, []),
  (.aload_n 0, 825, 0, 0, 0, []),
  (.iload_n 3, 826, 3, 0, 0, []),
  (.iconst 1, 827, 0, 0, 1, []),
  (.iadd, 828, 0, 0, 0, []),
  (.iaload, 829, 0, 0, 0, []),
  (.aload_n 0, 830, 0, 0, 0, []),
  (.iload_n 3, 831, 3, 0, 0, []),
  (.iconst 2, 832, 0, 0, 2, []),
  (.iadd, 833, 0, 0, 0, []),
  (.iaload, 834, 0, 0, 0, []),
  (.aload_n 0, 835, 0, 0, 0, []),
  (.iload_n 3, 836, 3, 0, 0, []),
  (.iconst 3, 837, 0, 0, 3, []),
  (.iadd, 838, 0, 0, 0, []),
  (.iaload, 839, 0, 0, 0, []),
  (.invokevirtual 93, 840, 151, 0, 0, [4, 11, 0, 0, 600000, 7302250]),
  (.aload_n 2, 843, 2, 0, 0, []),
  (.aload_n 0, 844, 0, 0, 0, []),
  (.iload_n 3, 845, 3, 0, 0, []),
  (.iconst 1, 846, 0, 0, 1, []),
  (.iadd, 847, 0, 0, 0, []),
  (.iaload, 848, 0, 0, 0, []),
  (.aload_n 0, 849, 0, 0, 0, []),
  (.iload_n 3, 850, 3, 0, 0, []),
  (.iconst 2, 851, 0, 0, 2, []),
  (.iadd, 852, 0, 0, 0, []),
  (.iaload, 853, 0, 0, 0, []),
  (.aload_n 0, 854, 0, 0, 0, []),
  (.iload_n 3, 855, 3, 0, 0, []),
  (.iconst 3, 856, 0, 0, 3, []),
  (.iadd, 857, 0, 0, 0, []),
  (.iaload, 858, 0, 0, 0, []),
  (.invokevirtual 97, 859, 156, 0, 0, [4, 12, 0, 0, 600000, 7302250]),
  (.if_icmp .eq 375, 862, 907, 0, 0, []),
  (.iconst 0, 865, 0, 0, 0, []),
  (.ireturn, 866, 1, 0, 0, []),
  (.aload_n 1, 867, 1, 0, 0, []),
  (.aload_n 0, 868, 0, 0, 0, []),
  (.iload_n 3, 869, 3, 0, 0, [])]
def kc210_6 : List In_ := [(.iconst 1, 870, 0, 0, 1, []),
  (.iadd, 871, 0, 0, 0, []),
  (.iaload, 872, 0, 0, 0, []),
  (.aload_n 0, 873, 0, 0, 0, []),
  (.iload_n 3, 874, 3, 0, 0, []),
  (.iconst 2, 875, 0, 0, 2, []),
  (.iadd, 876, 0, 0, 0, []),
  (.iaload, 877, 0, 0, 0, []),
  (.invokevirtual 98, 878, 160, 0, 0, [3, 11, 0, 0, 600000, 7302250]),
  (.aload_n 2, 881, 2, 0, 0, []),
  (.aload_n 0, 882, 0, 0, 0, []),
  (.iload_n 3, 883, 3, 0, 0, []),
  (.iconst 1, 884, 0, 0, 1, []),
  (.iadd, 885, 0, 0, 0, []),
  (.iaload, 886, 0, 0, 0, []),
  (.aload_n 0, 887, 0, 0, 0, []),
  (.iload_n 3, 888, 3, 0, 0, []),
  (.iconst 2, 889, 0, 0, 2, []),
  (.iadd, 890, 0, 0, 0, []),
  (.iaload, 891, 0, 0, 0, []),
  (.invokevirtual 101, 892, 162, 0, 0, [3, 12, 0, 0, 600000, 7302250]),
  (.if_icmp .eq 342, 895, 907, 0, 0, []),
  (.iconst 0, 898, 0, 0, 0, []),
  (.ireturn, 899, 1, 0, 0, []),
  (.aload_n 1, 900, 1, 0, 0, []),
  (.aload_n 0, 901, 0, 0, 0, []),
  (.iload_n 3, 902, 3, 0, 0, []),
  (.iconst 1, 903, 0, 0, 1, []),
  (.iadd, 904, 0, 0, 0, []),
  (.iaload, 905, 0, 0, 0, []),
  (.aload_n 0, 906, 0, 0, 0, []),
  (.iload_n 3, 907, 3, 0, 0, []),
  (.iconst 2, 908, 0, 0, 2, []),
  (.iadd, 909, 0, 0, 0, []),
  (.iaload, 910, 0, 0, 0, []),
  (.invokevirtual 102, 911, 163, 0, 0, [3, 11, 0, 0, 600000, 7302250]),
  (.aload_n 2, 914, 2, 0, 0, []),
  (.aload_n 0, 915, 0, 0, 0, []),
  (.iload_n 3, 916, 3, 0, 0, []),
  (.iconst 1, 917, 0, 0, 1, []),
  (.iadd, 918, 0, 0, 0, []),
  (.iaload, 919, 0, 0, 0, []),
  (.aload_n 0, 920, 0, 0, 0, []),
  (.iload_n 3, 921, 3, 0, 0, []),
  (.iconst 2, 922, 0, 0, 2, []),
  (.iadd, 923, 0, 0, 0, []),
  (.iaload, 924, 0, 0, 0, []),
  (.invokevirtual 105, 925, 164, 0, 0, [3, 12, 0, 0, 600000, 7302250]),
  (.if_icmp .eq 309, 928, 907, 0, 0, []),
  (.iconst 0, 931, 0, 0, 0, []),
  (.ireturn, 932, 1, 0, 0, []),
  (.aload_n 1, 933, 1, 0, 0, []),
  (.aload_n 0, 934, 0, 0, 0, []),
  (.iload_n 3, 935, 3, 0, 0, []),
  (.iconst 1, 936, 0, 0, 1, []),
  (.iadd, 937, 0, 0, 0, []),
  (.iaload, 938, 0, 0, 0, []),
  (.aload_n 0, 939, 0, 0, 0, []),
  (.iload_n 3, 940, 3, 0, 0, []),
  (.iconst 2, 941, 0, 0, 2, []),
  (.iadd, 942, 0, 0, 0, []),
  (.iaload, 943, 0, 0, 0, []),
  (.aload_n 0, 944, 0, 0, 0, []),
  (.iload_n 3, 945, 3, 0, 0, []),
  (.iconst 3, 946, 0, 0, 3, []),
  (.iadd, 947, 0, 0, 0, []),
  (.iaload, 948, 0, 0, 0, []),
  (.invokevirtual 106, 949, 168, 0, 0, [4, 11, 0, 0, 600000, 7302250]),
  (.aload_n 2, 952, 2, 0, 0, []),
  (.aload_n 0, 953, 0, 0, 0, []),
  (.iload_n 3, 954, 3, 0, 0, []),
  (.iconst 1, 955, 0, 0, 1, []),
  (.iadd, 956, 0, 0, 0, []),
  (.iaload, 957, 0, 0, 0, []),
  (.aload_n 0, 958, 0, 0, 0, []),
  (.iload_n 3, 959, 3, 0, 0, []),
  (.iconst 2, 960, 0, 0, 2, []),
  (.iadd, 961, 0, 0, 0, []),
  (.iaload, 962, 0, 0, 0, []),
  (.aload_n 0, 963, 0, 0, 0, []),
  (.iload_n 3, 964, 3, 0, 0, []),
  (.iconst 3, 965, 0, 0, 3, []),
  (.iadd, 966, 0, 0, 0, []),
  (.iaload, 967, 0, 0, 0, []),
  (.invokevirtual 109, 968, 170, 0, 0, [4, 12, 0, 0, 600000, 7302250]),
  (.if_icmp .eq 266, 971, 907, 0, 0, []),
  (.iconst 0, 974, 0, 0, 0, []),
  (.ireturn, 975, 1, 0, 0, []),
  (.aload_n 1, 976, 1, 0, 0, []),
  (.aload_n 0, 977, 0, 0, 0, []),
  (.iload_n 3, 978, 3, 0, 0, []),
  (.iconst 1, 979, 0, 0, 1, []),
  (.iadd, 980, 0, 0, 0, []),
  (.iaload, 981, 0, 0, 0, []),
  (.aload_n 0, 982, 0, 0, 0, []),
  (.iload_n 3, 983, 3, 0, 0, []),
  (.iconst 2, 984, 0, 0, 2, []),
  (.iadd, 985, 0, 0, 0, []),
  (.iaload, 986, 0, 0, 0, []),
  (.invokevirtual 110, 987, 172, 0, 0, [3, 11, 0, 0, 600000, 7302250])]
def kc210_7 : List In_ := [(.aload_n 2, 990, 2, 0, 0, []),
  (.aload_n 0, 991, 0, 0, 0, []),
  (.iload_n 3, 992, 3, 0, 0, []),
  (.iconst 1, 993, 0, 0, 1, []),
  (.iadd, 994, 0, 0, 0, []),
  (.iaload, 995, 0, 0, 0, []),
  (.aload_n 0, 996, 0, 0, 0, []),
  (.iload_n 3, 997, 3, 0, 0, []),
  (.iconst 2, 998, 0, 0, 2, []),
  (.iadd, 999, 0, 0, 0, []),
  (.iaload, 1000, 0, 0, 0, []),
  (.invokevirtual 113, 1001, 173, 0, 0, [3, 12, 0, 0, 600000, 7302250]),
  (.if_icmp .eq 233, 1004, 907, 0, 0, []),
  (.iconst 0, 1007, 0, 0, 0, []),
  (.ireturn, 1008, 1, 0, 0, []),
  (.aload_n 1, 1009, 1, 0, 0, []),
  (.aload_n 0, 1010, 0, 0, 0, []),
  (.iload_n 3, 1011, 3, 0, 0, []),
  (.iconst 1, 1012, 0, 0, 1, []),
  (.iadd, 1013, 0, 0, 0, []),
  (.iaload, 1014, 0, 0, 0, []),
  (.invokevirtual 114, 1015, 175, 0, 0, [2, 11, 0, 0, 600000, 7302250]),
  (.aload_n 2, 1018, 2, 0, 0, []),
  (.aload_n 0, 1019, 0, 0, 0, []),
  (.iload_n 3, 1020, 3, 0, 0, []),
  (.iconst 1, 1021, 0, 0, 1, []),
  (.iadd, 1022, 0, 0, 0, []),
  (.iaload, 1023, 0, 0, 0, []),
  (.invokevirtual 117, 1024, 177, 0, 0, [2, 12, 0, 0, 600000, 7302250]),
  (.if_icmp .eq 210, 1027, 907, 0, 0, []),
  (.iconst 0, 1030, 0, 0, 0, []),
  (.ireturn, 1031, 1, 0, 0, []),
  (.aload_n 1, 1032, 1, 0, 0, []),
  (.aload_n 0, 1033, 0, 0, 0, []),
  (.iload_n 3, 1034, 3, 0, 0, []),
  (.iconst 1, 1035, 0, 0, 1, []),
  (.iadd, 1036, 0, 0, 0, []),
  (.iaload, 1037, 0, 0, 0, []),
  (.aload_n 0, 1038, 0, 0, 0, []),
  (.iload_n 3, 1039, 3, 0, 0, []),
  (.iconst 2, 1040, 0, 0, 2, []),
  (.iadd, 1041, 0, 0, 0, []),
  (.iaload, 1042, 0, 0, 0, []),
  (.invokevirtual 118, 1043, 181, 0, 0, [3, 11, 0, 0, 600000, 7302250]),
  (.aload_n 2, 1046, 2, 0, 0, []),
  (.aload_n 0, 1047, 0, 0, 0, []),
  (.iload_n 3, 1048, 3, 0, 0, []),
  (.iconst 1, 1049, 0, 0, 1, []),
  (.iadd, 1050, 0, 0, 0, []),
  (.iaload, 1051, 0, 0, 0, []),
  (.aload_n 0, 1052, 0, 0, 0, []),
  (.iload_n 3, 1053, 3, 0, 0, []),
  (.iconst 2, 1054, 0, 0, 2, []),
  (.iadd, 1055, 0, 0, 0, []),
  (.iaload, 1056, 0, 0, 0, []),
  (.invokevirtual 121, 1057, 185, 0, 0, [3, 12, 0, 0, 600000, 7302250]),
  (.if_icmp .eq 177, 1060, 907, 0, 0, []),
  (.iconst 0, 1063, 0, 0, 0, []),
  (.ireturn, 1064, 1, 0, 0, []),
  (.aload_n 1, 1065, 1, 0, 0, []),
  (.aload_n 0, 1066, 0, 0, 0, []),
  (.iload_n 3, 1067, 3, 0, 0, []),
  (.iconst 1, 1068, 0, 0, 1, []),
  (.iadd, 1069, 0, 0, 0, []),
  (.iaload, 1070, 0, 0, 0, []),
  (.aload_n 0, 1071, 0, 0, 0, []),
  (.iload_n 3, 1072, 3, 0, 0, []),
  (.iconst 2, 1073, 0, 0, 2, []),
  (.iadd, 1074, 0, 0, 0, []),
  (.iaload, 1075, 0, 0, 0, []),
  (.aload_n 0, 1076, 0, 0, 0, []),
  (.iload_n 3, 1077, 3, 0, 0, []),
  (.iconst 3, 1078, 0, 0, 3, []),
  (.iadd, 1079, 0, 0, 0, []),
  (.iaload, 1080, 0, 0, 0, []),
  (.aload_n 0, 1081, 0, 0, 0, []),
  (.iload_n 3, 1082, 3, 0, 0, []),
  (.iconst 4, 1083, 0, 0, 4, []),
  (.iadd, 1084, 0, 0, 0, []),
  (.iaload, 1085, 0, 0, 0, []),
  (.invokevirtual 122, 1086, 189, 0, 0, [5, 11, 0, 0, 600000, 7302250]),
  (.aload_n 2, 1089, 2, 0, 0, []),
  (.aload_n 0, 1090, 0, 0, 0, []),
  (.iload_n 3, 1091, 3, 0, 0, []),
  (.iconst 1, 1092, 0, 0, 1, []),
  (.iadd, 1093, 0, 0, 0, []),
  (.iaload, 1094, 0, 0, 0, []),
  (.aload_n 0, 1095, 0, 0, 0, []),
  (.iload_n 3, 1096, 3, 0, 0, []),
  (.iconst 2, 1097, 0, 0, 2, []),
  (.iadd, 1098, 0, 0, 0, []),
  (.iaload, 1099, 0, 0, 0, []),
  (.aload_n 0, 1100, 0, 0, 0, []),
  (.iload_n 3, 1101, 3, 0, 0, []),
  (.iconst 3, 1102, 0, 0, 3, []),
  (.iadd, 1103, 0, 0, 0, []),
  (.iaload, 1104, 0, 0, 0, []),
  (.aload_n 0, 1105, 0, 0, 0, []),
  (.iload_n 3, 1106, 3, 0, 0, []),
  (.iconst 4, 1107, 0, 0, 4, [])]
def kc210_8 : List In_ := [(.iadd, 1108, 0, 0, 0, []),
  (.iaload, 1109, 0, 0, 0, []),
  (.invokevirtual 125, 1110, 193, 0, 0, [5, 12, 0, 0, 600000, 7302250]),
  (.if_icmp .eq 124, 1113, 907, 0, 0, []),
  (.iconst 0, 1116, 0, 0, 0, []),
  (.ireturn, 1117, 1, 0, 0, []),
  (.aload_n 1, 1118, 1, 0, 0, []),
  (.aload_n 0, 1119, 0, 0, 0, []),
  (.iload_n 3, 1120, 3, 0, 0, []),
  (.iconst 1, 1121, 0, 0, 1, []),
  (.iadd, 1122, 0, 0, 0, []),
  (.iaload, 1123, 0, 0, 0, []),
  (.aload_n 0, 1124, 0, 0, 0, []),
  (.iload_n 3, 1125, 3, 0, 0, []),
  (.iconst 2, 1126, 0, 0, 2, []),
  (.iadd, 1127, 0, 0, 0, []),
  (.iaload, 1128, 0, 0, 0, []),
  (.invokevirtual 126, 1129, 196, 0, 0, [3, 11, 0, 0, 600000, 7302250]),
  (.aload_n 2, 1132, 2, 0, 0, []),
  (.aload_n 0, 1133, 0, 0, 0, []),
  (.iload_n 3, 1134, 3, 0, 0, []),
  (.iconst 1, 1135, 0, 0, 1, []),
  (.iadd, 1136, 0, 0, 0, []),
  (.iaload, 1137, 0, 0, 0, []),
  (.aload_n 0, 1138, 0, 0, 0, []),
  (.iload_n 3, 1139, 3, 0, 0, []),
  (.iconst 2, 1140, 0, 0, 2, []),
  (.iadd, 1141, 0, 0, 0, []),
  (.iaload, 1142, 0, 0, 0, []),
  (.invokevirtual 129, 1143, 197, 0, 0, [3, 12, 0, 0, 600000, 7302250]),
  (.if_icmp .eq 91, 1146, 907, 0, 0, []),
  (.iconst 0, 1149, 0, 0, 0, []),
  (.ireturn, 1150, 1, 0, 0, []),
  (.aload_n 1, 1151, 1, 0, 0, []),
  (.aload_n 0, 1152, 0, 0, 0, []),
  (.iload_n 3, 1153, 3, 0, 0, []),
  (.iconst 1, 1154, 0, 0, 1, []),
  (.iadd, 1155, 0, 0, 0, []),
  (.iaload, 1156, 0, 0, 0, []),
  (.aload_n 0, 1157, 0, 0, 0, []),
  (.iload_n 3, 1158, 3, 0, 0, []),
  (.iconst 2, 1159, 0, 0, 2, []),
  (.iadd, 1160, 0, 0, 0, []),
  (.iaload, 1161, 0, 0, 0, []),
  (.aload_n 0, 1162, 0, 0, 0, []),
  (.iload_n 3, 1163, 3, 0, 0, []),
  (.iconst 3, 1164, 0, 0, 3, []),
  (.iadd, 1165, 0, 0, 0, []),
  (.iaload, 1166, 0, 0, 0, []),
  (.invokevirtual 130, 1167, 200, 0, 0, [4, 11, 0, 0, 600000, 7302250]),
  (.aload_n 2, 1170, 2, 0, 0, []),
  (.aload_n 0, 1171, 0, 0, 0, []),
  (.iload_n 3, 1172, 3, 0, 0, []),
  (.iconst 1, 1173, 0, 0, 1, []),
  (.iadd, 1174, 0, 0, 0, []),
  (.iaload, 1175, 0, 0, 0, []),
  (.aload_n 0, 1176, 0, 0, 0, []),
  (.iload_n 3, 1177, 3, 0, 0, []),
  (.iconst 2, 1178, 0, 0, 2, []),
  (.iadd, 1179, 0, 0, 0, []),
  (.iaload, 1180, 0, 0, 0, []),
  (.aload_n 0, 1181, 0, 0, 0, []),
  (.iload_n 3, 1182, 3, 0, 0, []),
  (.iconst 3, 1183, 0, 0, 3, []),
  (.iadd, 1184, 0, 0, 0, []),
  (.iaload, 1185, 0, 0, 0, []),
  (.invokevirtual 133, 1186, 201, 0, 0, [4, 12, 0, 0, 600000, 7302250]),
  (.if_icmp .eq 48, 1189, 907, 0, 0, []),
  (.iconst 0, 1192, 0, 0, 0, []),
  (.ireturn, 1193, 1, 0, 0, []),
  (.aload_n 1, 1194, 1, 0, 0, []),
  (.aload_n 0, 1195, 0, 0, 0, []),
  (.iload_n 3, 1196, 3, 0, 0, []),
  (.iconst 1, 1197, 0, 0, 1, []),
  (.iadd, 1198, 0, 0, 0, []),
  (.iaload, 1199, 0, 0, 0, []),
  (.aload_n 0, 1200, 0, 0, 0, []),
  (.iload_n 3, 1201, 3, 0, 0, []),
  (.iconst 2, 1202, 0, 0, 2, []),
  (.iadd, 1203, 0, 0, 0, []),
  (.iaload, 1204, 0, 0, 0, []),
  (.aload_n 0, 1205, 0, 0, 0, []),
  (.iload_n 3, 1206, 3, 0, 0, []),
  (.iconst 3, 1207, 0, 0, 3, []),
  (.iadd, 1208, 0, 0, 0, []),
  (.iaload, 1209, 0, 0, 0, []),
  (.invokevirtual 134, 1210, 206, 0, 0, [4, 11, 0, 0, 600000, 7302250]),
  (.aload_n 2, 1213, 2, 0, 0, []),
  (.aload_n 0, 1214, 0, 0, 0, []),
  (.iload_n 3, 1215, 3, 0, 0, []),
  (.iconst 1, 1216, 0, 0, 1, []),
  (.iadd, 1217, 0, 0, 0, []),
  (.iaload, 1218, 0, 0, 0, []),
  (.aload_n 0, 1219, 0, 0, 0, []),
  (.iload_n 3, 1220, 3, 0, 0, []),
  (.iconst 2, 1221, 0, 0, 2, []),
  (.iadd, 1222, 0, 0, 0, []),
  (.iaload, 1223, 0, 0, 0, []),
  (.aload_n 0, 1224, 0, 0, 0, []),
  (.iload_n 3, 1225, 3, 0, 0, [])]
def kc210_9 : List In_ := [(.iconst 3, 1226, 0, 0, 3, []),
  (.iadd, 1227, 0, 0, 0, []),
  (.iaload, 1228, 0, 0, 0, []),
  (.invokevirtual 137, 1229, 209, 0, 0, [4, 12, 0, 0, 600000, 7302250]),
  (.if_icmp .eq 5, 1232, 907, 0, 0, []),
  (.iconst 0, 1235, 0, 0, 0, []),
  (.ireturn, 1236, 1, 0, 0, []),
  (.iinc 3 5, 1237, 3, 0, 5, []),
  (.goto (-1222), 1240, 10, 0, 0, []),
  (.iconst 1, 1243, 0, 0, 1, []),
  (.ireturn, 1244, 1, 0, 0, [])]
def kc210 : List In_ := kc210_0 ++ kc210_1 ++ kc210_2 ++ kc210_3 ++ kc210_4 ++ kc210_5 ++ kc210_6 ++ kc210_7 ++ kc210_8 ++ kc210_9
def codeT : List (List (List In_)) := [[kc0, kc1, kc2, kc3, kc4, kc5, kc6, kc7, kc8, kc9, kc10, kc11, kc12, kc13, kc14, kc15],
  [kc16, kc17, kc18, kc19, kc20, kc21, kc22, kc23, kc24, kc25, kc26, kc27, kc28, kc29, kc30, kc31],
  [kc32, kc33, kc34, kc35, kc36, kc37, kc38, kc39, kc40, kc41, kc42, kc43, kc44, kc45, kc46, kc47],
  [kc48, kc49, kc50, kc51, kc52, kc53, kc54, kc55, kc56, kc57, kc58, kc59, kc60, kc61, kc62, kc63],
  [kc64, kc65, kc66, kc67, kc68, kc69, kc70, kc71, kc72, kc73, kc74, kc75, kc76, kc77, kc78, kc79],
  [kc80, kc81, kc82, kc83, kc84, kc85, kc86, kc87, kc88, kc89, kc90, kc91, kc92, kc93, kc94, kc95],
  [kc96, kc97, kc98, kc99, kc100, kc101, kc102, kc103, kc104, kc105, kc106, kc107, kc108, kc109, kc110, kc111],
  [kc112, kc113, kc114, kc115, kc116, kc117, kc118, kc119, kc120, kc121, kc122, kc123, kc124, kc125, kc126, kc127],
  [kc128, kc129, kc130, kc131, kc132, kc133, kc134, kc135, kc136, kc137, kc138, kc139, kc140, kc141, kc142, kc143],
  [kc144, kc145, kc146, kc147, kc148, kc149, kc150, kc151, kc152, kc153, kc154, kc155, kc156, kc157, kc158, kc159],
  [kc160, kc161, kc162, kc163, kc164, kc165, kc166, kc167, kc168, kc169, kc170, kc171, kc172, kc173, kc174, kc175],
  [kc176, kc177, kc178, kc179, kc180, kc181, kc182, kc183, kc184, kc185, kc186, kc187, kc188, kc189, kc190, kc191],
  [kc192, kc193, kc194, kc195, kc196, kc197, kc198, kc199, kc200, kc201, kc202, kc203, kc204, kc205, kc206, kc207],
  [kc208, kc209, kc210]]
def codeOf (id : Nat) : List In_ := (codeT.getD (id / 16) []).getD (id % 16) []
end
section
/-- a judgement over the pure machine: method, place, locals, stack, cells, memory, made so far, what a return must give -/
abbrev Jg_ : Type := Nat → Nat → Lc_ → List Vl_ → Wd_ → Mm_ → Cn_ → Qp_ → Prop
def cPof (P : Jg_) : Nat → List Vl_ → Wd_ → Mm_ → Qp_ → Prop := fun id as w M Q => P id 0 (entL as (mxL id)) [] w M (0, 0) Q
def Mono (P : Jg_) : Prop := ∀ id pc ls st w M cn (Q Q' : Qp_), (∀ v w' M', Q v w' M' → Q' v w' M') → P id pc ls st w M cn Q → P id pc ls st w M cn Q'
/-- fewer locals known -/
def lsub (a b : Lc_) : Prop := ∀ (i : Nat) (v : Vl_), a[i]? = some (some v) → b[i]? = some (some v)
def Forg (P : Jg_) : Prop := ∀ id pc ls ls' st w M cn (Q : Qp_), ls.length = ls'.length → lsub ls' ls → P id pc ls' st w M cn Q → P id pc ls st w M cn Q
def Step (P : Jg_) : Prop := ∀ id pc ls st w M cn (Q : Qp_) e, (codeOf id)[pc]? = some e → st1 (cPof P) (fun pc ls st w M cn => P id pc ls st w M cn Q) Q e pc ls st w M cn → P id pc ls st w M cn Q
def Clo (P : Jg_) : Prop := Mono P ∧ Forg P ∧ Step P
/-- n instructions at once -/
def stN (cP : Nat → List Vl_ → Wd_ → Mm_ → Qp_ → Prop) (Q : Qp_) (cd : List In_) (k : Nat → Lc_ → List Vl_ → Wd_ → Mm_ → Cn_ → Prop) : Nat → Nat → Lc_ → List Vl_ → Wd_ → Mm_ → Cn_ → Prop
  | 0 => k
  | n + 1 => fun pc ls st w M cn => match cd[pc]? with
    | some e => st1 cP (stN cP Q cd k n) Q e pc ls st w M cn
    | none => False
theorem g1_mono {t : Nat} {st : List Vl_} {k k' : Int → List Vl_ → Prop} (h : ∀ x r, k x r → k' x r) : g1 t st k → g1 t st k' := by
  unfold g1
  split
  · split
    · exact h _ _
    · exact id
  · exact id
theorem gl_mono {t : Nat} {ls : Lc_} {i : Nat} {k k' : Int → Prop} (h : ∀ x, k x → k' x) : gl t ls i k → gl t ls i k' := by
  unfold gl
  split
  · split
    · exact h _
    · exact id
  · exact id
theorem bud_iff {cn : Cn_} {a b MC MS : Nat} {p : Prop} : bud cn a b MC MS p ↔ (cn.1 + a ≤ MC ∧ cn.2 + b ≤ MS) ∧ p := by
  unfold bud
  by_cases h1 : cn.1 + a ≤ MC
  · rw [Nat.ble_eq_true_of_le h1]
    by_cases h2 : cn.2 + b ≤ MS
    · rw [Nat.ble_eq_true_of_le h2]
      exact ⟨fun h => ⟨⟨h1, h2⟩, h⟩, fun h => h.2⟩
    · have e : Nat.ble (cn.2 + b) MS = false := Bool.eq_false_iff.mpr fun h => h2 (Nat.le_of_ble_eq_true h)
      rw [e]
      exact ⟨fun h => h.elim, fun h => absurd h.1.2 h2⟩
  · have e : Nat.ble (cn.1 + a) MC = false := Bool.eq_false_iff.mpr fun h => h1 (Nat.le_of_ble_eq_true h)
    rw [e]
    exact ⟨fun h => h.elim, fun h => absurd h.1.1 h1⟩
theorem bud_mono {cn : Cn_} {a b MC MS : Nat} {p q : Prop} (h : p → q) (hb : bud cn a b MC MS p) : bud cn a b MC MS q := bud_iff.mpr ⟨(bud_iff.mp hb).1, h (bud_iff.mp hb).2⟩
theorem callG_iff {st : List Vl_} {n : Nat} {rcv : Bool} {mx : Nat} {k : Int → List Vl_ → List Vl_ → Prop} : callG st n rcv mx k ↔ (n ≤ st.length ∧ catS (st.drop n) ≤ 8 ∧ catS (st.take n) ≤ mx) ∧ (rcv = true → ∃ q as, (st.take n).reverse = (2, q) :: as ∧ k q ((2, q) :: as) (st.drop n)) ∧ (rcv = false → k 0 (st.take n).reverse (st.drop n)) := by
  unfold callG
  constructor
  · intro h
    split at h
    · rename_i e
      rw [Bool.and_eq_true, Bool.and_eq_true] at e
      refine ⟨⟨Nat.le_of_ble_eq_true e.1, Nat.le_of_ble_eq_true e.2.1, Nat.le_of_ble_eq_true e.2.2⟩, ?_⟩
      split at h
      · split at h
        · rename_i v as hv
          split at h
          · rename_i e2
            have e2 := Nat.eq_of_beq_eq_true e2
            obtain ⟨t, q⟩ := v
            dsimp only at e2
            subst e2
            exact ⟨fun _ => ⟨q, as, hv, h⟩, fun g => by cases g⟩
          · exact h.elim
        · exact h.elim
      · exact ⟨fun g => (by cases g), fun _ => h⟩
    · exact h.elim
  · rintro ⟨⟨h1, h2, h3⟩, h4, h5⟩
    rw [Nat.ble_eq_true_of_le h1, Nat.ble_eq_true_of_le h2, Nat.ble_eq_true_of_le h3]
    cases rcv with
    | true =>
      obtain ⟨q, as, e1, e2⟩ := h4 rfl
      show (match (st.take n).reverse with
        | v :: as => match Nat.beq v.1 2 with
          | true => k v.2 (v :: as) (st.drop n)
          | false => False
        | [] => False)
      rw [e1]
      exact e2
    | false => exact h5 rfl
theorem callG_mono {st : List Vl_} {n : Nat} {rcv : Bool} {mx : Nat} {k k' : Int → List Vl_ → List Vl_ → Prop} (h : ∀ q as r, k q as r → k' q as r) (hk : callG st n rcv mx k) : callG st n rcv mx k' := by
  obtain ⟨h1, h2, h3⟩ := callG_iff.mp hk
  exact callG_iff.mpr ⟨h1, fun g => (h2 g).elim fun q h9 => h9.elim fun as h8 => ⟨q, as, h8.1, h _ _ _ h8.2⟩, fun g => h _ _ _ (h3 g)⟩
theorem swc_mono {x : Int} {k k' : Nat → Prop} (h : ∀ t, k t → k' t) : ∀ (tg : List Nat) (lo : Int), swc x k lo tg → swc x k' lo tg
  | [], _ => fun _ => trivial
  | _ :: ts, lo => fun q => ⟨fun e => h _ (q.1 e), swc_mono h ts (lo + 1) q.2⟩
theorem ex1_mono {α : Type} {p q : α → Prop} (h : ∀ x, p x → q x) : (∃ x, p x) → ∃ x, q x := fun ⟨x, hx⟩ => ⟨x, h x hx⟩
set_option maxHeartbeats 4000000 in
theorem st1_mono {cP : Nat → List Vl_ → Wd_ → Mm_ → Qp_ → Prop} {k k' : Nat → Lc_ → List Vl_ → Wd_ → Mm_ → Cn_ → Prop} {Q : Qp_} (hc : ∀ id as w M (Q Q' : Qp_), (∀ v w' M', Q v w' M' → Q' v w' M') → cP id as w M Q → cP id as w M Q') (h : ∀ pc ls st w M cn, k pc ls st w M cn → k' pc ls st w M cn) (e : In_) (pc : Nat) (ls : Lc_) (st : List Vl_) (w : Wd_) (M : Mm_) (cn : Cn_) : st1 cP k Q e pc ls st w M cn → st1 cP k' Q e pc ls st w M cn := by
  obtain ⟨ins, bp, a, b, z, tg⟩ := e
  intro q
  cases ins
  all_goals try exact q
  all_goals try exact h _ _ _ _ _ _ q
  all_goals simp only [st1] at q ⊢
  all_goals (repeat' first
    | (refine g1_mono ?_ q; clear q; intro x r q)
    | (refine bud_mono ?_ q; clear q; intro q)
    | (refine callG_mono ?_ q; clear q; intro x y r q)
    | (refine gl_mono ?_ q; clear q; intro x q)
    | (refine ex1_mono ?_ q; clear q; intro x q)
    | exact h _ _ _ _ _ _ q
    | exact q
    | (refine And.imp ?_ ?_ q <;> clear q <;> intro q)
    | (refine swc_mono ?_ _ _ q; intro t q)
    | exact fun c => h _ _ _ _ _ _ (q c)
    | (refine hc _ _ _ _ _ _ ?_ q; intro v w' M' q)
    | (split at q))
theorem cPof_mono {P : Jg_} (hP : Mono P) : ∀ id as w M (Q Q' : Qp_), (∀ v w' M', Q v w' M' → Q' v w' M') → cPof P id as w M Q → cPof P id as w M Q' := fun _ _ _ _ _ _ hq h => hP _ _ _ _ _ _ _ _ _ hq h
theorem Clo.steps {P : Jg_} (hP : Clo P) (id : Nat) (Q : Qp_) : ∀ (n pc : Nat) (ls : Lc_) (st : List Vl_) (w : Wd_) (M : Mm_) (cn : Cn_), stN (cPof P) Q (codeOf id) (fun pc ls st w M cn => P id pc ls st w M cn Q) n pc ls st w M cn → P id pc ls st w M cn Q
  | 0, _, _, _, _, _, _ => fun h => h
  | n + 1, pc, ls, st, w, M, cn => fun h => by
    unfold stN at h
    split at h
    · rename_i e he
      exact hP.2.2 id pc ls st w M cn Q e he (st1_mono (cPof_mono hP.1) (Clo.steps hP id Q n) e pc ls st w M cn h)
    · exact h.elim
/-- the cells when both objects are made -/
def WF : Wd_ := [(0, 11, [1, 23, 27, 32, 35, 47, 64, 70, 93, 107]),
  (0, 1, [2, (-1)]),
  (4, 10, [3, 5, 7, 9, 11, 13, 15, 17, 19, 21]),
  (0, 0, [4, (-1), (-1), (-1), (-1)]),
  (1, 60, []),
  (0, 0, [6, (-1), (-1), (-1), (-1)]),
  (1, 60, []),
  (0, 0, [8, (-1), (-1), (-1), (-1)]),
  (1, 60, []),
  (0, 0, [10, (-1), (-1), (-1), (-1)]),
  (1, 60, []),
  (0, 0, [12, (-1), (-1), (-1), (-1)]),
  (1, 60, []),
  (0, 0, [14, (-1), (-1), (-1), (-1)]),
  (1, 60, []),
  (0, 0, [16, (-1), (-1), (-1), (-1)]),
  (1, 60, []),
  (0, 0, [18, (-1), (-1), (-1), (-1)]),
  (1, 60, []),
  (0, 0, [20, (-1), (-1), (-1), (-1)]),
  (1, 60, []),
  (0, 0, [22, (-1), (-1), (-1), (-1)]),
  (1, 60, []),
  (0, 2, [24, 25, 26]),
  (1, 201, []),
  (1, 201, []),
  (3, 201, []),
  (0, 3, [1, 28, 29, 30, 31, (-1)]),
  (1, 30, []),
  (1, 30, []),
  (1, 30, []),
  (1, 30, []),
  (0, 4, [33, 34, (-1), (-1), (-1), (-1), (-1)]),
  (1, 120, []),
  (1, 7, []),
  (0, 5, [36, 37, 38, (-1)]),
  (1, 8, []),
  (1, 8, []),
  (5, 8, [39, 40, 41, 42, 43, 44, 45, 46]),
  (1, 7, []),
  (1, 7, []),
  (1, 7, []),
  (1, 7, []),
  (1, 7, []),
  (1, 7, []),
  (1, 7, []),
  (1, 7, []),
  (0, 6, [1, 23, 35, 48, 59, 60, 61, 62, 63, (-1), (-1), (-1), (-1), (-1), (-1)]),
  (6, 10, [49, 50, 51, 52, 53, 54, 55, 56, 57, 58]),
  (2, 60, []),
  (2, 60, []),
  (2, 60, []),
  (2, 60, []),
  (2, 60, []),
  (2, 60, []),
  (2, 60, []),
  (2, 60, []),
  (2, 60, []),
  (2, 60, []),
  (1, 60, []),
  (1, 61, []),
  (2, 201, []),
  (2, 60, []),
  (2, 4, []),
  (0, 7, [47, 65, 66, 67, 68, 69, (-1), (-1)]),
  (1, 61, []),
  (1, 61, []),
  (1, 60, []),
  (1, 60, []),
  (1, 60, []),
  (0, 8, [1, 47, 64, 71, 82, (-1), (-1), (-1), (-1), (-1)]),
  (5, 10, [72, 73, 74, 75, 76, 77, 78, 79, 80, 81]),
  (1, 60, []),
  (1, 60, []),
  (1, 60, []),
  (1, 60, []),
  (1, 60, []),
  (1, 60, []),
  (1, 60, []),
  (1, 60, []),
  (1, 60, []),
  (1, 60, []),
  (5, 10, [83, 84, 85, 86, 87, 88, 89, 90, 91, 92]),
  (1, 60, []),
  (1, 60, []),
  (1, 60, []),
  (1, 60, []),
  (1, 60, []),
  (1, 60, []),
  (1, 60, []),
  (1, 60, []),
  (1, 60, []),
  (1, 60, []),
  (0, 9, [1, 94, 105, 106, (-1), (-1)]),
  (6, 10, [95, 96, 97, 98, 99, 100, 101, 102, 103, 104]),
  (2, 60, []),
  (2, 60, []),
  (2, 60, []),
  (2, 60, []),
  (2, 60, []),
  (2, 60, []),
  (2, 60, []),
  (2, 60, []),
  (2, 60, []),
  (2, 60, []),
  (1, 10, []),
  (1, 10, []),
  (0, 10, [108, 109, 110, 111, (-1), (-1)]),
  (1, 60, []),
  (1, 60, []),
  (1, 60, []),
  (1, 60, []),
  (0, 12, [(-1), 113, 114, 115, 116, 117, 118, 119, (-1), (-1), 120, 121, 122, 123, (-1), 124, 125, (-1), 126, 127, 128, 129, 130, (-1), (-1), (-1), (-1), (-1), (-1), 131, (-1), 132, 133, 134, 135, (-1), (-1), 136, 137, 138, 139, 140]),
  (1, 16, []),
  (1, 16, []),
  (1, 16, []),
  (1, 960, []),
  (3, 960, []),
  (1, 201, []),
  (3, 201, []),
  (1, 30, []),
  (1, 30, []),
  (1, 30, []),
  (1, 30, []),
  (1, 8, []),
  (1, 9, []),
  (1, 72, []),
  (1, 72, []),
  (3, 8, []),
  (1, 7, []),
  (1, 120, []),
  (1, 3660, []),
  (1, 61, []),
  (1, 61, []),
  (1, 61, []),
  (1, 960, []),
  (1, 16, []),
  (1, 120, []),
  (1, 120, []),
  (1, 60, []),
  (1, 60, [])]
end
section
/-! CLASSES AND FIELDS (printed by wip/tools/gen_rel.py), and the cells as the machine holds them -/
def fld0 : u_T := fun k => match k with
  | 0 => ("BorrowedWords$Text", "words", "[I", true)
  | 1 => ("BorrowedWords$Text", "stops", "J", false)
  | 2 => ("BorrowedWords$Text", "writer", "I", false)
  | 3 => ("BorrowedWords$Text", "day", "I", false)
  | _ => ("BorrowedWords$Text", "size", "I", false)
def fty0 : Nat → FieldType := fun k => match k with
  | 0 => .array (.int)
  | 1 => .long
  | 2 => .int
  | 3 => .int
  | _ => .int
def fld1 : u_T := fun k => match k with
  | 0 => ("BorrowedWords$Shelf", "texts", "[LBorrowedWords$Text;", true)
  | _ => ("BorrowedWords$Shelf", "size", "I", false)
def fty1 : Nat → FieldType := fun k => match k with
  | 0 => .array (.object "BorrowedWords$Text")
  | _ => .int
def fld2 : u_T := fun k => match k with
  | 0 => ("BorrowedWords$Lexicon", "meaning", "[I", true)
  | 1 => ("BorrowedWords$Lexicon", "sharing", "[I", true)
  | _ => ("BorrowedWords$Lexicon", "isCommon", "[Z", true)
def fty2 : Nat → FieldType := fun k => match k with
  | 0 => .array (.int)
  | 1 => .array (.int)
  | _ => .array (.boolean)
def fld3 : u_T := fun k => match k with
  | 0 => ("BorrowedWords$Marks", "shelf", "LBorrowedWords$Shelf;", true)
  | 1 => ("BorrowedWords$Marks", "citing", "[I", true)
  | 2 => ("BorrowedWords$Marks", "from", "[I", true)
  | 3 => ("BorrowedWords$Marks", "to", "[I", true)
  | 4 => ("BorrowedWords$Marks", "cited", "[I", true)
  | _ => ("BorrowedWords$Marks", "size", "I", false)
def fty3 : Nat → FieldType := fun k => match k with
  | 0 => .object "BorrowedWords$Shelf"
  | 1 => .array (.int)
  | 2 => .array (.int)
  | 3 => .array (.int)
  | 4 => .array (.int)
  | _ => .int
def fld4 : u_T := fun k => match k with
  | 0 => ("BorrowedWords$RuleReader", "bytes", "[I", true)
  | 1 => ("BorrowedWords$RuleReader", "told", "[I", true)
  | 2 => ("BorrowedWords$RuleReader", "struck", "I", false)
  | 3 => ("BorrowedWords$RuleReader", "length", "I", false)
  | 4 => ("BorrowedWords$RuleReader", "place", "I", false)
  | 5 => ("BorrowedWords$RuleReader", "faultNumber", "I", false)
  | _ => ("BorrowedWords$RuleReader", "faultPlace", "I", false)
def fty4 : Nat → FieldType := fun k => match k with
  | 0 => .array (.int)
  | 1 => .array (.int)
  | 2 => .int
  | 3 => .int
  | 4 => .int
  | 5 => .int
  | _ => .int
def fld5 : u_T := fun k => match k with
  | 0 => ("BorrowedWords$RuleBook", "days", "[I", true)
  | 1 => ("BorrowedWords$RuleBook", "struck", "[I", true)
  | 2 => ("BorrowedWords$RuleBook", "told", "[[I", true)
  | _ => ("BorrowedWords$RuleBook", "size", "I", false)
def fty5 : Nat → FieldType := fun k => match k with
  | 0 => .array (.int)
  | 1 => .array (.int)
  | 2 => .array (.array (.int))
  | _ => .int
def fld6 : u_T := fun k => match k with
  | 0 => ("BorrowedWords$Runs", "shelf", "LBorrowedWords$Shelf;", true)
  | 1 => ("BorrowedWords$Runs", "lexicon", "LBorrowedWords$Lexicon;", true)
  | 2 => ("BorrowedWords$Runs", "book", "LBorrowedWords$RuleBook;", true)
  | 3 => ("BorrowedWords$Runs", "sizes", "[[J", true)
  | 4 => ("BorrowedWords$Runs", "keys", "[I", true)
  | 5 => ("BorrowedWords$Runs", "ownAhead", "[I", true)
  | 6 => ("BorrowedWords$Runs", "placesOfKey", "[J", true)
  | 7 => ("BorrowedWords$Runs", "likes", "[J", true)
  | 8 => ("BorrowedWords$Runs", "along", "[J", true)
  | 9 => ("BorrowedWords$Runs", "looked", "I", false)
  | 10 => ("BorrowedWords$Runs", "size", "I", false)
  | 11 => ("BorrowedWords$Runs", "least", "I", false)
  | 12 => ("BorrowedWords$Runs", "slips", "I", false)
  | 13 => ("BorrowedWords$Runs", "byMeaning", "Z", false)
  | _ => ("BorrowedWords$Runs", "commonsCount", "Z", false)
def fty6 : Nat → FieldType := fun k => match k with
  | 0 => .object "BorrowedWords$Shelf"
  | 1 => .object "BorrowedWords$Lexicon"
  | 2 => .object "BorrowedWords$RuleBook"
  | 3 => .array (.array (.long))
  | 4 => .array (.int)
  | 5 => .array (.int)
  | 6 => .array (.long)
  | 7 => .array (.long)
  | 8 => .array (.long)
  | 9 => .int
  | 10 => .int
  | 11 => .int
  | 12 => .int
  | 13 => .boolean
  | _ => .boolean
def fld7 : u_T := fun k => match k with
  | 0 => ("BorrowedWords$Explanation", "runs", "LBorrowedWords$Runs;", true)
  | 1 => ("BorrowedWords$Explanation", "most", "[I", true)
  | 2 => ("BorrowedWords$Explanation", "fewestPieces", "[I", true)
  | 3 => ("BorrowedWords$Explanation", "choice", "[I", true)
  | 4 => ("BorrowedWords$Explanation", "starts", "[I", true)
  | 5 => ("BorrowedWords$Explanation", "sizes", "[I", true)
  | 6 => ("BorrowedWords$Explanation", "pieces", "I", false)
  | _ => ("BorrowedWords$Explanation", "taken", "J", false)
def fty7 : Nat → FieldType := fun k => match k with
  | 0 => .object "BorrowedWords$Runs"
  | 1 => .array (.int)
  | 2 => .array (.int)
  | 3 => .array (.int)
  | 4 => .array (.int)
  | 5 => .array (.int)
  | 6 => .int
  | _ => .long
def fld8 : u_T := fun k => match k with
  | 0 => ("BorrowedWords$Ways", "shelf", "LBorrowedWords$Shelf;", true)
  | 1 => ("BorrowedWords$Ways", "runs", "LBorrowedWords$Runs;", true)
  | 2 => ("BorrowedWords$Ways", "explanation", "LBorrowedWords$Explanation;", true)
  | 3 => ("BorrowedWords$Ways", "fromText", "[[I", true)
  | 4 => ("BorrowedWords$Ways", "fromPlace", "[[I", true)
  | 5 => ("BorrowedWords$Ways", "known", "Z", false)
  | 6 => ("BorrowedWords$Ways", "endText", "I", false)
  | 7 => ("BorrowedWords$Ways", "endPlace", "I", false)
  | 8 => ("BorrowedWords$Ways", "steps", "I", false)
  | _ => ("BorrowedWords$Ways", "visited", "I", false)
def fty8 : Nat → FieldType := fun k => match k with
  | 0 => .object "BorrowedWords$Shelf"
  | 1 => .object "BorrowedWords$Runs"
  | 2 => .object "BorrowedWords$Explanation"
  | 3 => .array (.array (.int))
  | 4 => .array (.array (.int))
  | 5 => .boolean
  | 6 => .int
  | 7 => .int
  | 8 => .int
  | _ => .int
def fld9 : u_T := fun k => match k with
  | 0 => ("BorrowedWords$RowTable", "shelf", "LBorrowedWords$Shelf;", true)
  | 1 => ("BorrowedWords$RowTable", "codes", "[[J", true)
  | 2 => ("BorrowedWords$RowTable", "sizes", "[I", true)
  | 3 => ("BorrowedWords$RowTable", "families", "[I", true)
  | 4 => ("BorrowedWords$RowTable", "upper", "I", false)
  | _ => ("BorrowedWords$RowTable", "lower", "I", false)
def fty9 : Nat → FieldType := fun k => match k with
  | 0 => .object "BorrowedWords$Shelf"
  | 1 => .array (.array (.long))
  | 2 => .array (.int)
  | 3 => .array (.int)
  | 4 => .int
  | _ => .int
def fld10 : u_T := fun k => match k with
  | 0 => ("BorrowedWords$Sentences", "endsOfX", "[I", true)
  | 1 => ("BorrowedWords$Sentences", "endsOfY", "[I", true)
  | 2 => ("BorrowedWords$Sentences", "partners", "[I", true)
  | 3 => ("BorrowedWords$Sentences", "chains", "[I", true)
  | 4 => ("BorrowedWords$Sentences", "countOfX", "I", false)
  | _ => ("BorrowedWords$Sentences", "kept", "I", false)
def fty10 : Nat → FieldType := fun k => match k with
  | 0 => .array (.int)
  | 1 => .array (.int)
  | 2 => .array (.int)
  | 3 => .array (.int)
  | 4 => .int
  | _ => .int
def fld11 : u_T := fun k => match k with
  | 0 => ("BorrowedWords", "shelf", "LBorrowedWords$Shelf;", true)
  | 1 => ("BorrowedWords", "lexicon", "LBorrowedWords$Lexicon;", true)
  | 2 => ("BorrowedWords", "marks", "LBorrowedWords$Marks;", true)
  | 3 => ("BorrowedWords", "reader", "LBorrowedWords$RuleReader;", true)
  | 4 => ("BorrowedWords", "book", "LBorrowedWords$RuleBook;", true)
  | 5 => ("BorrowedWords", "runs", "LBorrowedWords$Runs;", true)
  | 6 => ("BorrowedWords", "explanation", "LBorrowedWords$Explanation;", true)
  | 7 => ("BorrowedWords", "ways", "LBorrowedWords$Ways;", true)
  | 8 => ("BorrowedWords", "rowTable", "LBorrowedWords$RowTable;", true)
  | _ => ("BorrowedWords", "sentences", "LBorrowedWords$Sentences;", true)
def fty11 : Nat → FieldType := fun k => match k with
  | 0 => .object "BorrowedWords$Shelf"
  | 1 => .object "BorrowedWords$Lexicon"
  | 2 => .object "BorrowedWords$Marks"
  | 3 => .object "BorrowedWords$RuleReader"
  | 4 => .object "BorrowedWords$RuleBook"
  | 5 => .object "BorrowedWords$Runs"
  | 6 => .object "BorrowedWords$Explanation"
  | 7 => .object "BorrowedWords$Ways"
  | 8 => .object "BorrowedWords$RowTable"
  | _ => .object "BorrowedWords$Sentences"
def fld12 : u_T := fun k => match k with
  | 0 => ("BorrowedWordsModel", "texts", "I", false)
  | 1 => ("BorrowedWordsModel", "writers", "[I", true)
  | 2 => ("BorrowedWordsModel", "days", "[I", true)
  | 3 => ("BorrowedWordsModel", "many", "[I", true)
  | 4 => ("BorrowedWordsModel", "words", "[I", true)
  | 5 => ("BorrowedWordsModel", "stops", "[Z", true)
  | 6 => ("BorrowedWordsModel", "groups", "[I", true)
  | 7 => ("BorrowedWordsModel", "commons", "[Z", true)
  | 8 => ("BorrowedWordsModel", "isFound", "Z", false)
  | 9 => ("BorrowedWordsModel", "marks", "I", false)
  | 10 => ("BorrowedWordsModel", "markText", "[I", true)
  | 11 => ("BorrowedWordsModel", "markFrom", "[I", true)
  | 12 => ("BorrowedWordsModel", "markTo", "[I", true)
  | 13 => ("BorrowedWordsModel", "markOf", "[I", true)
  | 14 => ("BorrowedWordsModel", "rules", "I", false)
  | 15 => ("BorrowedWordsModel", "ruleDay", "[I", true)
  | 16 => ("BorrowedWordsModel", "ruleFirst", "[I", true)
  | 17 => ("BorrowedWordsModel", "clauses", "I", false)
  | 18 => ("BorrowedWordsModel", "clauseKind", "[I", true)
  | 19 => ("BorrowedWordsModel", "clauseNumber", "[I", true)
  | 20 => ("BorrowedWordsModel", "counts", "[Z", true)
  | 21 => ("BorrowedWordsModel", "laws", "[I", true)
  | 22 => ("BorrowedWordsModel", "text", "[I", true)
  | 23 => ("BorrowedWordsModel", "texted", "I", false)
  | 24 => ("BorrowedWordsModel", "faultPlace", "I", false)
  | 25 => ("BorrowedWordsModel", "at0", "I", false)
  | 26 => ("BorrowedWordsModel", "word", "J", false)
  | 27 => ("BorrowedWordsModel", "wordEnd", "I", false)
  | 28 => ("BorrowedWordsModel", "number", "I", false)
  | 29 => ("BorrowedWordsModel", "runs", "[I", true)
  | 30 => ("BorrowedWordsModel", "sources", "I", false)
  | 31 => ("BorrowedWordsModel", "taken", "[I", true)
  | 32 => ("BorrowedWordsModel", "pieces", "[I", true)
  | 33 => ("BorrowedWordsModel", "sizes", "[I", true)
  | 34 => ("BorrowedWordsModel", "whence", "[I", true)
  | 35 => ("BorrowedWordsModel", "upper", "I", false)
  | 36 => ("BorrowedWordsModel", "lower", "I", false)
  | 37 => ("BorrowedWordsModel", "near", "[I", true)
  | 38 => ("BorrowedWordsModel", "begins", "[I", true)
  | 39 => ("BorrowedWordsModel", "ends", "[I", true)
  | 40 => ("BorrowedWordsModel", "pairs", "[I", true)
  | _ => ("BorrowedWordsModel", "longest", "[I", true)
def fty12 : Nat → FieldType := fun k => match k with
  | 0 => .int
  | 1 => .array (.int)
  | 2 => .array (.int)
  | 3 => .array (.int)
  | 4 => .array (.int)
  | 5 => .array (.boolean)
  | 6 => .array (.int)
  | 7 => .array (.boolean)
  | 8 => .boolean
  | 9 => .int
  | 10 => .array (.int)
  | 11 => .array (.int)
  | 12 => .array (.int)
  | 13 => .array (.int)
  | 14 => .int
  | 15 => .array (.int)
  | 16 => .array (.int)
  | 17 => .int
  | 18 => .array (.int)
  | 19 => .array (.int)
  | 20 => .array (.boolean)
  | 21 => .array (.int)
  | 22 => .array (.int)
  | 23 => .int
  | 24 => .int
  | 25 => .int
  | 26 => .long
  | 27 => .int
  | 28 => .int
  | 29 => .array (.int)
  | 30 => .int
  | 31 => .array (.int)
  | 32 => .array (.int)
  | 33 => .array (.int)
  | 34 => .array (.int)
  | 35 => .int
  | 36 => .int
  | 37 => .array (.int)
  | 38 => .array (.int)
  | 39 => .array (.int)
  | 40 => .array (.int)
  | _ => .array (.int)
def cls_ : List vw_C := [("BorrowedWords$Text", fld0, 5), ("BorrowedWords$Shelf", fld1, 2), ("BorrowedWords$Lexicon", fld2, 3), ("BorrowedWords$Marks", fld3, 6), ("BorrowedWords$RuleReader", fld4, 7), ("BorrowedWords$RuleBook", fld5, 4), ("BorrowedWords$Runs", fld6, 15), ("BorrowedWords$Explanation", fld7, 8), ("BorrowedWords$Ways", fld8, 10), ("BorrowedWords$RowTable", fld9, 6), ("BorrowedWords$Sentences", fld10, 6), ("BorrowedWords", fld11, 10), ("BorrowedWordsModel", fld12, 42)]
def ftg_ : List (List Nat) := [[2, 1, 0, 0, 0], [2, 0], [2, 2, 2], [2, 2, 2, 2, 2, 0], [2, 2, 0, 0, 0, 0, 0], [2, 2, 2, 0], [2, 2, 2, 2, 2, 2, 2, 2, 2, 0, 0, 0, 0, 3, 3], [2, 2, 2, 2, 2, 2, 0, 1], [2, 2, 2, 2, 2, 3, 0, 0, 0, 0], [2, 2, 2, 2, 0, 0], [2, 2, 2, 2, 0, 0], [2, 2, 2, 2, 2, 2, 2, 2, 2, 2], [0, 2, 2, 2, 2, 2, 2, 2, 3, 0, 2, 2, 2, 2, 0, 2, 2, 0, 2, 2, 2, 2, 2, 0, 0, 0, 1, 0, 0, 2, 0, 2, 2, 2, 2, 0, 0, 2, 2, 2, 2, 2]]
def fTag (ci k : Nat) : Nat := (ftg_.getD ci []).getD k 0
def nF (ci : Nat) : Nat := (ftg_.getD ci []).length
def ftyS_ : List (Nat → FieldType) := [fty0, fty1, fty2, fty3, fty4, fty5, fty6, fty7, fty8, fty9, fty10, fty11, fty12]
def ftyOf (ci : Nat) : Nat → FieldType := ftyS_.getD ci (fun _ => .int)

def tyOf (t : Nat) : FieldType := match t with
  | 1 => .int
  | 2 => .long
  | 3 => .boolean
  | 4 => .object "BorrowedWords$Text"
  | 5 => .array .int
  | _ => .array .long
def TY (kA : Nat → ClassId) : List (ClassId × FieldType) := [(kA 1, tyOf 1), (kA 2, tyOf 2), (kA 3, tyOf 3), (kA 4, tyOf 4), (kA 5, tyOf 5), (kA 6, tyOf 6)]
def adr (ro : Int → Option Nat) (ad : Nat → Nat) (r : Int) : Option Nat := if r < 0 then (if r = -1 then none else ro r) else some (ad r.toNat)
def cV (ro : Int → Option Nat) (ad : Nat → Nat) (v : Vl_) : Value := match v with
  | (0, x) => .int (Int32.ofInt x)
  | (1, x) => .long (Int64.ofInt x)
  | (_, x) => va_rf (adr ro ad x)
def cF (ro : Int → Option Nat) (ad : Nat → Nat) (M : Mm_) (a : Int) (ci : Nat) (rs : List Int) (k : Nat) : Value := match fTag ci k with
  | 1 => .long (Int64.ofInt (M a k))
  | 2 => va_rf (adr ro ad (rs.getD k (-1)))
  | _ => .int (Int32.ofInt (M a k))
def cR (ro : Int → Option Nat) (ad : Nat → Nat) (rs : List Int) (j : Nat) : Option Nat := (rs[j]?).bind (adr ro ad)
def cC (kA : Nat → ClassId) (ro : Int → Option Nat) (ad : Nat → Nat) (M : Mm_) (a : Int) (c : Cl_) : va_E := match c with
  | (0, ci, rs) => .inr (ci, (List.range (nF ci)).map (cF ro ad M a ci rs))
  | (1, n, _) => .inl (kA 1, n, .inl (fun j => Int32.ofInt (M a j)))
  | (2, n, _) => .inl (kA 2, n, .inr (.inl (fun j => Int64.ofInt (M a j))))
  | (3, n, _) => .inl (kA 3, n, .inl (fun j => Int32.ofInt (M a j)))
  | (4, n, rs) => .inl (kA 4, n, .inr (.inr (.inr (.inr (cR ro ad rs)))))
  | (5, n, rs) => .inl (kA 5, n, .inr (.inr (.inr (.inr (cR ro ad rs)))))
  | (_, n, rs) => .inl (kA 6, n, .inr (.inr (.inr (.inr (cR ro ad rs)))))
def cW (kA : Nat → ClassId) (ro : Int → Option Nat) (ad : Nat → Nat) (w : Wd_) (M : Mm_) : va_W := w.mapIdx (fun i c => (ad i, cC kA ro ad M i c))
/-- is a slot a long's? -/
def isLg (w : Wd_) (a j : Int) : Bool := if a < 0 then false else match w[a.toNat]? with
  | some (2, _, _) => true
  | some (0, ci, _) => if j < 0 then false else fTag ci j.toNat == 1
  | _ => false
def okV (w : Wd_) (v : Vl_) : Prop := match v with
  | (0, x) => inI x
  | (1, x) => inL x
  | (_, x) => x < w.length
def okS (w : Wd_) (st : List Vl_) : Prop := ∀ v ∈ st, okV w v
def okL (w : Wd_) (ls : Lc_) : Prop := ∀ (i : Nat) (v : Vl_), ls[i]? = some (some v) → okV w v
/-- the cells are as they should be: references lie within, numbers fit, objects have their fields, what is read-only stays -/
def WI (RM : Mm_) (w : Wd_) (M : Mm_) : Prop :=
  (∀ (i : Nat) (c : Cl_), w[i]? = some c → (∀ r ∈ c.2.2, r < w.length) ∧ (c.1 = 0 → c.2.1 < cls_.length ∧ c.2.2.length = nF c.2.1) ∧ (4 ≤ c.1 → c.2.2.length = c.2.1) ∧ c.1 ≤ 6) ∧
  (∀ a j, inL (M a j)) ∧ (∀ a j, isLg w a j = false → inI (M a j)) ∧ (∀ a j, a < 0 → M a j = RM a j)
def LH (ro : Int → Option Nat) (ad : Nat → Nat) (lsA : Array Slot) (n : Nat) (ls : Lc_) : Prop := lsA.size = n ∧ ls.length = n ∧ lv_wf lsA ∧ ∀ (i : Nat) (v : Vl_), ls[i]? = some (some v) → lsA[i]? = some (.val (cV ro ad v))
def cL (ro : Int → Option Nat) (ad : Nat → Nat) (ls : Lc_) : List (Nat × Value) := (List.range ls.length).filterMap (fun i => match ls[i]? with
  | some (some v) => some (i, cV ro ad v)
  | _ => none)
theorem mem_cL {ro : Int → Option Nat} {ad : Nat → Nat} {ls : Lc_} {q : Nat × Value} : q ∈ cL ro ad ls ↔ ∃ v, ls[q.1]? = some (some v) ∧ q.2 = cV ro ad v := by
  unfold cL
  rw [List.mem_filterMap]
  constructor
  · rintro ⟨i, -, h⟩
    split at h
    · rename_i v hv
      cases h
      exact ⟨v, hv, rfl⟩
    · cases h
  · rintro ⟨v, hv, e⟩
    refine ⟨q.1, List.mem_range.mpr (List.getElem?_eq_some_iff.mp hv).1, ?_⟩
    rw [hv]
    show some (q.1, cV ro ad v) = some q
    rw [← e]
theorem LH.has {ro : Int → Option Nat} {ad : Nat → Nat} {lsA : Array Slot} {n : Nat} {ls : Lc_} (h : LH ro ad lsA n ls) : lv_has lsA n (cL ro ad ls) :=
  ⟨h.1, h.2.2.1, fun q hq => by obtain ⟨v, h1, h2⟩ := mem_cL.mp hq; rw [h2]; exact h.2.2.2 _ _ h1⟩
theorem LH.of {ro : Int → Option Nat} {ad : Nat → Nat} {lsA : Array Slot} {n : Nat} {ls : Lc_} {l : List (Nat × Value)} (h : lv_has lsA n l) (hn : ls.length = n) (hs : ∀ (i : Nat) (v : Vl_), ls[i]? = some (some v) → (i, cV ro ad v) ∈ l) : LH ro ad lsA n ls :=
  ⟨h.1, hn, h.2.1, fun i v hv => h.2.2 _ (hs i v hv)⟩
theorem LH.forget {ro : Int → Option Nat} {ad : Nat → Nat} {lsA : Array Slot} {n : Nat} {ls ls' : Lc_} (h : LH ro ad lsA n ls) (hn : ls.length = ls'.length) (hs : lsub ls' ls) : LH ro ad lsA n ls' :=
  ⟨h.1, hn ▸ h.2.1, h.2.2.1, fun i v hv => h.2.2.2 i v (hs i v hv)⟩
theorem inI_of32 {x : Int} (h : inI x) : (Int32.ofInt x).toInt = x := by
  rw [Int32.toInt_ofInt]
  unfold inI at h
  show Int.bmod x 4294967296 = x
  rw [Int.bmod_def]
  split <;> omega
theorem inL_of64 {x : Int} (h : inL x) : (Int64.ofInt x).toInt = x := by
  rw [Int64.toInt_ofInt]
  unfold inL at h
  show Int.bmod x 18446744073709551616 = x
  rw [Int.bmod_def]
  split <;> omega
theorem inI_to (x : Int32) : inI x.toInt := ⟨x.le_toInt, by have := x.toInt_lt; omega⟩
theorem inL_to (x : Int64) : inL x.toInt := ⟨x.le_toInt, by have := x.toInt_lt; omega⟩
theorem inI_L {x : Int} (h : inI x) : inL x := by unfold inI at h; unfold inL; omega
theorem of32_to (x : Int32) : Int32.ofInt x.toInt = x := Int32.ofInt_toInt x
theorem of64_to (x : Int64) : Int64.ofInt x.toInt = x := Int64.ofInt_toInt x
theorem clp_of {i : Int} (h : inI i) (h0 : 0 ≤ i) : (Int32.ofInt i).toNatClampNeg = i.toNat := by
  show (Int32.ofInt i).toInt.toNat = i.toNat
  rw [inI_of32 h]
theorem in_of {i n : Int} (h : inI i) (h0 : 0 ≤ i ∧ i < n) : vp_in (Int32.ofInt i) n.toNat := by
  rw [vp_in_iff, inI_of32 h]
  omega
end
section
-- ===== PART A: goes FIRST, ahead of the names: the tables' words, and 'selects' of the private methods out of them =====
/-- a private method of a class that the tables say can be made, by its rows of tables_1 -/
def lw_okq (q : MethodName × Nat) : Prop := (q.1.cls ≠ "java/lang/invoke/MethodHandle" ∧ q.1.cls ≠ "java/lang/invoke/VarHandle") ∧ Cond.instantiable q.1.cls q.2 ∈ tables_1 ∧ Cond.privateMethod q.1 ∈ tables_1 ∧ Cond.instanceMethod q.1 ∈ tables_1
theorem lw_p0 : lw_okq (⟨"BorrowedWords", "forget", "()V"⟩, 10) := ⟨⟨by decide +kernel, by decide +kernel⟩, List.mem_of_getElem? (i := 22) (by decide +kernel), List.mem_of_getElem? (i := 422) (by decide +kernel), List.mem_of_getElem? (i := 423) (by decide +kernel)⟩
theorem lw_p1 : lw_okq (⟨"BorrowedWords$Text", "repeats", "(ILBorrowedWords$Text;II)Z"⟩, 5) := ⟨⟨by decide +kernel, by decide +kernel⟩, List.mem_of_getElem? (i := 37) (by decide +kernel), List.mem_of_getElem? (i := 506) (by decide +kernel), List.mem_of_getElem? (i := 507) (by decide +kernel)⟩
theorem lw_p2 : lw_okq (⟨"BorrowedWords$RuleReader", "skipBlanks", "()V"⟩, 7) := ⟨⟨by decide +kernel, by decide +kernel⟩, List.mem_of_getElem? (i := 136) (by decide +kernel), List.mem_of_getElem? (i := 580) (by decide +kernel), List.mem_of_getElem? (i := 581) (by decide +kernel)⟩
theorem lw_p3 : lw_okq (⟨"BorrowedWords$RuleReader", "readClause", "(II)V"⟩, 7) := ⟨⟨by decide +kernel, by decide +kernel⟩, List.mem_of_getElem? (i := 136) (by decide +kernel), List.mem_of_getElem? (i := 584) (by decide +kernel), List.mem_of_getElem? (i := 585) (by decide +kernel)⟩
theorem lw_p4 : lw_okq (⟨"BorrowedWords$RuleReader", "endOfWord", "(I)I"⟩, 7) := ⟨⟨by decide +kernel, by decide +kernel⟩, List.mem_of_getElem? (i := 136) (by decide +kernel), List.mem_of_getElem? (i := 588) (by decide +kernel), List.mem_of_getElem? (i := 589) (by decide +kernel)⟩
theorem lw_p5 : lw_okq (⟨"BorrowedWords$RuleReader", "kindOf", "(II)I"⟩, 7) := ⟨⟨by decide +kernel, by decide +kernel⟩, List.mem_of_getElem? (i := 136) (by decide +kernel), List.mem_of_getElem? (i := 592) (by decide +kernel), List.mem_of_getElem? (i := 593) (by decide +kernel)⟩
theorem lw_p6 : lw_okq (⟨"BorrowedWords$RuleReader", "spells", "(IILjava/lang/String;)Z"⟩, 7) := ⟨⟨by decide +kernel, by decide +kernel⟩, List.mem_of_getElem? (i := 136) (by decide +kernel), List.mem_of_getElem? (i := 597) (by decide +kernel), List.mem_of_getElem? (i := 598) (by decide +kernel)⟩
theorem lw_p7 : lw_okq (⟨"BorrowedWords$RuleReader", "fail", "(II)V"⟩, 7) := ⟨⟨by decide +kernel, by decide +kernel⟩, List.mem_of_getElem? (i := 136) (by decide +kernel), List.mem_of_getElem? (i := 656) (by decide +kernel), List.mem_of_getElem? (i := 657) (by decide +kernel)⟩
theorem lw_p8 : lw_okq (⟨"BorrowedWords$RuleReader", "readStrike", "(I)V"⟩, 7) := ⟨⟨by decide +kernel, by decide +kernel⟩, List.mem_of_getElem? (i := 136) (by decide +kernel), List.mem_of_getElem? (i := 660) (by decide +kernel), List.mem_of_getElem? (i := 661) (by decide +kernel)⟩
theorem lw_p9 : lw_okq (⟨"BorrowedWords$RuleReader", "readNumber", "()I"⟩, 7) := ⟨⟨by decide +kernel, by decide +kernel⟩, List.mem_of_getElem? (i := 136) (by decide +kernel), List.mem_of_getElem? (i := 664) (by decide +kernel), List.mem_of_getElem? (i := 665) (by decide +kernel)⟩
theorem lw_p10 : lw_okq (⟨"BorrowedWords$RuleReader", "readYes", "(I)V"⟩, 7) := ⟨⟨by decide +kernel, by decide +kernel⟩, List.mem_of_getElem? (i := 136) (by decide +kernel), List.mem_of_getElem? (i := 668) (by decide +kernel), List.mem_of_getElem? (i := 669) (by decide +kernel)⟩
theorem lw_p11 : lw_okq (⟨"BorrowedWords$RuleReader", "readSetting", "(I)V"⟩, 7) := ⟨⟨by decide +kernel, by decide +kernel⟩, List.mem_of_getElem? (i := 136) (by decide +kernel), List.mem_of_getElem? (i := 674) (by decide +kernel), List.mem_of_getElem? (i := 675) (by decide +kernel)⟩
theorem lw_p12 : lw_okq (⟨"BorrowedWords$RuleBook", "countingOn", "(I)I"⟩, 4) := ⟨⟨by decide +kernel, by decide +kernel⟩, List.mem_of_getElem? (i := 168) (by decide +kernel), List.mem_of_getElem? (i := 699) (by decide +kernel), List.mem_of_getElem? (i := 700) (by decide +kernel)⟩
theorem lw_p13 : lw_okq (⟨"BorrowedWords", "refusalOfLook", "(II)I"⟩, 10) := ⟨⟨by decide +kernel, by decide +kernel⟩, List.mem_of_getElem? (i := 22) (by decide +kernel), List.mem_of_getElem? (i := 709) (by decide +kernel), List.mem_of_getElem? (i := 710) (by decide +kernel)⟩
theorem lw_p14 : lw_okq (⟨"BorrowedWords", "sourcesLookedAt", "(II)I"⟩, 10) := ⟨⟨by decide +kernel, by decide +kernel⟩, List.mem_of_getElem? (i := 22) (by decide +kernel), List.mem_of_getElem? (i := 723) (by decide +kernel), List.mem_of_getElem? (i := 724) (by decide +kernel)⟩
theorem lw_p15 : lw_okq (⟨"BorrowedWords$Runs", "takeUp", "(I)V"⟩, 15) := ⟨⟨by decide +kernel, by decide +kernel⟩, List.mem_of_getElem? (i := 190) (by decide +kernel), List.mem_of_getElem? (i := 731) (by decide +kernel), List.mem_of_getElem? (i := 732) (by decide +kernel)⟩
def lw_privs_1 : List (MethodName × Nat) := [(⟨"BorrowedWords", "forget", "()V"⟩, 10), (⟨"BorrowedWords$Text", "repeats", "(ILBorrowedWords$Text;II)Z"⟩, 5), (⟨"BorrowedWords$RuleReader", "skipBlanks", "()V"⟩, 7), (⟨"BorrowedWords$RuleReader", "readClause", "(II)V"⟩, 7), (⟨"BorrowedWords$RuleReader", "endOfWord", "(I)I"⟩, 7), (⟨"BorrowedWords$RuleReader", "kindOf", "(II)I"⟩, 7), (⟨"BorrowedWords$RuleReader", "spells", "(IILjava/lang/String;)Z"⟩, 7), (⟨"BorrowedWords$RuleReader", "fail", "(II)V"⟩, 7), (⟨"BorrowedWords$RuleReader", "readStrike", "(I)V"⟩, 7), (⟨"BorrowedWords$RuleReader", "readNumber", "()I"⟩, 7), (⟨"BorrowedWords$RuleReader", "readYes", "(I)V"⟩, 7), (⟨"BorrowedWords$RuleReader", "readSetting", "(I)V"⟩, 7), (⟨"BorrowedWords$RuleBook", "countingOn", "(I)I"⟩, 4), (⟨"BorrowedWords", "refusalOfLook", "(II)I"⟩, 10), (⟨"BorrowedWords", "sourcesLookedAt", "(II)I"⟩, 10), (⟨"BorrowedWords$Runs", "takeUp", "(I)V"⟩, 15)]
theorem lw_r1 : ∀ q ∈ lw_privs_1, lw_okq q := List.forall_mem_cons.mpr ⟨lw_p0, List.forall_mem_cons.mpr ⟨lw_p1, List.forall_mem_cons.mpr ⟨lw_p2, List.forall_mem_cons.mpr ⟨lw_p3, List.forall_mem_cons.mpr ⟨lw_p4, List.forall_mem_cons.mpr ⟨lw_p5, List.forall_mem_cons.mpr ⟨lw_p6, List.forall_mem_cons.mpr ⟨lw_p7, List.forall_mem_cons.mpr ⟨lw_p8, List.forall_mem_cons.mpr ⟨lw_p9, List.forall_mem_cons.mpr ⟨lw_p10, List.forall_mem_cons.mpr ⟨lw_p11, List.forall_mem_cons.mpr ⟨lw_p12, List.forall_mem_cons.mpr ⟨lw_p13, List.forall_mem_cons.mpr ⟨lw_p14, List.forall_mem_cons.mpr ⟨lw_p15, fun _ h => absurd h List.not_mem_nil⟩⟩⟩⟩⟩⟩⟩⟩⟩⟩⟩⟩⟩⟩⟩⟩
theorem lw_p16 : lw_okq (⟨"BorrowedWords$Runs", "keyOf", "(I)I"⟩, 15) := ⟨⟨by decide +kernel, by decide +kernel⟩, List.mem_of_getElem? (i := 190) (by decide +kernel), List.mem_of_getElem? (i := 735) (by decide +kernel), List.mem_of_getElem? (i := 736) (by decide +kernel)⟩
theorem lw_p17 : lw_okq (⟨"BorrowedWords$Runs", "holdAgainst", "(I)V"⟩, 15) := ⟨⟨by decide +kernel, by decide +kernel⟩, List.mem_of_getElem? (i := 190) (by decide +kernel), List.mem_of_getElem? (i := 740) (by decide +kernel), List.mem_of_getElem? (i := 741) (by decide +kernel)⟩
theorem lw_p18 : lw_okq (⟨"BorrowedWords$Runs", "sizesAt", "(I)J"⟩, 15) := ⟨⟨by decide +kernel, by decide +kernel⟩, List.mem_of_getElem? (i := 190) (by decide +kernel), List.mem_of_getElem? (i := 744) (by decide +kernel), List.mem_of_getElem? (i := 745) (by decide +kernel)⟩
theorem lw_p19 : lw_okq (⟨"BorrowedWords$Runs", "begin", "(I)V"⟩, 15) := ⟨⟨by decide +kernel, by decide +kernel⟩, List.mem_of_getElem? (i := 190) (by decide +kernel), List.mem_of_getElem? (i := 748) (by decide +kernel), List.mem_of_getElem? (i := 749) (by decide +kernel)⟩
theorem lw_p20 : lw_okq (⟨"BorrowedWords$Runs", "goesAlong", "()Z"⟩, 15) := ⟨⟨by decide +kernel, by decide +kernel⟩, List.mem_of_getElem? (i := 190) (by decide +kernel), List.mem_of_getElem? (i := 752) (by decide +kernel), List.mem_of_getElem? (i := 753) (by decide +kernel)⟩
theorem lw_p21 : lw_okq (⟨"BorrowedWords$Runs", "extend", "(II)J"⟩, 15) := ⟨⟨by decide +kernel, by decide +kernel⟩, List.mem_of_getElem? (i := 190) (by decide +kernel), List.mem_of_getElem? (i := 756) (by decide +kernel), List.mem_of_getElem? (i := 757) (by decide +kernel)⟩
theorem lw_p22 : lw_okq (⟨"BorrowedWords$Runs", "isOwnEnough", "(II)Z"⟩, 15) := ⟨⟨by decide +kernel, by decide +kernel⟩, List.mem_of_getElem? (i := 190) (by decide +kernel), List.mem_of_getElem? (i := 761) (by decide +kernel), List.mem_of_getElem? (i := 762) (by decide +kernel)⟩
theorem lw_p23 : lw_okq (⟨"BorrowedWords$Explanation", "weigh", "(I)I"⟩, 8) := ⟨⟨by decide +kernel, by decide +kernel⟩, List.mem_of_getElem? (i := 248) (by decide +kernel), List.mem_of_getElem? (i := 793) (by decide +kernel), List.mem_of_getElem? (i := 794) (by decide +kernel)⟩
theorem lw_p24 : lw_okq (⟨"BorrowedWords$Explanation", "choose", "(IJ)V"⟩, 8) := ⟨⟨by decide +kernel, by decide +kernel⟩, List.mem_of_getElem? (i := 248) (by decide +kernel), List.mem_of_getElem? (i := 798) (by decide +kernel), List.mem_of_getElem? (i := 799) (by decide +kernel)⟩
theorem lw_p25 : lw_okq (⟨"BorrowedWords", "takenCount", "()I"⟩, 10) := ⟨⟨by decide +kernel, by decide +kernel⟩, List.mem_of_getElem? (i := 22) (by decide +kernel), List.mem_of_getElem? (i := 806) (by decide +kernel), List.mem_of_getElem? (i := 807) (by decide +kernel)⟩
theorem lw_p26 : lw_okq (⟨"BorrowedWords", "borrowedCount", "(I)I"⟩, 10) := ⟨⟨by decide +kernel, by decide +kernel⟩, List.mem_of_getElem? (i := 22) (by decide +kernel), List.mem_of_getElem? (i := 810) (by decide +kernel), List.mem_of_getElem? (i := 811) (by decide +kernel)⟩
theorem lw_p27 : lw_okq (⟨"BorrowedWords", "shareOf", "(II)I"⟩, 10) := ⟨⟨by decide +kernel, by decide +kernel⟩, List.mem_of_getElem? (i := 22) (by decide +kernel), List.mem_of_getElem? (i := 819) (by decide +kernel), List.mem_of_getElem? (i := 820) (by decide +kernel)⟩
theorem lw_p28 : lw_okq (⟨"BorrowedWords", "verdictOn", "(I)I"⟩, 10) := ⟨⟨by decide +kernel, by decide +kernel⟩, List.mem_of_getElem? (i := 22) (by decide +kernel), List.mem_of_getElem? (i := 823) (by decide +kernel), List.mem_of_getElem? (i := 824) (by decide +kernel)⟩
theorem lw_p29 : lw_okq (⟨"BorrowedWords$Ways", "learnText", "(I)V"⟩, 10) := ⟨⟨by decide +kernel, by decide +kernel⟩, List.mem_of_getElem? (i := 286) (by decide +kernel), List.mem_of_getElem? (i := 857) (by decide +kernel), List.mem_of_getElem? (i := 858) (by decide +kernel)⟩
theorem lw_p30 : lw_okq (⟨"BorrowedWords$RowTable", "insert", "(IJ)V"⟩, 6) := ⟨⟨by decide +kernel, by decide +kernel⟩, List.mem_of_getElem? (i := 328) (by decide +kernel), List.mem_of_getElem? (i := 899) (by decide +kernel), List.mem_of_getElem? (i := 900) (by decide +kernel)⟩
theorem lw_p31 : lw_okq (⟨"BorrowedWords$RowTable", "countInBoth", "(II)I"⟩, 6) := ⟨⟨by decide +kernel, by decide +kernel⟩, List.mem_of_getElem? (i := 328) (by decide +kernel), List.mem_of_getElem? (i := 911) (by decide +kernel), List.mem_of_getElem? (i := 912) (by decide +kernel)⟩
def lw_privs_2 : List (MethodName × Nat) := [(⟨"BorrowedWords$Runs", "keyOf", "(I)I"⟩, 15), (⟨"BorrowedWords$Runs", "holdAgainst", "(I)V"⟩, 15), (⟨"BorrowedWords$Runs", "sizesAt", "(I)J"⟩, 15), (⟨"BorrowedWords$Runs", "begin", "(I)V"⟩, 15), (⟨"BorrowedWords$Runs", "goesAlong", "()Z"⟩, 15), (⟨"BorrowedWords$Runs", "extend", "(II)J"⟩, 15), (⟨"BorrowedWords$Runs", "isOwnEnough", "(II)Z"⟩, 15), (⟨"BorrowedWords$Explanation", "weigh", "(I)I"⟩, 8), (⟨"BorrowedWords$Explanation", "choose", "(IJ)V"⟩, 8), (⟨"BorrowedWords", "takenCount", "()I"⟩, 10), (⟨"BorrowedWords", "borrowedCount", "(I)I"⟩, 10), (⟨"BorrowedWords", "shareOf", "(II)I"⟩, 10), (⟨"BorrowedWords", "verdictOn", "(I)I"⟩, 10), (⟨"BorrowedWords$Ways", "learnText", "(I)V"⟩, 10), (⟨"BorrowedWords$RowTable", "insert", "(IJ)V"⟩, 6), (⟨"BorrowedWords$RowTable", "countInBoth", "(II)I"⟩, 6)]
theorem lw_r2 : ∀ q ∈ lw_privs_2, lw_okq q := List.forall_mem_cons.mpr ⟨lw_p16, List.forall_mem_cons.mpr ⟨lw_p17, List.forall_mem_cons.mpr ⟨lw_p18, List.forall_mem_cons.mpr ⟨lw_p19, List.forall_mem_cons.mpr ⟨lw_p20, List.forall_mem_cons.mpr ⟨lw_p21, List.forall_mem_cons.mpr ⟨lw_p22, List.forall_mem_cons.mpr ⟨lw_p23, List.forall_mem_cons.mpr ⟨lw_p24, List.forall_mem_cons.mpr ⟨lw_p25, List.forall_mem_cons.mpr ⟨lw_p26, List.forall_mem_cons.mpr ⟨lw_p27, List.forall_mem_cons.mpr ⟨lw_p28, List.forall_mem_cons.mpr ⟨lw_p29, List.forall_mem_cons.mpr ⟨lw_p30, List.forall_mem_cons.mpr ⟨lw_p31, fun _ h => absurd h List.not_mem_nil⟩⟩⟩⟩⟩⟩⟩⟩⟩⟩⟩⟩⟩⟩⟩⟩
theorem lw_p32 : lw_okq (⟨"BorrowedWords$RowTable", "fillAll", "(I)V"⟩, 6) := ⟨⟨by decide +kernel, by decide +kernel⟩, List.mem_of_getElem? (i := 328) (by decide +kernel), List.mem_of_getElem? (i := 926) (by decide +kernel), List.mem_of_getElem? (i := 927) (by decide +kernel)⟩
theorem lw_p33 : lw_okq (⟨"BorrowedWords$RowTable", "joinFamilies", "(II)V"⟩, 6) := ⟨⟨by decide +kernel, by decide +kernel⟩, List.mem_of_getElem? (i := 328) (by decide +kernel), List.mem_of_getElem? (i := 940) (by decide +kernel), List.mem_of_getElem? (i := 941) (by decide +kernel)⟩
theorem lw_p34 : lw_okq (⟨"BorrowedWords$Sentences", "isSameSentence", "(LBorrowedWords$Text;ILBorrowedWords$Text;I)Z"⟩, 6) := ⟨⟨by decide +kernel, by decide +kernel⟩, List.mem_of_getElem? (i := 357) (by decide +kernel), List.mem_of_getElem? (i := 960) (by decide +kernel), List.mem_of_getElem? (i := 961) (by decide +kernel)⟩
theorem lw_p35 : lw_okq (⟨"BorrowedWordsModel", "isText", "(I)Z"⟩, 42) := ⟨⟨by decide +kernel, by decide +kernel⟩, List.mem_of_getElem? (i := 970) (by decide +kernel), List.mem_of_getElem? (i := 1116) (by decide +kernel), List.mem_of_getElem? (i := 1117) (by decide +kernel)⟩
theorem lw_p36 : lw_okq (⟨"BorrowedWordsModel", "put", "(IIZ)V"⟩, 42) := ⟨⟨by decide +kernel, by decide +kernel⟩, List.mem_of_getElem? (i := 970) (by decide +kernel), List.mem_of_getElem? (i := 1121) (by decide +kernel), List.mem_of_getElem? (i := 1122) (by decide +kernel)⟩
theorem lw_p37 : lw_okq (⟨"BorrowedWordsModel", "stopMany", "(I)I"⟩, 42) := ⟨⟨by decide +kernel, by decide +kernel⟩, List.mem_of_getElem? (i := 970) (by decide +kernel), List.mem_of_getElem? (i := 1129) (by decide +kernel), List.mem_of_getElem? (i := 1130) (by decide +kernel)⟩
theorem lw_p38 : lw_okq (⟨"BorrowedWordsModel", "wordOf", "(II)I"⟩, 42) := ⟨⟨by decide +kernel, by decide +kernel⟩, List.mem_of_getElem? (i := 970) (by decide +kernel), List.mem_of_getElem? (i := 1137) (by decide +kernel), List.mem_of_getElem? (i := 1138) (by decide +kernel)⟩
theorem lw_p39 : lw_okq (⟨"BorrowedWordsModel", "sentences", "(I)I"⟩, 42) := ⟨⟨by decide +kernel, by decide +kernel⟩, List.mem_of_getElem? (i := 970) (by decide +kernel), List.mem_of_getElem? (i := 1145) (by decide +kernel), List.mem_of_getElem? (i := 1146) (by decide +kernel)⟩
theorem lw_p40 : lw_okq (⟨"BorrowedWordsModel", "marksThat", "(II)I"⟩, 42) := ⟨⟨by decide +kernel, by decide +kernel⟩, List.mem_of_getElem? (i := 970) (by decide +kernel), List.mem_of_getElem? (i := 1149) (by decide +kernel), List.mem_of_getElem? (i := 1150) (by decide +kernel)⟩
theorem lw_p41 : lw_okq (⟨"BorrowedWordsModel", "standing", "(I)I"⟩, 42) := ⟨⟨by decide +kernel, by decide +kernel⟩, List.mem_of_getElem? (i := 970) (by decide +kernel), List.mem_of_getElem? (i := 1153) (by decide +kernel), List.mem_of_getElem? (i := 1154) (by decide +kernel)⟩
theorem lw_p42 : lw_okq (⟨"BorrowedWordsModel", "isOlder", "(II)Z"⟩, 42) := ⟨⟨by decide +kernel, by decide +kernel⟩, List.mem_of_getElem? (i := 970) (by decide +kernel), List.mem_of_getElem? (i := 1157) (by decide +kernel), List.mem_of_getElem? (i := 1158) (by decide +kernel)⟩
theorem lw_p43 : lw_okq (⟨"BorrowedWordsModel", "isThere", "(IIII)Z"⟩, 42) := ⟨⟨by decide +kernel, by decide +kernel⟩, List.mem_of_getElem? (i := 970) (by decide +kernel), List.mem_of_getElem? (i := 1161) (by decide +kernel), List.mem_of_getElem? (i := 1162) (by decide +kernel)⟩
theorem lw_p44 : lw_okq (⟨"BorrowedWordsModel", "groupMany", "(I)I"⟩, 42) := ⟨⟨by decide +kernel, by decide +kernel⟩, List.mem_of_getElem? (i := 970) (by decide +kernel), List.mem_of_getElem? (i := 1173) (by decide +kernel), List.mem_of_getElem? (i := 1174) (by decide +kernel)⟩
theorem lw_p45 : lw_okq (⟨"BorrowedWordsModel", "here", "()I"⟩, 42) := ⟨⟨by decide +kernel, by decide +kernel⟩, List.mem_of_getElem? (i := 970) (by decide +kernel), List.mem_of_getElem? (i := 1203) (by decide +kernel), List.mem_of_getElem? (i := 1204) (by decide +kernel)⟩
theorem lw_p46 : lw_okq (⟨"BorrowedWordsModel", "readClause", "(IZ)I"⟩, 42) := ⟨⟨by decide +kernel, by decide +kernel⟩, List.mem_of_getElem? (i := 970) (by decide +kernel), List.mem_of_getElem? (i := 1207) (by decide +kernel), List.mem_of_getElem? (i := 1208) (by decide +kernel)⟩
theorem lw_p47 : lw_okq (⟨"BorrowedWordsModel", "readWord", "()V"⟩, 42) := ⟨⟨by decide +kernel, by decide +kernel⟩, List.mem_of_getElem? (i := 970) (by decide +kernel), List.mem_of_getElem? (i := 1211) (by decide +kernel), List.mem_of_getElem? (i := 1212) (by decide +kernel)⟩
def lw_privs_3 : List (MethodName × Nat) := [(⟨"BorrowedWords$RowTable", "fillAll", "(I)V"⟩, 6), (⟨"BorrowedWords$RowTable", "joinFamilies", "(II)V"⟩, 6), (⟨"BorrowedWords$Sentences", "isSameSentence", "(LBorrowedWords$Text;ILBorrowedWords$Text;I)Z"⟩, 6), (⟨"BorrowedWordsModel", "isText", "(I)Z"⟩, 42), (⟨"BorrowedWordsModel", "put", "(IIZ)V"⟩, 42), (⟨"BorrowedWordsModel", "stopMany", "(I)I"⟩, 42), (⟨"BorrowedWordsModel", "wordOf", "(II)I"⟩, 42), (⟨"BorrowedWordsModel", "sentences", "(I)I"⟩, 42), (⟨"BorrowedWordsModel", "marksThat", "(II)I"⟩, 42), (⟨"BorrowedWordsModel", "standing", "(I)I"⟩, 42), (⟨"BorrowedWordsModel", "isOlder", "(II)Z"⟩, 42), (⟨"BorrowedWordsModel", "isThere", "(IIII)Z"⟩, 42), (⟨"BorrowedWordsModel", "groupMany", "(I)I"⟩, 42), (⟨"BorrowedWordsModel", "here", "()I"⟩, 42), (⟨"BorrowedWordsModel", "readClause", "(IZ)I"⟩, 42), (⟨"BorrowedWordsModel", "readWord", "()V"⟩, 42)]
theorem lw_r3 : ∀ q ∈ lw_privs_3, lw_okq q := List.forall_mem_cons.mpr ⟨lw_p32, List.forall_mem_cons.mpr ⟨lw_p33, List.forall_mem_cons.mpr ⟨lw_p34, List.forall_mem_cons.mpr ⟨lw_p35, List.forall_mem_cons.mpr ⟨lw_p36, List.forall_mem_cons.mpr ⟨lw_p37, List.forall_mem_cons.mpr ⟨lw_p38, List.forall_mem_cons.mpr ⟨lw_p39, List.forall_mem_cons.mpr ⟨lw_p40, List.forall_mem_cons.mpr ⟨lw_p41, List.forall_mem_cons.mpr ⟨lw_p42, List.forall_mem_cons.mpr ⟨lw_p43, List.forall_mem_cons.mpr ⟨lw_p44, List.forall_mem_cons.mpr ⟨lw_p45, List.forall_mem_cons.mpr ⟨lw_p46, List.forall_mem_cons.mpr ⟨lw_p47, fun _ h => absurd h List.not_mem_nil⟩⟩⟩⟩⟩⟩⟩⟩⟩⟩⟩⟩⟩⟩⟩⟩
theorem lw_p48 : lw_okq (⟨"BorrowedWordsModel", "keyOf", "()I"⟩, 42) := ⟨⟨by decide +kernel, by decide +kernel⟩, List.mem_of_getElem? (i := 970) (by decide +kernel), List.mem_of_getElem? (i := 1221) (by decide +kernel), List.mem_of_getElem? (i := 1222) (by decide +kernel)⟩
theorem lw_p49 : lw_okq (⟨"BorrowedWordsModel", "fails", "(II)I"⟩, 42) := ⟨⟨by decide +kernel, by decide +kernel⟩, List.mem_of_getElem? (i := 970) (by decide +kernel), List.mem_of_getElem? (i := 1228) (by decide +kernel), List.mem_of_getElem? (i := 1229) (by decide +kernel)⟩
theorem lw_p50 : lw_okq (⟨"BorrowedWordsModel", "readYes", "()I"⟩, 42) := ⟨⟨by decide +kernel, by decide +kernel⟩, List.mem_of_getElem? (i := 970) (by decide +kernel), List.mem_of_getElem? (i := 1232) (by decide +kernel), List.mem_of_getElem? (i := 1233) (by decide +kernel)⟩
theorem lw_p51 : lw_okq (⟨"BorrowedWordsModel", "readNumber", "(III)I"⟩, 42) := ⟨⟨by decide +kernel, by decide +kernel⟩, List.mem_of_getElem? (i := 970) (by decide +kernel), List.mem_of_getElem? (i := 1236) (by decide +kernel), List.mem_of_getElem? (i := 1237) (by decide +kernel)⟩
theorem lw_p52 : lw_okq (⟨"BorrowedWordsModel", "findRules", "(I)V"⟩, 42) := ⟨⟨by decide +kernel, by decide +kernel⟩, List.mem_of_getElem? (i := 970) (by decide +kernel), List.mem_of_getElem? (i := 1254) (by decide +kernel), List.mem_of_getElem? (i := 1255) (by decide +kernel)⟩
theorem lw_p53 : lw_okq (⟨"BorrowedWordsModel", "strikes", "(II)Z"⟩, 42) := ⟨⟨by decide +kernel, by decide +kernel⟩, List.mem_of_getElem? (i := 970) (by decide +kernel), List.mem_of_getElem? (i := 1258) (by decide +kernel), List.mem_of_getElem? (i := 1259) (by decide +kernel)⟩
theorem lw_p54 : lw_okq (⟨"BorrowedWordsModel", "isAsked", "(I)Z"⟩, 42) := ⟨⟨by decide +kernel, by decide +kernel⟩, List.mem_of_getElem? (i := 970) (by decide +kernel), List.mem_of_getElem? (i := 1266) (by decide +kernel), List.mem_of_getElem? (i := 1267) (by decide +kernel)⟩
theorem lw_p55 : lw_okq (⟨"BorrowedWordsModel", "sourcesOf", "(II)I"⟩, 42) := ⟨⟨by decide +kernel, by decide +kernel⟩, List.mem_of_getElem? (i := 970) (by decide +kernel), List.mem_of_getElem? (i := 1270) (by decide +kernel), List.mem_of_getElem? (i := 1271) (by decide +kernel)⟩
theorem lw_p56 : lw_okq (⟨"BorrowedWordsModel", "runFrom", "(IIIIZ)I"⟩, 42) := ⟨⟨by decide +kernel, by decide +kernel⟩, List.mem_of_getElem? (i := 970) (by decide +kernel), List.mem_of_getElem? (i := 1279) (by decide +kernel), List.mem_of_getElem? (i := 1280) (by decide +kernel)⟩
theorem lw_p57 : lw_okq (⟨"BorrowedWordsModel", "isLike", "(II)Z"⟩, 42) := ⟨⟨by decide +kernel, by decide +kernel⟩, List.mem_of_getElem? (i := 970) (by decide +kernel), List.mem_of_getElem? (i := 1283) (by decide +kernel), List.mem_of_getElem? (i := 1284) (by decide +kernel)⟩
theorem lw_p58 : lw_okq (⟨"BorrowedWordsModel", "look", "(II)V"⟩, 42) := ⟨⟨by decide +kernel, by decide +kernel⟩, List.mem_of_getElem? (i := 970) (by decide +kernel), List.mem_of_getElem? (i := 1292) (by decide +kernel), List.mem_of_getElem? (i := 1293) (by decide +kernel)⟩
theorem lw_p59 : lw_okq (⟨"BorrowedWordsModel", "explain", "(II)V"⟩, 42) := ⟨⟨by decide +kernel, by decide +kernel⟩, List.mem_of_getElem? (i := 970) (by decide +kernel), List.mem_of_getElem? (i := 1296) (by decide +kernel), List.mem_of_getElem? (i := 1297) (by decide +kernel)⟩
theorem lw_p60 : lw_okq (⟨"BorrowedWordsModel", "fromOf", "(III)I"⟩, 42) := ⟨⟨by decide +kernel, by decide +kernel⟩, List.mem_of_getElem? (i := 970) (by decide +kernel), List.mem_of_getElem? (i := 1300) (by decide +kernel), List.mem_of_getElem? (i := 1301) (by decide +kernel)⟩
theorem lw_p61 : lw_okq (⟨"BorrowedWordsModel", "placeOf", "(IIII)I"⟩, 42) := ⟨⟨by decide +kernel, by decide +kernel⟩, List.mem_of_getElem? (i := 970) (by decide +kernel), List.mem_of_getElem? (i := 1304) (by decide +kernel), List.mem_of_getElem? (i := 1305) (by decide +kernel)⟩
theorem lw_p62 : lw_okq (⟨"BorrowedWordsModel", "isRun", "(IIIII)Z"⟩, 42) := ⟨⟨by decide +kernel, by decide +kernel⟩, List.mem_of_getElem? (i := 970) (by decide +kernel), List.mem_of_getElem? (i := 1308) (by decide +kernel), List.mem_of_getElem? (i := 1309) (by decide +kernel)⟩
theorem lw_p63 : lw_okq (⟨"BorrowedWordsModel", "borrowed", "(I)I"⟩, 42) := ⟨⟨by decide +kernel, by decide +kernel⟩, List.mem_of_getElem? (i := 970) (by decide +kernel), List.mem_of_getElem? (i := 1316) (by decide +kernel), List.mem_of_getElem? (i := 1317) (by decide +kernel)⟩
def lw_privs_4 : List (MethodName × Nat) := [(⟨"BorrowedWordsModel", "keyOf", "()I"⟩, 42), (⟨"BorrowedWordsModel", "fails", "(II)I"⟩, 42), (⟨"BorrowedWordsModel", "readYes", "()I"⟩, 42), (⟨"BorrowedWordsModel", "readNumber", "(III)I"⟩, 42), (⟨"BorrowedWordsModel", "findRules", "(I)V"⟩, 42), (⟨"BorrowedWordsModel", "strikes", "(II)Z"⟩, 42), (⟨"BorrowedWordsModel", "isAsked", "(I)Z"⟩, 42), (⟨"BorrowedWordsModel", "sourcesOf", "(II)I"⟩, 42), (⟨"BorrowedWordsModel", "runFrom", "(IIIIZ)I"⟩, 42), (⟨"BorrowedWordsModel", "isLike", "(II)Z"⟩, 42), (⟨"BorrowedWordsModel", "look", "(II)V"⟩, 42), (⟨"BorrowedWordsModel", "explain", "(II)V"⟩, 42), (⟨"BorrowedWordsModel", "fromOf", "(III)I"⟩, 42), (⟨"BorrowedWordsModel", "placeOf", "(IIII)I"⟩, 42), (⟨"BorrowedWordsModel", "isRun", "(IIIII)Z"⟩, 42), (⟨"BorrowedWordsModel", "borrowed", "(I)I"⟩, 42)]
theorem lw_r4 : ∀ q ∈ lw_privs_4, lw_okq q := List.forall_mem_cons.mpr ⟨lw_p48, List.forall_mem_cons.mpr ⟨lw_p49, List.forall_mem_cons.mpr ⟨lw_p50, List.forall_mem_cons.mpr ⟨lw_p51, List.forall_mem_cons.mpr ⟨lw_p52, List.forall_mem_cons.mpr ⟨lw_p53, List.forall_mem_cons.mpr ⟨lw_p54, List.forall_mem_cons.mpr ⟨lw_p55, List.forall_mem_cons.mpr ⟨lw_p56, List.forall_mem_cons.mpr ⟨lw_p57, List.forall_mem_cons.mpr ⟨lw_p58, List.forall_mem_cons.mpr ⟨lw_p59, List.forall_mem_cons.mpr ⟨lw_p60, List.forall_mem_cons.mpr ⟨lw_p61, List.forall_mem_cons.mpr ⟨lw_p62, List.forall_mem_cons.mpr ⟨lw_p63, fun _ h => absurd h List.not_mem_nil⟩⟩⟩⟩⟩⟩⟩⟩⟩⟩⟩⟩⟩⟩⟩⟩
theorem lw_p64 : lw_okq (⟨"BorrowedWordsModel", "isCited", "(II)Z"⟩, 42) := ⟨⟨by decide +kernel, by decide +kernel⟩, List.mem_of_getElem? (i := 970) (by decide +kernel), List.mem_of_getElem? (i := 1320) (by decide +kernel), List.mem_of_getElem? (i := 1321) (by decide +kernel)⟩
theorem lw_p65 : lw_okq (⟨"BorrowedWordsModel", "share", "(I)I"⟩, 42) := ⟨⟨by decide +kernel, by decide +kernel⟩, List.mem_of_getElem? (i := 970) (by decide +kernel), List.mem_of_getElem? (i := 1324) (by decide +kernel), List.mem_of_getElem? (i := 1325) (by decide +kernel)⟩
theorem lw_p66 : lw_okq (⟨"BorrowedWordsModel", "verdict", "(I)I"⟩, 42) := ⟨⟨by decide +kernel, by decide +kernel⟩, List.mem_of_getElem? (i := 970) (by decide +kernel), List.mem_of_getElem? (i := 1328) (by decide +kernel), List.mem_of_getElem? (i := 1329) (by decide +kernel)⟩
theorem lw_p67 : lw_okq (⟨"BorrowedWordsModel", "find", "()V"⟩, 42) := ⟨⟨by decide +kernel, by decide +kernel⟩, List.mem_of_getElem? (i := 970) (by decide +kernel), List.mem_of_getElem? (i := 1347) (by decide +kernel), List.mem_of_getElem? (i := 1348) (by decide +kernel)⟩
theorem lw_p68 : lw_okq (⟨"BorrowedWordsModel", "firstOf", "(I)I"⟩, 42) := ⟨⟨by decide +kernel, by decide +kernel⟩, List.mem_of_getElem? (i := 970) (by decide +kernel), List.mem_of_getElem? (i := 1359) (by decide +kernel), List.mem_of_getElem? (i := 1360) (by decide +kernel)⟩
theorem lw_p69 : lw_okq (⟨"BorrowedWordsModel", "rowsOf", "(II)I"⟩, 42) := ⟨⟨by decide +kernel, by decide +kernel⟩, List.mem_of_getElem? (i := 970) (by decide +kernel), List.mem_of_getElem? (i := 1368) (by decide +kernel), List.mem_of_getElem? (i := 1369) (by decide +kernel)⟩
theorem lw_p70 : lw_okq (⟨"BorrowedWordsModel", "hasRow", "(IIIII)Z"⟩, 42) := ⟨⟨by decide +kernel, by decide +kernel⟩, List.mem_of_getElem? (i := 970) (by decide +kernel), List.mem_of_getElem? (i := 1372) (by decide +kernel), List.mem_of_getElem? (i := 1373) (by decide +kernel)⟩
theorem lw_p71 : lw_okq (⟨"BorrowedWordsModel", "isSameRow", "(IIIII)Z"⟩, 42) := ⟨⟨by decide +kernel, by decide +kernel⟩, List.mem_of_getElem? (i := 970) (by decide +kernel), List.mem_of_getElem? (i := 1376) (by decide +kernel), List.mem_of_getElem? (i := 1377) (by decide +kernel)⟩
theorem lw_p72 : lw_okq (⟨"BorrowedWordsModel", "liken", "(III)V"⟩, 42) := ⟨⟨by decide +kernel, by decide +kernel⟩, List.mem_of_getElem? (i := 970) (by decide +kernel), List.mem_of_getElem? (i := 1384) (by decide +kernel), List.mem_of_getElem? (i := 1385) (by decide +kernel)⟩
theorem lw_p73 : lw_okq (⟨"BorrowedWordsModel", "common2", "(III)I"⟩, 42) := ⟨⟨by decide +kernel, by decide +kernel⟩, List.mem_of_getElem? (i := 970) (by decide +kernel), List.mem_of_getElem? (i := 1388) (by decide +kernel), List.mem_of_getElem? (i := 1389) (by decide +kernel)⟩
theorem lw_p74 : lw_okq (⟨"BorrowedWordsModel", "findSentences", "(II)I"⟩, 42) := ⟨⟨by decide +kernel, by decide +kernel⟩, List.mem_of_getElem? (i := 970) (by decide +kernel), List.mem_of_getElem? (i := 1408) (by decide +kernel), List.mem_of_getElem? (i := 1409) (by decide +kernel)⟩
theorem lw_p75 : lw_okq (⟨"BorrowedWordsModel", "areSame", "(IIII)Z"⟩, 42) := ⟨⟨by decide +kernel, by decide +kernel⟩, List.mem_of_getElem? (i := 970) (by decide +kernel), List.mem_of_getElem? (i := 1412) (by decide +kernel), List.mem_of_getElem? (i := 1413) (by decide +kernel)⟩
def lw_privs_5 : List (MethodName × Nat) := [(⟨"BorrowedWordsModel", "isCited", "(II)Z"⟩, 42), (⟨"BorrowedWordsModel", "share", "(I)I"⟩, 42), (⟨"BorrowedWordsModel", "verdict", "(I)I"⟩, 42), (⟨"BorrowedWordsModel", "find", "()V"⟩, 42), (⟨"BorrowedWordsModel", "firstOf", "(I)I"⟩, 42), (⟨"BorrowedWordsModel", "rowsOf", "(II)I"⟩, 42), (⟨"BorrowedWordsModel", "hasRow", "(IIIII)Z"⟩, 42), (⟨"BorrowedWordsModel", "isSameRow", "(IIIII)Z"⟩, 42), (⟨"BorrowedWordsModel", "liken", "(III)V"⟩, 42), (⟨"BorrowedWordsModel", "common2", "(III)I"⟩, 42), (⟨"BorrowedWordsModel", "findSentences", "(II)I"⟩, 42), (⟨"BorrowedWordsModel", "areSame", "(IIII)Z"⟩, 42)]
theorem lw_r5 : ∀ q ∈ lw_privs_5, lw_okq q := List.forall_mem_cons.mpr ⟨lw_p64, List.forall_mem_cons.mpr ⟨lw_p65, List.forall_mem_cons.mpr ⟨lw_p66, List.forall_mem_cons.mpr ⟨lw_p67, List.forall_mem_cons.mpr ⟨lw_p68, List.forall_mem_cons.mpr ⟨lw_p69, List.forall_mem_cons.mpr ⟨lw_p70, List.forall_mem_cons.mpr ⟨lw_p71, List.forall_mem_cons.mpr ⟨lw_p72, List.forall_mem_cons.mpr ⟨lw_p73, List.forall_mem_cons.mpr ⟨lw_p74, List.forall_mem_cons.mpr ⟨lw_p75, fun _ h => absurd h List.not_mem_nil⟩⟩⟩⟩⟩⟩⟩⟩⟩⟩⟩⟩
def lw_privs : List (MethodName × Nat) := lw_privs_1 ++ (lw_privs_2 ++ (lw_privs_3 ++ (lw_privs_4 ++ (lw_privs_5))))
def lw_tbl : List Cond := k2_sels lw_privs ++ tables_1
theorem lw_privs_ok : ∀ q ∈ lw_privs, lw_okq q := by
  show ∀ q ∈ lw_privs_1 ++ (lw_privs_2 ++ (lw_privs_3 ++ (lw_privs_4 ++ (lw_privs_5)))), lw_okq q
  exact List.forall_mem_append.mpr ⟨lw_r1, List.forall_mem_append.mpr ⟨lw_r2, List.forall_mem_append.mpr ⟨lw_r3, List.forall_mem_append.mpr ⟨lw_r4, lw_r5⟩⟩⟩⟩

/-! LINKS (printed by wip/tools/gen_links.py): every word of the tables that an instruction needs -/
def GW : List Jvm.Cond := lw_tbl.filter goodWord
theorem gw_of {w : Jvm.Cond} (h : w ∈ tables_1) (g : goodWord w = true) : w ∈ GW := List.mem_filter.mpr ⟨List.mem_append_right _ h, g⟩
theorem gw_sel {w : Jvm.Cond} (h : w ∈ k2_sels lw_privs) (g : goodWord w = true) : w ∈ GW := List.mem_filter.mpr ⟨List.mem_append_left _ h, g⟩
theorem tb1 {w : Jvm.Cond} (h : w ∈ tables_1_1) : w ∈ tables_1 := List.mem_append_left _ h
theorem gw1 {w : Jvm.Cond} (i : Nat) (h : tables_1_1[i]? = some w) (g : goodWord w = true) : w ∈ GW := gw_of (tb1 (List.mem_of_getElem? h)) g
theorem tb2 {w : Jvm.Cond} (h : w ∈ tables_1_2) : w ∈ tables_1 := List.mem_append_right _ (List.mem_append_left _ h)
theorem gw2 {w : Jvm.Cond} (i : Nat) (h : tables_1_2[i]? = some w) (g : goodWord w = true) : w ∈ GW := gw_of (tb2 (List.mem_of_getElem? h)) g
theorem tb3 {w : Jvm.Cond} (h : w ∈ tables_1_3) : w ∈ tables_1 := List.mem_append_right _ (List.mem_append_right _ (List.mem_append_left _ h))
theorem gw3 {w : Jvm.Cond} (i : Nat) (h : tables_1_3[i]? = some w) (g : goodWord w = true) : w ∈ GW := gw_of (tb3 (List.mem_of_getElem? h)) g
theorem tb4 {w : Jvm.Cond} (h : w ∈ tables_1_4) : w ∈ tables_1 := List.mem_append_right _ (List.mem_append_right _ (List.mem_append_right _ (List.mem_append_left _ h)))
theorem gw4 {w : Jvm.Cond} (i : Nat) (h : tables_1_4[i]? = some w) (g : goodWord w = true) : w ∈ GW := gw_of (tb4 (List.mem_of_getElem? h)) g
theorem tb5 {w : Jvm.Cond} (h : w ∈ tables_1_5) : w ∈ tables_1 := List.mem_append_right _ (List.mem_append_right _ (List.mem_append_right _ (List.mem_append_right _ (List.mem_append_left _ h))))
theorem gw5 {w : Jvm.Cond} (i : Nat) (h : tables_1_5[i]? = some w) (g : goodWord w = true) : w ∈ GW := gw_of (tb5 (List.mem_of_getElem? h)) g
theorem tb6 {w : Jvm.Cond} (h : w ∈ tables_1_6) : w ∈ tables_1 := List.mem_append_right _ (List.mem_append_right _ (List.mem_append_right _ (List.mem_append_right _ (List.mem_append_right _ (h)))))
theorem gw6 {w : Jvm.Cond} (i : Nat) (h : tables_1_6[i]? = some w) (g : goodWord w = true) : w ∈ GW := gw_of (tb6 (List.mem_of_getElem? h)) g
def owN (o : Nat) : String := (["BorrowedWords$Text", "BorrowedWords$Shelf", "BorrowedWords$Lexicon", "BorrowedWords$Marks", "BorrowedWords$RuleReader", "BorrowedWords$RuleBook", "BorrowedWords$Runs", "BorrowedWords$Explanation", "BorrowedWords$Ways", "BorrowedWords$RowTable", "BorrowedWords$Sentences", "BorrowedWords", "BorrowedWordsModel", "java/lang/String", "java/lang/StringLatin1", "jdk/internal/util/Preconditions", "java/lang/Integer", "java/lang/Long", "java/lang/Math", "BorrowedWordsLaw"] : List String).getD o ""
def yOfT : List (List (MethodName)) := [[⟨"BorrowedWords$Text", "<init>", "()V"⟩, ⟨"BorrowedWords$Shelf", "<init>", "()V"⟩, ⟨"BorrowedWords$Lexicon", "<init>", "()V"⟩, ⟨"BorrowedWords$Marks", "<init>", "(LBorrowedWords$Shelf;)V"⟩, ⟨"BorrowedWords$RuleReader", "<init>", "()V"⟩, ⟨"BorrowedWords$RuleBook", "<init>", "()V"⟩, ⟨"BorrowedWords$Runs", "<init>", "(LBorrowedWords$Shelf;LBorrowedWords$Lexicon;LBorrowedWords$RuleBook;)V"⟩, ⟨"BorrowedWords$Explanation", "<init>", "(LBorrowedWords$Runs;)V"⟩, ⟨"BorrowedWords$Ways", "<init>", "(LBorrowedWords$Shelf;LBorrowedWords$Runs;LBorrowedWords$Explanation;)V"⟩, ⟨"BorrowedWords$RowTable", "<init>", "(LBorrowedWords$Shelf;)V"⟩, ⟨"BorrowedWords$Sentences", "<init>", "()V"⟩, ⟨"BorrowedWords", "<init>", "()V"⟩, ⟨"BorrowedWordsModel", "<init>", "()V"⟩, ⟨"BorrowedWords", "isDay", "(I)Z"⟩, ⟨"BorrowedWords", "forget", "()V"⟩, ⟨"BorrowedWords$Shelf", "open", "(II)I"⟩],
  [⟨"BorrowedWords", "text", "(II)I"⟩, ⟨"BorrowedWordsModel", "in", "(JJJ)Z"⟩, ⟨"BorrowedWordsModel", "text", "(II)I"⟩, ⟨"BorrowedWords$Shelf", "has", "(I)Z"⟩, ⟨"BorrowedWords", "isWord", "(I)Z"⟩, ⟨"BorrowedWords$Text", "hasRoomFor", "(I)Z"⟩, ⟨"BorrowedWords$Text", "append", "(I)V"⟩, ⟨"BorrowedWords", "word", "(II)I"⟩, ⟨"BorrowedWordsModel", "isText", "(I)Z"⟩, ⟨"BorrowedWordsModel", "put", "(IIZ)V"⟩, ⟨"BorrowedWordsModel", "word", "(II)I"⟩, ⟨"BorrowedWords$Text", "stopsBehind", "(I)Z"⟩, ⟨"BorrowedWords$Text", "endsWithStop", "()Z"⟩, ⟨"BorrowedWords$Text", "appendStop", "()V"⟩, ⟨"java/lang/Long", "bitCount", "(J)I"⟩, ⟨"BorrowedWords", "stop", "(I)I"⟩],
  [⟨"BorrowedWordsModel", "stopMany", "(I)I"⟩, ⟨"BorrowedWordsModel", "stop", "(I)I"⟩, ⟨"BorrowedWords$Text", "spans", "(II)Z"⟩, ⟨"BorrowedWords", "copy", "(IIII)I"⟩, ⟨"BorrowedWordsModel", "wordOf", "(II)I"⟩, ⟨"BorrowedWordsModel", "copy", "(IIII)I"⟩, ⟨"BorrowedWords$Text", "sentenceCount", "()I"⟩, ⟨"BorrowedWords$Shelf", "isOlder", "(II)Z"⟩, ⟨"BorrowedWords$Text", "repeats", "(ILBorrowedWords$Text;II)Z"⟩, ⟨"BorrowedWords$Text", "hasPassage", "(LBorrowedWords$Text;II)Z"⟩, ⟨"BorrowedWords$Marks", "standing", "(I)I"⟩, ⟨"BorrowedWords$Marks", "howMany", "(II)I"⟩, ⟨"BorrowedWords", "about", "(II)I"⟩, ⟨"BorrowedWordsModel", "sentences", "(I)I"⟩, ⟨"BorrowedWordsModel", "isOlder", "(II)Z"⟩, ⟨"BorrowedWordsModel", "isThere", "(IIII)Z"⟩],
  [⟨"BorrowedWordsModel", "standing", "(I)I"⟩, ⟨"BorrowedWordsModel", "marksThat", "(II)I"⟩, ⟨"BorrowedWordsModel", "about", "(II)I"⟩, ⟨"BorrowedWords$Text", "hasPlace", "(I)Z"⟩, ⟨"BorrowedWords", "at", "(II)I"⟩, ⟨"BorrowedWordsModel", "at", "(II)I"⟩, ⟨"BorrowedWords$Lexicon", "join", "(II)I"⟩, ⟨"BorrowedWords", "same", "(II)I"⟩, ⟨"BorrowedWordsModel", "groupMany", "(I)I"⟩, ⟨"BorrowedWordsModel", "same", "(II)I"⟩, ⟨"BorrowedWords", "common", "(IZ)I"⟩, ⟨"BorrowedWordsModel", "common", "(IZ)I"⟩, ⟨"BorrowedWords$Marks", "add", "(IIII)I"⟩, ⟨"BorrowedWords", "mark", "(IIII)I"⟩, ⟨"BorrowedWordsModel", "mark", "(IIII)I"⟩, ⟨"BorrowedWords$Marks", "has", "(I)Z"⟩],
  [⟨"BorrowedWords", "stands", "(I)I"⟩, ⟨"BorrowedWordsModel", "stands", "(I)I"⟩, ⟨"BorrowedWords$Shelf", "wordCount", "()I"⟩, ⟨"BorrowedWords$Lexicon", "countOfShared", "()I"⟩, ⟨"BorrowedWords$Lexicon", "countOfCommon", "()I"⟩, ⟨"BorrowedWords", "count", "(I)I"⟩, ⟨"BorrowedWordsModel", "count", "(I)I"⟩, ⟨"BorrowedWords$RuleReader", "append", "(I)V"⟩, ⟨"BorrowedWords", "feed", "(IJ)I"⟩, ⟨"BorrowedWordsModel", "feed", "(IJ)I"⟩, ⟨"BorrowedWords$RuleReader", "skipBlanks", "()V"⟩, ⟨"BorrowedWords$RuleReader", "endOfWord", "(I)I"⟩, ⟨"java/lang/String", "coder", "()B"⟩, ⟨"java/lang/String", "length", "()I"⟩, ⟨"java/lang/String", "isLatin1", "()Z"⟩, ⟨"jdk/internal/util/Preconditions", "checkIndex", "(IILjava/util/function/BiFunction;)I"⟩],
  [⟨"java/lang/String", "checkIndex", "(II)V"⟩, ⟨"java/lang/StringLatin1", "charAt", "([BI)C"⟩, ⟨"java/lang/String", "charAt", "(I)C"⟩, ⟨"BorrowedWords$RuleReader", "spells", "(IILjava/lang/String;)Z"⟩, ⟨"BorrowedWords$RuleReader", "kindOf", "(II)I"⟩, ⟨"BorrowedWords$RuleReader", "fail", "(II)V"⟩, ⟨"BorrowedWords$RuleReader", "readNumber", "()I"⟩, ⟨"BorrowedWords$RuleReader", "readStrike", "(I)V"⟩, ⟨"BorrowedWords$RuleReader", "readYes", "(I)V"⟩, ⟨"BorrowedWords$RuleReader", "readSetting", "(I)V"⟩, ⟨"BorrowedWords$RuleReader", "readClause", "(II)V"⟩, ⟨"BorrowedWords$RuleReader", "read", "(I)I"⟩, ⟨"BorrowedWords$RuleBook", "add", "(I[II)I"⟩, ⟨"BorrowedWords", "rule", "(I)I"⟩, ⟨"BorrowedWordsModel", "here", "()I"⟩, ⟨"BorrowedWordsModel", "readWord", "()V"⟩],
  [⟨"BorrowedWordsModel", "code", "(IIIIII)J"⟩, ⟨"BorrowedWordsModel", "keyOf", "()I"⟩, ⟨"BorrowedWordsModel", "fails", "(II)I"⟩, ⟨"BorrowedWordsModel", "readYes", "()I"⟩, ⟨"BorrowedWordsModel", "readNumber", "(III)I"⟩, ⟨"BorrowedWordsModel", "mostOf", "(I)I"⟩, ⟨"BorrowedWordsModel", "readClause", "(IZ)I"⟩, ⟨"BorrowedWordsModel", "rule", "(I)I"⟩, ⟨"BorrowedWords", "fault", "()I"⟩, ⟨"BorrowedWordsModel", "fault", "()I"⟩, ⟨"BorrowedWords$RuleBook", "countingOn", "(I)I"⟩, ⟨"BorrowedWords$RuleBook", "holding", "(II)I"⟩, ⟨"BorrowedWords", "force", "(II)I"⟩, ⟨"BorrowedWordsModel", "strikes", "(II)Z"⟩, ⟨"BorrowedWordsModel", "findRules", "(I)V"⟩, ⟨"BorrowedWordsModel", "force", "(II)I"⟩],
  [⟨"BorrowedWords", "refusalOfLook", "(II)I"⟩, ⟨"BorrowedWords$Runs", "sourceSet", "(II)I"⟩, ⟨"BorrowedWords", "sources", "(II)I"⟩, ⟨"BorrowedWordsModel", "isAsked", "(I)Z"⟩, ⟨"BorrowedWordsModel", "sourcesOf", "(II)I"⟩, ⟨"BorrowedWordsModel", "sources", "(II)I"⟩, ⟨"BorrowedWords$Runs", "keyOf", "(I)I"⟩, ⟨"BorrowedWords$Runs", "takeUp", "(I)V"⟩, ⟨"BorrowedWords$Runs", "holdAgainst", "(I)V"⟩, ⟨"BorrowedWords$Runs", "begin", "(I)V"⟩, ⟨"BorrowedWords$Runs", "goesAlong", "()Z"⟩, ⟨"BorrowedWords$Runs", "extend", "(II)J"⟩, ⟨"BorrowedWords$Runs", "isOwnEnough", "(II)Z"⟩, ⟨"BorrowedWords$Runs", "sizesAt", "(I)J"⟩, ⟨"BorrowedWords$Runs", "lookAt", "(I)V"⟩, ⟨"BorrowedWords", "sourcesLookedAt", "(II)I"⟩],
  [⟨"BorrowedWords$Runs", "sizesWithin", "(II)J"⟩, ⟨"BorrowedWords$Runs", "longestAt", "(II)I"⟩, ⟨"BorrowedWords$Runs", "firstSource", "(III)I"⟩, ⟨"BorrowedWords$Runs", "leastPlace", "(III)I"⟩, ⟨"BorrowedWords", "reach", "(IIII)I"⟩, ⟨"BorrowedWordsModel", "isLike", "(II)Z"⟩, ⟨"BorrowedWordsModel", "runFrom", "(IIIIZ)I"⟩, ⟨"BorrowedWordsModel", "reach", "(IIII)I"⟩, ⟨"BorrowedWords$Explanation", "choose", "(IJ)V"⟩, ⟨"BorrowedWords$Explanation", "weigh", "(I)I"⟩, ⟨"BorrowedWords$Explanation", "explain", "(I)V"⟩, ⟨"BorrowedWords", "piece", "(IIII)I"⟩, ⟨"BorrowedWordsModel", "look", "(II)V"⟩, ⟨"BorrowedWordsModel", "explain", "(II)V"⟩, ⟨"BorrowedWordsModel", "fromOf", "(III)I"⟩, ⟨"BorrowedWordsModel", "isRun", "(IIIII)Z"⟩],
  [⟨"BorrowedWordsModel", "placeOf", "(IIII)I"⟩, ⟨"BorrowedWordsModel", "piece", "(IIII)I"⟩, ⟨"BorrowedWords", "takenCount", "()I"⟩, ⟨"BorrowedWords$Marks", "rightPlaces", "(I)J"⟩, ⟨"BorrowedWords", "borrowedCount", "(I)I"⟩, ⟨"BorrowedWords", "shareOf", "(II)I"⟩, ⟨"BorrowedWords", "verdictOn", "(I)I"⟩, ⟨"BorrowedWords", "judged", "(III)I"⟩, ⟨"BorrowedWordsModel", "isCited", "(II)Z"⟩, ⟨"BorrowedWordsModel", "borrowed", "(I)I"⟩, ⟨"BorrowedWordsModel", "share", "(I)I"⟩, ⟨"BorrowedWordsModel", "verdict", "(I)I"⟩, ⟨"BorrowedWordsModel", "judged", "(III)I"⟩, ⟨"BorrowedWords$Runs", "withRuns", "(I)I"⟩, ⟨"java/lang/Integer", "bitCount", "(I)I"⟩, ⟨"BorrowedWords$Explanation", "smallestSet", "(I)I"⟩],
  [⟨"BorrowedWords", "fewest", "(II)I"⟩, ⟨"BorrowedWordsModel", "bits", "(I)I"⟩, ⟨"BorrowedWordsModel", "fewest", "(II)I"⟩, ⟨"BorrowedWords", "hangs", "(II)I"⟩, ⟨"BorrowedWordsModel", "hangs", "(II)I"⟩, ⟨"BorrowedWords$Ways", "learnText", "(I)V"⟩, ⟨"BorrowedWords$Ways", "learn", "()V"⟩, ⟨"BorrowedWords$Ways", "walk", "(II)V"⟩, ⟨"BorrowedWords", "first", "(III)I"⟩, ⟨"BorrowedWordsModel", "find", "()V"⟩, ⟨"BorrowedWordsModel", "first", "(III)I"⟩, ⟨"BorrowedWords$Ways", "countThrough", "(II)I"⟩, ⟨"BorrowedWords", "passed", "(II)I"⟩, ⟨"BorrowedWordsModel", "passed", "(II)I"⟩, ⟨"BorrowedWords$Ways", "countEndingIn", "(I)I"⟩, ⟨"BorrowedWords", "sprung", "(I)I"⟩],
  [⟨"BorrowedWordsModel", "firstOf", "(I)I"⟩, ⟨"BorrowedWordsModel", "sprung", "(I)I"⟩, ⟨"BorrowedWords", "isRowSize", "(I)Z"⟩, ⟨"BorrowedWords$RowTable", "insert", "(IJ)V"⟩, ⟨"BorrowedWords$RowTable", "fill", "(II)V"⟩, ⟨"BorrowedWords", "rows", "(II)I"⟩, ⟨"BorrowedWordsModel", "isSameRow", "(IIIII)Z"⟩, ⟨"BorrowedWordsModel", "hasRow", "(IIIII)Z"⟩, ⟨"BorrowedWordsModel", "rowsOf", "(II)I"⟩, ⟨"BorrowedWordsModel", "rows", "(II)I"⟩, ⟨"BorrowedWords$RowTable", "countInBoth", "(II)I"⟩, ⟨"BorrowedWords$RowTable", "commonDivisor", "(II)I"⟩, ⟨"BorrowedWords$RowTable", "compare", "(II)V"⟩, ⟨"BorrowedWords", "likeness", "(IIII)I"⟩, ⟨"BorrowedWordsModel", "common2", "(III)I"⟩, ⟨"BorrowedWordsModel", "liken", "(III)V"⟩],
  [⟨"BorrowedWordsModel", "gcd", "(II)I"⟩, ⟨"BorrowedWordsModel", "likeness", "(IIII)I"⟩, ⟨"BorrowedWords$RowTable", "fillAll", "(I)V"⟩, ⟨"BorrowedWords$RowTable", "likestTo", "(II)I"⟩, ⟨"BorrowedWords", "nearest", "(II)I"⟩, ⟨"BorrowedWordsModel", "nearest", "(II)I"⟩, ⟨"BorrowedWords$RowTable", "joinFamilies", "(II)V"⟩, ⟨"BorrowedWords$RowTable", "familyOf", "(III)I"⟩, ⟨"BorrowedWords", "family", "(III)I"⟩, ⟨"BorrowedWordsModel", "family", "(III)I"⟩, ⟨"BorrowedWords$Sentences", "split", "(LBorrowedWords$Text;[I)I"⟩, ⟨"BorrowedWords$Sentences", "isSameSentence", "(LBorrowedWords$Text;ILBorrowedWords$Text;I)Z"⟩, ⟨"BorrowedWords$Sentences", "pair", "(LBorrowedWords$Text;LBorrowedWords$Text;)V"⟩, ⟨"BorrowedWords$Sentences", "longestInOrder", "()I"⟩, ⟨"BorrowedWords", "moved", "(III)I"⟩, ⟨"BorrowedWordsModel", "findSentences", "(II)I"⟩],
  [⟨"BorrowedWordsModel", "areSame", "(IIII)Z"⟩, ⟨"BorrowedWordsModel", "moved", "(III)I"⟩, ⟨"BorrowedWordsLaw", "law", "([I)Z"⟩]]
def yOf (id : Nat) : MethodName := (yOfT.getD (id / 16) []).getD (id % 16) ⟨"", "", ""⟩
def byOfT : List (List (ByteArray)) := [[prog_11_method_1_code, prog_10_method_1_code, prog_3_method_1_code, prog_4_method_1_code, prog_7_method_1_code, prog_6_method_1_code, prog_8_method_1_code, prog_2_method_1_code, prog_12_method_1_code, prog_5_method_1_code, prog_9_method_1_code, prog_1_method_1_code, prog_14_method_1_code, prog_1_method_31_code, prog_1_method_40_code, prog_10_method_3_code],
  [prog_1_method_2_code, prog_14_method_3_code, prog_14_method_6_code, prog_10_method_2_code, prog_1_method_32_code, prog_11_method_4_code, prog_11_method_5_code, prog_1_method_3_code, prog_14_method_4_code, prog_14_method_7_code, prog_14_method_8_code, prog_11_method_7_code, prog_11_method_8_code, prog_11_method_6_code, prog_16_method_50_code, prog_1_method_4_code],
  [prog_14_method_9_code, prog_14_method_10_code, prog_11_method_3_code, prog_1_method_5_code, prog_14_method_5_code, prog_14_method_11_code, prog_11_method_9_code, prog_10_method_5_code, prog_11_method_10_code, prog_11_method_11_code, prog_4_method_4_code, prog_4_method_5_code, prog_1_method_6_code, prog_14_method_12_code, prog_14_method_19_code, prog_14_method_20_code],
  [prog_14_method_21_code, prog_14_method_23_code, prog_14_method_13_code, prog_11_method_2_code, prog_1_method_7_code, prog_14_method_14_code, prog_3_method_2_code, prog_1_method_8_code, prog_14_method_15_code, prog_14_method_16_code, prog_1_method_9_code, prog_14_method_17_code, prog_4_method_3_code, prog_1_method_10_code, prog_14_method_18_code, prog_4_method_2_code],
  [prog_1_method_11_code, prog_14_method_22_code, prog_10_method_4_code, prog_3_method_3_code, prog_3_method_4_code, prog_1_method_12_code, prog_14_method_25_code, prog_7_method_2_code, prog_1_method_13_code, prog_14_method_28_code, prog_7_method_10_code, prog_7_method_11_code, prog_18_method_152_code, prog_18_method_54_code, prog_18_method_154_code, prog_21_method_11_code],
  [prog_18_method_155_code, prog_19_method_2_code, prog_18_method_56_code, prog_7_method_13_code, prog_7_method_12_code, prog_7_method_9_code, prog_7_method_8_code, prog_7_method_5_code, prog_7_method_7_code, prog_7_method_6_code, prog_7_method_4_code, prog_7_method_3_code, prog_6_method_2_code, prog_1_method_14_code, prog_14_method_29_code, prog_14_method_31_code],
  [prog_14_method_32_code, prog_14_method_33_code, prog_14_method_30_code, prog_14_method_35_code, prog_14_method_34_code, prog_14_method_36_code, prog_14_method_37_code, prog_14_method_38_code, prog_1_method_15_code, prog_14_method_39_code, prog_6_method_3_code, prog_6_method_4_code, prog_1_method_16_code, prog_14_method_26_code, prog_14_method_27_code, prog_14_method_40_code],
  [prog_1_method_34_code, prog_8_method_2_code, prog_1_method_17_code, prog_14_method_49_code, prog_14_method_42_code, prog_14_method_50_code, prog_8_method_5_code, prog_8_method_4_code, prog_8_method_6_code, prog_8_method_8_code, prog_8_method_9_code, prog_8_method_10_code, prog_8_method_11_code, prog_8_method_7_code, prog_8_method_3_code, prog_1_method_35_code],
  [prog_8_method_12_code, prog_8_method_13_code, prog_8_method_14_code, prog_8_method_15_code, prog_1_method_18_code, prog_14_method_41_code, prog_14_method_43_code, prog_14_method_51_code, prog_2_method_4_code, prog_2_method_3_code, prog_2_method_2_code, prog_1_method_19_code, prog_14_method_44_code, prog_14_method_45_code, prog_14_method_46_code, prog_14_method_47_code],
  [prog_14_method_48_code, prog_14_method_52_code, prog_1_method_36_code, prog_4_method_6_code, prog_1_method_37_code, prog_1_method_38_code, prog_1_method_39_code, prog_1_method_20_code, prog_14_method_24_code, prog_14_method_53_code, prog_14_method_54_code, prog_14_method_55_code, prog_14_method_56_code, prog_8_method_16_code, prog_15_method_49_code, prog_2_method_5_code],
  [prog_1_method_21_code, prog_14_method_57_code, prog_14_method_58_code, prog_1_method_22_code, prog_14_method_59_code, prog_12_method_3_code, prog_12_method_2_code, prog_12_method_4_code, prog_1_method_23_code, prog_14_method_60_code, prog_14_method_62_code, prog_12_method_5_code, prog_1_method_24_code, prog_14_method_63_code, prog_12_method_6_code, prog_1_method_25_code],
  [prog_14_method_61_code, prog_14_method_64_code, prog_1_method_33_code, prog_5_method_4_code, prog_5_method_2_code, prog_1_method_26_code, prog_14_method_65_code, prog_14_method_66_code, prog_14_method_67_code, prog_14_method_69_code, prog_5_method_6_code, prog_5_method_7_code, prog_5_method_5_code, prog_1_method_27_code, prog_14_method_68_code, prog_14_method_70_code],
  [prog_14_method_71_code, prog_14_method_72_code, prog_5_method_3_code, prog_5_method_8_code, prog_1_method_28_code, prog_14_method_73_code, prog_5_method_10_code, prog_5_method_9_code, prog_1_method_29_code, prog_14_method_74_code, prog_9_method_3_code, prog_9_method_4_code, prog_9_method_2_code, prog_9_method_5_code, prog_1_method_30_code, prog_14_method_75_code],
  [prog_14_method_76_code, prog_14_method_77_code, code]]
def byOf (id : Nat) : ByteArray := (byOfT.getD (id / 16) []).getD (id % 16) ⟨#[]⟩
def retOfT : List (List (Option FieldType)) := [[none, none, none, none, none, none, none, none, none, none, none, none, none, some .boolean, none, some .int],
  [some .int, some .boolean, some .int, some .boolean, some .boolean, some .boolean, none, some .int, some .boolean, none, some .int, some .boolean, some .boolean, none, some .int, some .int],
  [some .int, some .int, some .boolean, some .int, some .int, some .int, some .int, some .boolean, some .boolean, some .boolean, some .int, some .int, some .int, some .int, some .boolean, some .boolean],
  [some .int, some .int, some .int, some .boolean, some .int, some .int, some .int, some .int, some .int, some .int, some .int, some .int, some .int, some .int, some .int, some .boolean],
  [some .int, some .int, some .int, some .int, some .int, some .int, some .int, none, some .int, some .int, none, some .int, some .byte, some .int, some .boolean, some .int],
  [none, some .char, some .char, some .boolean, some .int, none, some .int, none, none, none, none, some .int, some .int, some .int, some .int, none],
  [some .long, some .int, some .int, some .int, some .int, some .int, some .int, some .int, some .int, some .int, some .int, some .int, some .int, some .boolean, none, some .int],
  [some .int, some .int, some .int, some .boolean, some .int, some .int, some .int, none, none, none, some .boolean, some .long, some .boolean, some .long, none, some .int],
  [some .long, some .int, some .int, some .int, some .int, some .boolean, some .int, some .int, none, some .int, none, some .int, none, none, some .int, some .boolean],
  [some .int, some .int, some .int, some .long, some .int, some .int, some .int, some .int, some .boolean, some .int, some .int, some .int, some .int, some .int, some .int, some .int],
  [some .int, some .int, some .int, some .int, some .int, none, none, none, some .int, none, some .int, some .int, some .int, some .int, some .int, some .int],
  [some .int, some .int, some .boolean, none, none, some .int, some .boolean, some .boolean, some .int, some .int, some .int, some .int, none, some .int, some .int, none],
  [some .int, some .int, none, some .int, some .int, some .int, none, some .int, some .int, some .int, some .int, some .boolean, none, some .int, some .int, some .int],
  [some .boolean, some .int, some .boolean]]
def retOf (id : Nat) : Option FieldType := (retOfT.getD (id / 16) []).getD (id % 16) none
def ownOfT : List (List (Nat)) := [[0, 1, 2, 3, 4, 5, 6, 7, 8, 9, 10, 11, 12, 11, 11, 1],
  [11, 12, 12, 1, 11, 0, 0, 11, 12, 12, 12, 0, 0, 0, 17, 11],
  [12, 12, 0, 11, 12, 12, 0, 1, 0, 0, 3, 3, 11, 12, 12, 12],
  [12, 12, 12, 0, 11, 12, 2, 11, 12, 12, 11, 12, 3, 11, 12, 3],
  [11, 12, 1, 2, 2, 11, 12, 4, 11, 12, 4, 4, 13, 13, 13, 15],
  [13, 14, 13, 4, 4, 4, 4, 4, 4, 4, 4, 4, 5, 11, 12, 12],
  [12, 12, 12, 12, 12, 12, 12, 12, 11, 12, 5, 5, 11, 12, 12, 12],
  [11, 6, 11, 12, 12, 12, 6, 6, 6, 6, 6, 6, 6, 6, 6, 11],
  [6, 6, 6, 6, 11, 12, 12, 12, 7, 7, 7, 11, 12, 12, 12, 12],
  [12, 12, 11, 3, 11, 11, 11, 11, 12, 12, 12, 12, 12, 6, 16, 7],
  [11, 12, 12, 11, 12, 8, 8, 8, 11, 12, 12, 8, 11, 12, 8, 11],
  [12, 12, 11, 9, 9, 11, 12, 12, 12, 12, 9, 9, 9, 11, 12, 12],
  [12, 12, 9, 9, 11, 12, 9, 9, 11, 12, 10, 10, 10, 10, 11, 12],
  [12, 12, 19]]
def ownOf (id : Nat) : Nat := (ownOfT.getD (id / 16) []).getD (id % 16) 0
def npOfT : List (List (Nat)) := [[0, 0, 0, 1, 0, 0, 3, 1, 3, 1, 0, 0, 0, 1, 0, 2],
  [2, 3, 2, 1, 1, 1, 1, 2, 1, 3, 2, 1, 0, 0, 1, 1],
  [1, 1, 2, 4, 2, 4, 0, 2, 4, 3, 1, 2, 2, 1, 2, 4],
  [1, 2, 2, 1, 2, 2, 2, 2, 1, 2, 2, 2, 4, 4, 4, 1],
  [1, 1, 0, 0, 0, 1, 1, 1, 2, 2, 0, 1, 0, 0, 0, 3],
  [2, 2, 1, 3, 2, 2, 0, 1, 1, 1, 2, 1, 3, 1, 0, 0],
  [6, 0, 2, 0, 3, 1, 2, 1, 0, 0, 1, 2, 2, 2, 1, 2],
  [2, 2, 2, 1, 2, 2, 1, 1, 1, 1, 0, 2, 2, 1, 1, 2],
  [2, 2, 3, 3, 4, 2, 5, 4, 2, 1, 1, 4, 2, 2, 3, 5],
  [4, 4, 0, 1, 1, 2, 1, 3, 2, 1, 1, 1, 3, 1, 1, 1],
  [2, 1, 2, 2, 2, 1, 0, 2, 3, 0, 3, 2, 2, 2, 1, 1],
  [1, 1, 1, 2, 2, 2, 5, 5, 2, 2, 2, 2, 2, 4, 3, 3],
  [2, 4, 1, 2, 2, 2, 2, 3, 3, 3, 2, 4, 2, 0, 3, 2],
  [4, 3, 1]]
def npOf (id : Nat) : Nat := (npOfT.getD (id / 16) []).getD (id % 16) 0
def rmT_T : List (List (Nat × Nat × Nat × Nat)) := [[(1, 32, 1, 60), (2, 52, 21, 660), (1, 32, 3, 603), (1, 32, 4, 120), (1, 32, 2, 127), (1, 32, 11, 80), (1, 32, 16, 996), (1, 32, 5, 302), (1, 32, 22, 1220), (1, 32, 13, 630), (1, 32, 4, 240), (3, 73, 111, 5045), (1, 32, 28, 7965), (1, 32, 0, 0), (1, 32, 0, 0), (1, 32, 0, 0)],
  [(2, 55, 0, 0), (1, 32, 0, 0), (2, 57, 0, 0), (1, 32, 0, 0), (1, 32, 0, 0), (1, 32, 0, 0), (1, 32, 0, 0), (2, 53, 0, 0), (2, 57, 0, 0), (1, 32, 0, 0), (3, 78, 0, 0), (1, 32, 0, 0), (2, 53, 0, 0), (1, 32, 0, 0), (1, 32, 0, 0), (3, 73, 0, 0)],
  [(1, 32, 0, 0), (3, 78, 0, 0), (1, 32, 0, 0), (2, 54, 0, 0), (1, 32, 0, 0), (3, 78, 0, 0), (3, 73, 0, 0), (1, 32, 0, 0), (1, 32, 0, 0), (2, 57, 0, 0), (3, 81, 0, 0), (4, 104, 0, 0), (5, 128, 0, 0), (2, 55, 0, 0), (1, 32, 0, 0), (2, 54, 0, 0)],
  [(3, 80, 0, 0), (4, 101, 0, 0), (5, 125, 0, 0), (1, 32, 0, 0), (2, 53, 0, 0), (3, 78, 0, 0), (1, 32, 0, 0), (2, 57, 0, 0), (1, 32, 0, 0), (2, 57, 0, 0), (2, 52, 0, 0), (2, 57, 0, 0), (1, 32, 0, 0), (2, 56, 0, 0), (3, 78, 0, 0), (1, 32, 0, 0)],
  [(4, 104, 0, 0), (4, 101, 0, 0), (1, 32, 0, 0), (1, 32, 0, 0), (1, 32, 0, 0), (2, 54, 0, 0), (2, 55, 0, 0), (1, 32, 0, 0), (2, 53, 0, 0), (2, 57, 0, 0), (1, 32, 0, 0), (1, 32, 0, 0), (1, 32, 0, 0), (2, 52, 0, 0), (1, 32, 0, 0), (1, 32, 0, 0)],
  [(2, 54, 0, 0), (3, 75, 0, 0), (4, 96, 0, 0), (5, 117, 0, 0), (6, 141, 0, 0), (1, 32, 0, 0), (2, 54, 0, 0), (3, 76, 0, 0), (6, 141, 0, 0), (3, 76, 0, 0), (7, 164, 0, 0), (8, 188, 0, 0), (1, 32, 0, 0), (9, 210, 0, 0), (1, 32, 0, 0), (2, 57, 0, 0)],
  [(1, 32, 0, 0), (2, 59, 0, 0), (1, 32, 0, 0), (3, 78, 0, 0), (2, 57, 0, 0), (1, 32, 0, 0), (4, 98, 0, 0), (5, 122, 0, 0), (1, 32, 0, 0), (1, 32, 0, 0), (1, 32, 0, 0), (2, 56, 0, 0), (3, 82, 0, 0), (1, 32, 0, 0), (2, 56, 0, 0), (3, 80, 0, 0)],
  [(2, 53, 0, 0), (3, 82, 0, 0), (4, 108, 0, 0), (2, 57, 0, 0), (2, 54, 0, 0), (3, 80, 0, 0), (1, 32, 0, 0), (3, 82, 0, 0), (2, 53, 0, 0), (1, 32, 0, 0), (1, 32, 0, 0), (1, 32, 0, 0), (1, 32, 0, 0), (2, 63, 0, 0), (4, 108, 0, 0), (5, 133, 0, 0)],
  [(1, 32, 0, 0), (2, 57, 0, 0), (1, 32, 0, 0), (3, 76, 0, 0), (6, 155, 0, 0), (1, 32, 0, 0), (2, 54, 0, 0), (3, 87, 0, 0), (1, 32, 0, 0), (2, 59, 0, 0), (3, 81, 0, 0), (6, 155, 0, 0), (3, 87, 0, 0), (1, 32, 0, 0), (1, 32, 0, 0), (2, 54, 0, 0)],
  [(3, 82, 0, 0), (4, 112, 0, 0), (2, 53, 0, 0), (4, 104, 0, 0), (5, 129, 0, 0), (1, 32, 0, 0), (6, 150, 0, 0), (7, 174, 0, 0), (4, 101, 0, 0), (5, 125, 0, 0), (6, 149, 0, 0), (7, 170, 0, 0), (8, 191, 0, 0), (1, 32, 0, 0), (1, 32, 0, 0), (3, 81, 0, 0)],
  [(6, 155, 0, 0), (1, 32, 0, 0), (4, 112, 0, 0), (7, 174, 0, 0), (8, 191, 0, 0), (5, 133, 0, 0), (6, 161, 0, 0), (1, 32, 0, 0), (7, 182, 0, 0), (4, 112, 0, 0), (5, 138, 0, 0), (2, 55, 0, 0), (7, 182, 0, 0), (5, 138, 0, 0), (2, 55, 0, 0), (7, 182, 0, 0)],
  [(1, 32, 0, 0), (5, 138, 0, 0), (1, 32, 0, 0), (1, 32, 0, 0), (2, 59, 0, 0), (3, 86, 0, 0), (2, 54, 0, 0), (3, 81, 0, 0), (4, 108, 0, 0), (5, 132, 0, 0), (1, 32, 0, 0), (1, 32, 0, 0), (2, 57, 0, 0), (3, 86, 0, 0), (4, 108, 0, 0), (5, 133, 0, 0)],
  [(1, 32, 0, 0), (6, 156, 0, 0), (3, 86, 0, 0), (4, 108, 0, 0), (5, 134, 0, 0), (6, 156, 0, 0), (1, 32, 0, 0), (4, 108, 0, 0), (5, 133, 0, 0), (6, 156, 0, 0), (2, 53, 0, 0), (2, 57, 0, 0), (3, 83, 0, 0), (1, 32, 0, 0), (4, 111, 0, 0), (1, 32, 0, 0)],
  [(3, 81, 0, 0), (4, 106, 0, 0), (12, 444, 600000, 7302250)]]
def rmT_ (id : Nat) : Nat × Nat × Nat × Nat := (rmT_T.getD (id / 16) []).getD (id % 16) (0, 0, 0, 0)
def mcOf (id : Nat) : Nat := (rmT_ id).2.2.1
def msOf (id : Nat) : Nat := (rmT_ id).2.2.2
def rmOf (id : Nat) : Room := { frames := (rmT_ id).1, cells := mcOf id, slots := msOf id, locals := (rmT_ id).2.1 }
def mkOK (id : Nat) : Prop := Jvm.Cond.code (yOf id) (byOf id) (mxL id) (retOf id) ∈ GW ∧ Jvm.Cond.initialized (yOf id).cls ∈ GW ∧ plainName (yOf id).cls = true ∧ ((yOf id).cls ≠ "java/lang/invoke/MethodHandle" ∧ (yOf id).cls ≠ "java/lang/invoke/VarHandle") ∧ (parseMethodDescriptor (yOf id).desc).map (fun d => d.parameters.length) = some (npOf id) ∧ (yOf id).cls = owN (ownOf id)
def mkL0 : List (Nat) := [0, 1, 2, 3, 4, 5, 6, 7, 8, 9, 10, 11, 12, 13, 14, 15, 16, 17, 18, 19, 20, 21, 22, 23, 24, 25, 26, 27, 28, 29, 30, 31]
set_option maxRecDepth 8000 in
theorem mkL0_ok : ∀ q ∈ mkL0, mkOK q := List.forall_mem_cons.mpr ⟨⟨(gw1 40 rfl rfl), (gw1 3 rfl rfl), by decide +kernel, ⟨by decide +kernel, by decide +kernel⟩, by decide +kernel, rfl⟩,
  List.forall_mem_cons.mpr ⟨⟨(gw1 33 rfl rfl), (gw1 2 rfl rfl), by decide +kernel, ⟨by decide +kernel, by decide +kernel⟩, by decide +kernel, rfl⟩,
  List.forall_mem_cons.mpr ⟨⟨(gw1 92 rfl rfl), (gw1 4 rfl rfl), by decide +kernel, ⟨by decide +kernel, by decide +kernel⟩, by decide +kernel, rfl⟩,
  List.forall_mem_cons.mpr ⟨⟨(gw1 113 rfl rfl), (gw1 5 rfl rfl), by decide +kernel, ⟨by decide +kernel, by decide +kernel⟩, by decide +kernel, rfl⟩,
  List.forall_mem_cons.mpr ⟨⟨(gw1 139 rfl rfl), (gw1 6 rfl rfl), by decide +kernel, ⟨by decide +kernel, by decide +kernel⟩, by decide +kernel, rfl⟩,
  List.forall_mem_cons.mpr ⟨⟨(gw1 171 rfl rfl), (gw1 7 rfl rfl), by decide +kernel, ⟨by decide +kernel, by decide +kernel⟩, by decide +kernel, rfl⟩,
  List.forall_mem_cons.mpr ⟨⟨(gw1 193 rfl rfl), (gw1 8 rfl rfl), by decide +kernel, ⟨by decide +kernel, by decide +kernel⟩, by decide +kernel, rfl⟩,
  List.forall_mem_cons.mpr ⟨⟨(gw2 11 rfl rfl), (gw1 9 rfl rfl), by decide +kernel, ⟨by decide +kernel, by decide +kernel⟩, by decide +kernel, rfl⟩,
  List.forall_mem_cons.mpr ⟨⟨(gw2 49 rfl rfl), (gw1 10 rfl rfl), by decide +kernel, ⟨by decide +kernel, by decide +kernel⟩, by decide +kernel, rfl⟩,
  List.forall_mem_cons.mpr ⟨⟨(gw2 91 rfl rfl), (gw1 11 rfl rfl), by decide +kernel, ⟨by decide +kernel, by decide +kernel⟩, by decide +kernel, rfl⟩,
  List.forall_mem_cons.mpr ⟨⟨(gw2 120 rfl rfl), (gw1 12 rfl rfl), by decide +kernel, ⟨by decide +kernel, by decide +kernel⟩, by decide +kernel, rfl⟩,
  List.forall_mem_cons.mpr ⟨⟨(gw1 25 rfl rfl), (gw1 1 rfl rfl), by decide +kernel, ⟨by decide +kernel, by decide +kernel⟩, by decide +kernel, rfl⟩,
  List.forall_mem_cons.mpr ⟨⟨(gw5 13 rfl rfl), (gw1 13 rfl rfl), by decide +kernel, ⟨by decide +kernel, by decide +kernel⟩, by decide +kernel, rfl⟩,
  List.forall_mem_cons.mpr ⟨⟨(gw2 180 rfl rfl), (gw1 1 rfl rfl), by decide +kernel, ⟨by decide +kernel, by decide +kernel⟩, by decide +kernel, rfl⟩,
  List.forall_mem_cons.mpr ⟨⟨(gw2 184 rfl rfl), (gw1 1 rfl rfl), by decide +kernel, ⟨by decide +kernel, by decide +kernel⟩, by decide +kernel, rfl⟩,
  List.forall_mem_cons.mpr ⟨⟨(gw2 188 rfl rfl), (gw1 2 rfl rfl), by decide +kernel, ⟨by decide +kernel, by decide +kernel⟩, by decide +kernel, rfl⟩,
  List.forall_mem_cons.mpr ⟨⟨(gw2 177 rfl rfl), (gw1 1 rfl rfl), by decide +kernel, ⟨by decide +kernel, by decide +kernel⟩, by decide +kernel, rfl⟩,
  List.forall_mem_cons.mpr ⟨⟨(gw5 149 rfl rfl), (gw1 13 rfl rfl), by decide +kernel, ⟨by decide +kernel, by decide +kernel⟩, by decide +kernel, rfl⟩,
  List.forall_mem_cons.mpr ⟨⟨(gw5 145 rfl rfl), (gw1 13 rfl rfl), by decide +kernel, ⟨by decide +kernel, by decide +kernel⟩, by decide +kernel, rfl⟩,
  List.forall_mem_cons.mpr ⟨⟨(gw2 196 rfl rfl), (gw1 2 rfl rfl), by decide +kernel, ⟨by decide +kernel, by decide +kernel⟩, by decide +kernel, rfl⟩,
  List.forall_mem_cons.mpr ⟨⟨(gw2 199 rfl rfl), (gw1 1 rfl rfl), by decide +kernel, ⟨by decide +kernel, by decide +kernel⟩, by decide +kernel, rfl⟩,
  List.forall_mem_cons.mpr ⟨⟨(gw2 203 rfl rfl), (gw1 3 rfl rfl), by decide +kernel, ⟨by decide +kernel, by decide +kernel⟩, by decide +kernel, rfl⟩,
  List.forall_mem_cons.mpr ⟨⟨(gw2 207 rfl rfl), (gw1 3 rfl rfl), by decide +kernel, ⟨by decide +kernel, by decide +kernel⟩, by decide +kernel, rfl⟩,
  List.forall_mem_cons.mpr ⟨⟨(gw2 192 rfl rfl), (gw1 1 rfl rfl), by decide +kernel, ⟨by decide +kernel, by decide +kernel⟩, by decide +kernel, rfl⟩,
  List.forall_mem_cons.mpr ⟨⟨(gw5 158 rfl rfl), (gw1 13 rfl rfl), by decide +kernel, ⟨by decide +kernel, by decide +kernel⟩, by decide +kernel, rfl⟩,
  List.forall_mem_cons.mpr ⟨⟨(gw5 163 rfl rfl), (gw1 13 rfl rfl), by decide +kernel, ⟨by decide +kernel, by decide +kernel⟩, by decide +kernel, rfl⟩,
  List.forall_mem_cons.mpr ⟨⟨(gw5 154 rfl rfl), (gw1 13 rfl rfl), by decide +kernel, ⟨by decide +kernel, by decide +kernel⟩, by decide +kernel, rfl⟩,
  List.forall_mem_cons.mpr ⟨⟨(gw2 219 rfl rfl), (gw1 3 rfl rfl), by decide +kernel, ⟨by decide +kernel, by decide +kernel⟩, by decide +kernel, rfl⟩,
  List.forall_mem_cons.mpr ⟨⟨(gw2 215 rfl rfl), (gw1 3 rfl rfl), by decide +kernel, ⟨by decide +kernel, by decide +kernel⟩, by decide +kernel, rfl⟩,
  List.forall_mem_cons.mpr ⟨⟨(gw2 223 rfl rfl), (gw1 3 rfl rfl), by decide +kernel, ⟨by decide +kernel, by decide +kernel⟩, by decide +kernel, rfl⟩,
  List.forall_mem_cons.mpr ⟨⟨(gw2 226 rfl rfl), (gw1 14 rfl rfl), by decide +kernel, ⟨by decide +kernel, by decide +kernel⟩, by decide +kernel, rfl⟩,
  List.forall_mem_cons.mpr ⟨⟨(gw2 211 rfl rfl), (gw1 1 rfl rfl), by decide +kernel, ⟨by decide +kernel, by decide +kernel⟩, by decide +kernel, rfl⟩,
  fun _ h => absurd h List.not_mem_nil⟩⟩⟩⟩⟩⟩⟩⟩⟩⟩⟩⟩⟩⟩⟩⟩⟩⟩⟩⟩⟩⟩⟩⟩⟩⟩⟩⟩⟩⟩⟩⟩
def mkL1 : List (Nat) := [32, 33, 34, 35, 36, 37, 38, 39, 40, 41, 42, 43, 44, 45, 46, 47, 48, 49, 50, 51, 52, 53, 54, 55, 56, 57, 58, 59, 60, 61, 62, 63]
set_option maxRecDepth 8000 in
theorem mkL1_ok : ∀ q ∈ mkL1, mkOK q := List.forall_mem_cons.mpr ⟨⟨(gw5 171 rfl rfl), (gw1 13 rfl rfl), by decide +kernel, ⟨by decide +kernel, by decide +kernel⟩, by decide +kernel, rfl⟩,
  List.forall_mem_cons.mpr ⟨⟨(gw5 167 rfl rfl), (gw1 13 rfl rfl), by decide +kernel, ⟨by decide +kernel, by decide +kernel⟩, by decide +kernel, rfl⟩,
  List.forall_mem_cons.mpr ⟨⟨(gw2 237 rfl rfl), (gw1 3 rfl rfl), by decide +kernel, ⟨by decide +kernel, by decide +kernel⟩, by decide +kernel, rfl⟩,
  List.forall_mem_cons.mpr ⟨⟨(gw2 233 rfl rfl), (gw1 1 rfl rfl), by decide +kernel, ⟨by decide +kernel, by decide +kernel⟩, by decide +kernel, rfl⟩,
  List.forall_mem_cons.mpr ⟨⟨(gw5 179 rfl rfl), (gw1 13 rfl rfl), by decide +kernel, ⟨by decide +kernel, by decide +kernel⟩, by decide +kernel, rfl⟩,
  List.forall_mem_cons.mpr ⟨⟨(gw5 175 rfl rfl), (gw1 13 rfl rfl), by decide +kernel, ⟨by decide +kernel, by decide +kernel⟩, by decide +kernel, rfl⟩,
  List.forall_mem_cons.mpr ⟨⟨(gw3 6 rfl rfl), (gw1 3 rfl rfl), by decide +kernel, ⟨by decide +kernel, by decide +kernel⟩, by decide +kernel, rfl⟩,
  List.forall_mem_cons.mpr ⟨⟨(gw3 20 rfl rfl), (gw1 2 rfl rfl), by decide +kernel, ⟨by decide +kernel, by decide +kernel⟩, by decide +kernel, rfl⟩,
  List.forall_mem_cons.mpr ⟨⟨(gw3 28 rfl rfl), (gw1 3 rfl rfl), by decide +kernel, ⟨by decide +kernel, by decide +kernel⟩, by decide +kernel, rfl⟩,
  List.forall_mem_cons.mpr ⟨⟨(gw3 24 rfl rfl), (gw1 3 rfl rfl), by decide +kernel, ⟨by decide +kernel, by decide +kernel⟩, by decide +kernel, rfl⟩,
  List.forall_mem_cons.mpr ⟨⟨(gw3 16 rfl rfl), (gw1 5 rfl rfl), by decide +kernel, ⟨by decide +kernel, by decide +kernel⟩, by decide +kernel, rfl⟩,
  List.forall_mem_cons.mpr ⟨⟨(gw3 12 rfl rfl), (gw1 5 rfl rfl), by decide +kernel, ⟨by decide +kernel, by decide +kernel⟩, by decide +kernel, rfl⟩,
  List.forall_mem_cons.mpr ⟨⟨(gw3 2 rfl rfl), (gw1 1 rfl rfl), by decide +kernel, ⟨by decide +kernel, by decide +kernel⟩, by decide +kernel, rfl⟩,
  List.forall_mem_cons.mpr ⟨⟨(gw5 187 rfl rfl), (gw1 13 rfl rfl), by decide +kernel, ⟨by decide +kernel, by decide +kernel⟩, by decide +kernel, rfl⟩,
  List.forall_mem_cons.mpr ⟨⟨(gw5 199 rfl rfl), (gw1 13 rfl rfl), by decide +kernel, ⟨by decide +kernel, by decide +kernel⟩, by decide +kernel, rfl⟩,
  List.forall_mem_cons.mpr ⟨⟨(gw5 203 rfl rfl), (gw1 13 rfl rfl), by decide +kernel, ⟨by decide +kernel, by decide +kernel⟩, by decide +kernel, rfl⟩,
  List.forall_mem_cons.mpr ⟨⟨(gw5 195 rfl rfl), (gw1 13 rfl rfl), by decide +kernel, ⟨by decide +kernel, by decide +kernel⟩, by decide +kernel, rfl⟩,
  List.forall_mem_cons.mpr ⟨⟨(gw5 191 rfl rfl), (gw1 13 rfl rfl), by decide +kernel, ⟨by decide +kernel, by decide +kernel⟩, by decide +kernel, rfl⟩,
  List.forall_mem_cons.mpr ⟨⟨(gw5 183 rfl rfl), (gw1 13 rfl rfl), by decide +kernel, ⟨by decide +kernel, by decide +kernel⟩, by decide +kernel, rfl⟩,
  List.forall_mem_cons.mpr ⟨⟨(gw3 36 rfl rfl), (gw1 3 rfl rfl), by decide +kernel, ⟨by decide +kernel, by decide +kernel⟩, by decide +kernel, rfl⟩,
  List.forall_mem_cons.mpr ⟨⟨(gw3 32 rfl rfl), (gw1 1 rfl rfl), by decide +kernel, ⟨by decide +kernel, by decide +kernel⟩, by decide +kernel, rfl⟩,
  List.forall_mem_cons.mpr ⟨⟨(gw5 207 rfl rfl), (gw1 13 rfl rfl), by decide +kernel, ⟨by decide +kernel, by decide +kernel⟩, by decide +kernel, rfl⟩,
  List.forall_mem_cons.mpr ⟨⟨(gw3 44 rfl rfl), (gw1 4 rfl rfl), by decide +kernel, ⟨by decide +kernel, by decide +kernel⟩, by decide +kernel, rfl⟩,
  List.forall_mem_cons.mpr ⟨⟨(gw3 40 rfl rfl), (gw1 1 rfl rfl), by decide +kernel, ⟨by decide +kernel, by decide +kernel⟩, by decide +kernel, rfl⟩,
  List.forall_mem_cons.mpr ⟨⟨(gw5 215 rfl rfl), (gw1 13 rfl rfl), by decide +kernel, ⟨by decide +kernel, by decide +kernel⟩, by decide +kernel, rfl⟩,
  List.forall_mem_cons.mpr ⟨⟨(gw5 211 rfl rfl), (gw1 13 rfl rfl), by decide +kernel, ⟨by decide +kernel, by decide +kernel⟩, by decide +kernel, rfl⟩,
  List.forall_mem_cons.mpr ⟨⟨(gw3 48 rfl rfl), (gw1 1 rfl rfl), by decide +kernel, ⟨by decide +kernel, by decide +kernel⟩, by decide +kernel, rfl⟩,
  List.forall_mem_cons.mpr ⟨⟨(gw5 219 rfl rfl), (gw1 13 rfl rfl), by decide +kernel, ⟨by decide +kernel, by decide +kernel⟩, by decide +kernel, rfl⟩,
  List.forall_mem_cons.mpr ⟨⟨(gw3 56 rfl rfl), (gw1 5 rfl rfl), by decide +kernel, ⟨by decide +kernel, by decide +kernel⟩, by decide +kernel, rfl⟩,
  List.forall_mem_cons.mpr ⟨⟨(gw3 52 rfl rfl), (gw1 1 rfl rfl), by decide +kernel, ⟨by decide +kernel, by decide +kernel⟩, by decide +kernel, rfl⟩,
  List.forall_mem_cons.mpr ⟨⟨(gw5 223 rfl rfl), (gw1 13 rfl rfl), by decide +kernel, ⟨by decide +kernel, by decide +kernel⟩, by decide +kernel, rfl⟩,
  List.forall_mem_cons.mpr ⟨⟨(gw3 64 rfl rfl), (gw1 5 rfl rfl), by decide +kernel, ⟨by decide +kernel, by decide +kernel⟩, by decide +kernel, rfl⟩,
  fun _ h => absurd h List.not_mem_nil⟩⟩⟩⟩⟩⟩⟩⟩⟩⟩⟩⟩⟩⟩⟩⟩⟩⟩⟩⟩⟩⟩⟩⟩⟩⟩⟩⟩⟩⟩⟩⟩
def mkL2 : List (Nat) := [64, 65, 66, 67, 68, 69, 70, 71, 72, 73, 74, 75, 76, 77, 78, 79, 80, 81, 82, 83, 84, 85, 86, 87, 88, 89, 90, 91, 92, 93, 94, 95]
set_option maxRecDepth 8000 in
theorem mkL2_ok : ∀ q ∈ mkL2, mkOK q := List.forall_mem_cons.mpr ⟨⟨(gw3 60 rfl rfl), (gw1 1 rfl rfl), by decide +kernel, ⟨by decide +kernel, by decide +kernel⟩, by decide +kernel, rfl⟩,
  List.forall_mem_cons.mpr ⟨⟨(gw5 227 rfl rfl), (gw1 13 rfl rfl), by decide +kernel, ⟨by decide +kernel, by decide +kernel⟩, by decide +kernel, rfl⟩,
  List.forall_mem_cons.mpr ⟨⟨(gw3 73 rfl rfl), (gw1 2 rfl rfl), by decide +kernel, ⟨by decide +kernel, by decide +kernel⟩, by decide +kernel, rfl⟩,
  List.forall_mem_cons.mpr ⟨⟨(gw3 77 rfl rfl), (gw1 4 rfl rfl), by decide +kernel, ⟨by decide +kernel, by decide +kernel⟩, by decide +kernel, rfl⟩,
  List.forall_mem_cons.mpr ⟨⟨(gw3 81 rfl rfl), (gw1 4 rfl rfl), by decide +kernel, ⟨by decide +kernel, by decide +kernel⟩, by decide +kernel, rfl⟩,
  List.forall_mem_cons.mpr ⟨⟨(gw3 69 rfl rfl), (gw1 1 rfl rfl), by decide +kernel, ⟨by decide +kernel, by decide +kernel⟩, by decide +kernel, rfl⟩,
  List.forall_mem_cons.mpr ⟨⟨(gw5 231 rfl rfl), (gw1 13 rfl rfl), by decide +kernel, ⟨by decide +kernel, by decide +kernel⟩, by decide +kernel, rfl⟩,
  List.forall_mem_cons.mpr ⟨⟨(gw3 90 rfl rfl), (gw1 6 rfl rfl), by decide +kernel, ⟨by decide +kernel, by decide +kernel⟩, by decide +kernel, rfl⟩,
  List.forall_mem_cons.mpr ⟨⟨(gw3 85 rfl rfl), (gw1 1 rfl rfl), by decide +kernel, ⟨by decide +kernel, by decide +kernel⟩, by decide +kernel, rfl⟩,
  List.forall_mem_cons.mpr ⟨⟨(gw5 235 rfl rfl), (gw1 13 rfl rfl), by decide +kernel, ⟨by decide +kernel, by decide +kernel⟩, by decide +kernel, rfl⟩,
  List.forall_mem_cons.mpr ⟨⟨(gw3 102 rfl rfl), (gw1 6 rfl rfl), by decide +kernel, ⟨by decide +kernel, by decide +kernel⟩, by decide +kernel, rfl⟩,
  List.forall_mem_cons.mpr ⟨⟨(gw3 110 rfl rfl), (gw1 6 rfl rfl), by decide +kernel, ⟨by decide +kernel, by decide +kernel⟩, by decide +kernel, rfl⟩,
  List.forall_mem_cons.mpr ⟨⟨(gw3 127 rfl rfl), (gw1 15 rfl rfl), by decide +kernel, ⟨by decide +kernel, by decide +kernel⟩, by decide +kernel, rfl⟩,
  List.forall_mem_cons.mpr ⟨⟨(gw3 123 rfl rfl), (gw1 15 rfl rfl), by decide +kernel, ⟨by decide +kernel, by decide +kernel⟩, by decide +kernel, rfl⟩,
  List.forall_mem_cons.mpr ⟨⟨(gw3 137 rfl rfl), (gw1 15 rfl rfl), by decide +kernel, ⟨by decide +kernel, by decide +kernel⟩, by decide +kernel, rfl⟩,
  List.forall_mem_cons.mpr ⟨⟨(gw3 148 rfl rfl), (gw1 17 rfl rfl), by decide +kernel, ⟨by decide +kernel, by decide +kernel⟩, by decide +kernel, rfl⟩,
  List.forall_mem_cons.mpr ⟨⟨(gw3 143 rfl rfl), (gw1 15 rfl rfl), by decide +kernel, ⟨by decide +kernel, by decide +kernel⟩, by decide +kernel, rfl⟩,
  List.forall_mem_cons.mpr ⟨⟨(gw3 140 rfl rfl), (gw1 16 rfl rfl), by decide +kernel, ⟨by decide +kernel, by decide +kernel⟩, by decide +kernel, rfl⟩,
  List.forall_mem_cons.mpr ⟨⟨(gw3 133 rfl rfl), (gw1 15 rfl rfl), by decide +kernel, ⟨by decide +kernel, by decide +kernel⟩, by decide +kernel, rfl⟩,
  List.forall_mem_cons.mpr ⟨⟨(gw3 119 rfl rfl), (gw1 6 rfl rfl), by decide +kernel, ⟨by decide +kernel, by decide +kernel⟩, by decide +kernel, rfl⟩,
  List.forall_mem_cons.mpr ⟨⟨(gw3 114 rfl rfl), (gw1 6 rfl rfl), by decide +kernel, ⟨by decide +kernel, by decide +kernel⟩, by decide +kernel, rfl⟩,
  List.forall_mem_cons.mpr ⟨⟨(gw3 178 rfl rfl), (gw1 6 rfl rfl), by decide +kernel, ⟨by decide +kernel, by decide +kernel⟩, by decide +kernel, rfl⟩,
  List.forall_mem_cons.mpr ⟨⟨(gw3 186 rfl rfl), (gw1 6 rfl rfl), by decide +kernel, ⟨by decide +kernel, by decide +kernel⟩, by decide +kernel, rfl⟩,
  List.forall_mem_cons.mpr ⟨⟨(gw3 182 rfl rfl), (gw1 6 rfl rfl), by decide +kernel, ⟨by decide +kernel, by decide +kernel⟩, by decide +kernel, rfl⟩,
  List.forall_mem_cons.mpr ⟨⟨(gw3 190 rfl rfl), (gw1 6 rfl rfl), by decide +kernel, ⟨by decide +kernel, by decide +kernel⟩, by decide +kernel, rfl⟩,
  List.forall_mem_cons.mpr ⟨⟨(gw3 196 rfl rfl), (gw1 6 rfl rfl), by decide +kernel, ⟨by decide +kernel, by decide +kernel⟩, by decide +kernel, rfl⟩,
  List.forall_mem_cons.mpr ⟨⟨(gw3 106 rfl rfl), (gw1 6 rfl rfl), by decide +kernel, ⟨by decide +kernel, by decide +kernel⟩, by decide +kernel, rfl⟩,
  List.forall_mem_cons.mpr ⟨⟨(gw3 98 rfl rfl), (gw1 6 rfl rfl), by decide +kernel, ⟨by decide +kernel, by decide +kernel⟩, by decide +kernel, rfl⟩,
  List.forall_mem_cons.mpr ⟨⟨(gw3 204 rfl rfl), (gw1 7 rfl rfl), by decide +kernel, ⟨by decide +kernel, by decide +kernel⟩, by decide +kernel, rfl⟩,
  List.forall_mem_cons.mpr ⟨⟨(gw3 94 rfl rfl), (gw1 1 rfl rfl), by decide +kernel, ⟨by decide +kernel, by decide +kernel⟩, by decide +kernel, rfl⟩,
  List.forall_mem_cons.mpr ⟨⟨(gw6 5 rfl rfl), (gw1 13 rfl rfl), by decide +kernel, ⟨by decide +kernel, by decide +kernel⟩, by decide +kernel, rfl⟩,
  List.forall_mem_cons.mpr ⟨⟨(gw6 13 rfl rfl), (gw1 13 rfl rfl), by decide +kernel, ⟨by decide +kernel, by decide +kernel⟩, by decide +kernel, rfl⟩,
  fun _ h => absurd h List.not_mem_nil⟩⟩⟩⟩⟩⟩⟩⟩⟩⟩⟩⟩⟩⟩⟩⟩⟩⟩⟩⟩⟩⟩⟩⟩⟩⟩⟩⟩⟩⟩⟩⟩
def mkL3 : List (Nat) := [96, 97, 98, 99, 100, 101, 102, 103, 104, 105, 106, 107, 108, 109, 110, 111, 112, 113, 114, 115, 116, 117, 118, 119, 120, 121, 122, 123, 124, 125, 126, 127]
set_option maxRecDepth 8000 in
theorem mkL3_ok : ∀ q ∈ mkL3, mkOK q := List.forall_mem_cons.mpr ⟨⟨(gw6 26 rfl rfl), (gw1 13 rfl rfl), by decide +kernel, ⟨by decide +kernel, by decide +kernel⟩, by decide +kernel, rfl⟩,
  List.forall_mem_cons.mpr ⟨⟨(gw6 23 rfl rfl), (gw1 13 rfl rfl), by decide +kernel, ⟨by decide +kernel, by decide +kernel⟩, by decide +kernel, rfl⟩,
  List.forall_mem_cons.mpr ⟨⟨(gw6 30 rfl rfl), (gw1 13 rfl rfl), by decide +kernel, ⟨by decide +kernel, by decide +kernel⟩, by decide +kernel, rfl⟩,
  List.forall_mem_cons.mpr ⟨⟨(gw6 34 rfl rfl), (gw1 13 rfl rfl), by decide +kernel, ⟨by decide +kernel, by decide +kernel⟩, by decide +kernel, rfl⟩,
  List.forall_mem_cons.mpr ⟨⟨(gw6 38 rfl rfl), (gw1 13 rfl rfl), by decide +kernel, ⟨by decide +kernel, by decide +kernel⟩, by decide +kernel, rfl⟩,
  List.forall_mem_cons.mpr ⟨⟨(gw6 43 rfl rfl), (gw1 13 rfl rfl), by decide +kernel, ⟨by decide +kernel, by decide +kernel⟩, by decide +kernel, rfl⟩,
  List.forall_mem_cons.mpr ⟨⟨(gw6 9 rfl rfl), (gw1 13 rfl rfl), by decide +kernel, ⟨by decide +kernel, by decide +kernel⟩, by decide +kernel, rfl⟩,
  List.forall_mem_cons.mpr ⟨⟨(gw6 1 rfl rfl), (gw1 13 rfl rfl), by decide +kernel, ⟨by decide +kernel, by decide +kernel⟩, by decide +kernel, rfl⟩,
  List.forall_mem_cons.mpr ⟨⟨(gw3 209 rfl rfl), (gw1 1 rfl rfl), by decide +kernel, ⟨by decide +kernel, by decide +kernel⟩, by decide +kernel, rfl⟩,
  List.forall_mem_cons.mpr ⟨⟨(gw6 47 rfl rfl), (gw1 13 rfl rfl), by decide +kernel, ⟨by decide +kernel, by decide +kernel⟩, by decide +kernel, rfl⟩,
  List.forall_mem_cons.mpr ⟨⟨(gw3 221 rfl rfl), (gw1 7 rfl rfl), by decide +kernel, ⟨by decide +kernel, by decide +kernel⟩, by decide +kernel, rfl⟩,
  List.forall_mem_cons.mpr ⟨⟨(gw3 217 rfl rfl), (gw1 7 rfl rfl), by decide +kernel, ⟨by decide +kernel, by decide +kernel⟩, by decide +kernel, rfl⟩,
  List.forall_mem_cons.mpr ⟨⟨(gw3 213 rfl rfl), (gw1 1 rfl rfl), by decide +kernel, ⟨by decide +kernel, by decide +kernel⟩, by decide +kernel, rfl⟩,
  List.forall_mem_cons.mpr ⟨⟨(gw6 60 rfl rfl), (gw1 13 rfl rfl), by decide +kernel, ⟨by decide +kernel, by decide +kernel⟩, by decide +kernel, rfl⟩,
  List.forall_mem_cons.mpr ⟨⟨(gw6 56 rfl rfl), (gw1 13 rfl rfl), by decide +kernel, ⟨by decide +kernel, by decide +kernel⟩, by decide +kernel, rfl⟩,
  List.forall_mem_cons.mpr ⟨⟨(gw6 51 rfl rfl), (gw1 13 rfl rfl), by decide +kernel, ⟨by decide +kernel, by decide +kernel⟩, by decide +kernel, rfl⟩,
  List.forall_mem_cons.mpr ⟨⟨(gw3 231 rfl rfl), (gw1 1 rfl rfl), by decide +kernel, ⟨by decide +kernel, by decide +kernel⟩, by decide +kernel, rfl⟩,
  List.forall_mem_cons.mpr ⟨⟨(gw3 235 rfl rfl), (gw1 8 rfl rfl), by decide +kernel, ⟨by decide +kernel, by decide +kernel⟩, by decide +kernel, rfl⟩,
  List.forall_mem_cons.mpr ⟨⟨(gw3 227 rfl rfl), (gw1 1 rfl rfl), by decide +kernel, ⟨by decide +kernel, by decide +kernel⟩, by decide +kernel, rfl⟩,
  List.forall_mem_cons.mpr ⟨⟨(gw6 68 rfl rfl), (gw1 13 rfl rfl), by decide +kernel, ⟨by decide +kernel, by decide +kernel⟩, by decide +kernel, rfl⟩,
  List.forall_mem_cons.mpr ⟨⟨(gw6 72 rfl rfl), (gw1 13 rfl rfl), by decide +kernel, ⟨by decide +kernel, by decide +kernel⟩, by decide +kernel, rfl⟩,
  List.forall_mem_cons.mpr ⟨⟨(gw6 64 rfl rfl), (gw1 13 rfl rfl), by decide +kernel, ⟨by decide +kernel, by decide +kernel⟩, by decide +kernel, rfl⟩,
  List.forall_mem_cons.mpr ⟨⟨(gw4 17 rfl rfl), (gw1 8 rfl rfl), by decide +kernel, ⟨by decide +kernel, by decide +kernel⟩, by decide +kernel, rfl⟩,
  List.forall_mem_cons.mpr ⟨⟨(gw4 13 rfl rfl), (gw1 8 rfl rfl), by decide +kernel, ⟨by decide +kernel, by decide +kernel⟩, by decide +kernel, rfl⟩,
  List.forall_mem_cons.mpr ⟨⟨(gw4 22 rfl rfl), (gw1 8 rfl rfl), by decide +kernel, ⟨by decide +kernel, by decide +kernel⟩, by decide +kernel, rfl⟩,
  List.forall_mem_cons.mpr ⟨⟨(gw4 30 rfl rfl), (gw1 8 rfl rfl), by decide +kernel, ⟨by decide +kernel, by decide +kernel⟩, by decide +kernel, rfl⟩,
  List.forall_mem_cons.mpr ⟨⟨(gw4 34 rfl rfl), (gw1 8 rfl rfl), by decide +kernel, ⟨by decide +kernel, by decide +kernel⟩, by decide +kernel, rfl⟩,
  List.forall_mem_cons.mpr ⟨⟨(gw4 38 rfl rfl), (gw1 8 rfl rfl), by decide +kernel, ⟨by decide +kernel, by decide +kernel⟩, by decide +kernel, rfl⟩,
  List.forall_mem_cons.mpr ⟨⟨(gw4 43 rfl rfl), (gw1 8 rfl rfl), by decide +kernel, ⟨by decide +kernel, by decide +kernel⟩, by decide +kernel, rfl⟩,
  List.forall_mem_cons.mpr ⟨⟨(gw4 26 rfl rfl), (gw1 8 rfl rfl), by decide +kernel, ⟨by decide +kernel, by decide +kernel⟩, by decide +kernel, rfl⟩,
  List.forall_mem_cons.mpr ⟨⟨(gw4 9 rfl rfl), (gw1 8 rfl rfl), by decide +kernel, ⟨by decide +kernel, by decide +kernel⟩, by decide +kernel, rfl⟩,
  List.forall_mem_cons.mpr ⟨⟨(gw4 5 rfl rfl), (gw1 1 rfl rfl), by decide +kernel, ⟨by decide +kernel, by decide +kernel⟩, by decide +kernel, rfl⟩,
  fun _ h => absurd h List.not_mem_nil⟩⟩⟩⟩⟩⟩⟩⟩⟩⟩⟩⟩⟩⟩⟩⟩⟩⟩⟩⟩⟩⟩⟩⟩⟩⟩⟩⟩⟩⟩⟩⟩
def mkL4 : List (Nat) := [128, 129, 130, 131, 132, 133, 134, 135, 136, 137, 138, 139, 140, 141, 142, 143, 144, 145, 146, 147, 148, 149, 150, 151, 152, 153, 154, 155, 156, 157, 158, 159]
set_option maxRecDepth 8000 in
theorem mkL4_ok : ∀ q ∈ mkL4, mkOK q := List.forall_mem_cons.mpr ⟨⟨(gw4 51 rfl rfl), (gw1 8 rfl rfl), by decide +kernel, ⟨by decide +kernel, by decide +kernel⟩, by decide +kernel, rfl⟩,
  List.forall_mem_cons.mpr ⟨⟨(gw4 47 rfl rfl), (gw1 8 rfl rfl), by decide +kernel, ⟨by decide +kernel, by decide +kernel⟩, by decide +kernel, rfl⟩,
  List.forall_mem_cons.mpr ⟨⟨(gw4 58 rfl rfl), (gw1 8 rfl rfl), by decide +kernel, ⟨by decide +kernel, by decide +kernel⟩, by decide +kernel, rfl⟩,
  List.forall_mem_cons.mpr ⟨⟨(gw4 62 rfl rfl), (gw1 8 rfl rfl), by decide +kernel, ⟨by decide +kernel, by decide +kernel⟩, by decide +kernel, rfl⟩,
  List.forall_mem_cons.mpr ⟨⟨(gw4 1 rfl rfl), (gw1 1 rfl rfl), by decide +kernel, ⟨by decide +kernel, by decide +kernel⟩, by decide +kernel, rfl⟩,
  List.forall_mem_cons.mpr ⟨⟨(gw6 85 rfl rfl), (gw1 13 rfl rfl), by decide +kernel, ⟨by decide +kernel, by decide +kernel⟩, by decide +kernel, rfl⟩,
  List.forall_mem_cons.mpr ⟨⟨(gw6 81 rfl rfl), (gw1 13 rfl rfl), by decide +kernel, ⟨by decide +kernel, by decide +kernel⟩, by decide +kernel, rfl⟩,
  List.forall_mem_cons.mpr ⟨⟨(gw6 76 rfl rfl), (gw1 13 rfl rfl), by decide +kernel, ⟨by decide +kernel, by decide +kernel⟩, by decide +kernel, rfl⟩,
  List.forall_mem_cons.mpr ⟨⟨(gw4 80 rfl rfl), (gw1 9 rfl rfl), by decide +kernel, ⟨by decide +kernel, by decide +kernel⟩, by decide +kernel, rfl⟩,
  List.forall_mem_cons.mpr ⟨⟨(gw4 75 rfl rfl), (gw1 9 rfl rfl), by decide +kernel, ⟨by decide +kernel, by decide +kernel⟩, by decide +kernel, rfl⟩,
  List.forall_mem_cons.mpr ⟨⟨(gw4 71 rfl rfl), (gw1 9 rfl rfl), by decide +kernel, ⟨by decide +kernel, by decide +kernel⟩, by decide +kernel, rfl⟩,
  List.forall_mem_cons.mpr ⟨⟨(gw4 67 rfl rfl), (gw1 1 rfl rfl), by decide +kernel, ⟨by decide +kernel, by decide +kernel⟩, by decide +kernel, rfl⟩,
  List.forall_mem_cons.mpr ⟨⟨(gw6 94 rfl rfl), (gw1 13 rfl rfl), by decide +kernel, ⟨by decide +kernel, by decide +kernel⟩, by decide +kernel, rfl⟩,
  List.forall_mem_cons.mpr ⟨⟨(gw6 98 rfl rfl), (gw1 13 rfl rfl), by decide +kernel, ⟨by decide +kernel, by decide +kernel⟩, by decide +kernel, rfl⟩,
  List.forall_mem_cons.mpr ⟨⟨(gw6 102 rfl rfl), (gw1 13 rfl rfl), by decide +kernel, ⟨by decide +kernel, by decide +kernel⟩, by decide +kernel, rfl⟩,
  List.forall_mem_cons.mpr ⟨⟨(gw6 110 rfl rfl), (gw1 13 rfl rfl), by decide +kernel, ⟨by decide +kernel, by decide +kernel⟩, by decide +kernel, rfl⟩,
  List.forall_mem_cons.mpr ⟨⟨(gw6 106 rfl rfl), (gw1 13 rfl rfl), by decide +kernel, ⟨by decide +kernel, by decide +kernel⟩, by decide +kernel, rfl⟩,
  List.forall_mem_cons.mpr ⟨⟨(gw6 89 rfl rfl), (gw1 13 rfl rfl), by decide +kernel, ⟨by decide +kernel, by decide +kernel⟩, by decide +kernel, rfl⟩,
  List.forall_mem_cons.mpr ⟨⟨(gw4 88 rfl rfl), (gw1 1 rfl rfl), by decide +kernel, ⟨by decide +kernel, by decide +kernel⟩, by decide +kernel, rfl⟩,
  List.forall_mem_cons.mpr ⟨⟨(gw4 96 rfl rfl), (gw1 5 rfl rfl), by decide +kernel, ⟨by decide +kernel, by decide +kernel⟩, by decide +kernel, rfl⟩,
  List.forall_mem_cons.mpr ⟨⟨(gw4 92 rfl rfl), (gw1 1 rfl rfl), by decide +kernel, ⟨by decide +kernel, by decide +kernel⟩, by decide +kernel, rfl⟩,
  List.forall_mem_cons.mpr ⟨⟨(gw4 101 rfl rfl), (gw1 1 rfl rfl), by decide +kernel, ⟨by decide +kernel, by decide +kernel⟩, by decide +kernel, rfl⟩,
  List.forall_mem_cons.mpr ⟨⟨(gw4 105 rfl rfl), (gw1 1 rfl rfl), by decide +kernel, ⟨by decide +kernel, by decide +kernel⟩, by decide +kernel, rfl⟩,
  List.forall_mem_cons.mpr ⟨⟨(gw4 84 rfl rfl), (gw1 1 rfl rfl), by decide +kernel, ⟨by decide +kernel, by decide +kernel⟩, by decide +kernel, rfl⟩,
  List.forall_mem_cons.mpr ⟨⟨(gw6 122 rfl rfl), (gw1 13 rfl rfl), by decide +kernel, ⟨by decide +kernel, by decide +kernel⟩, by decide +kernel, rfl⟩,
  List.forall_mem_cons.mpr ⟨⟨(gw6 118 rfl rfl), (gw1 13 rfl rfl), by decide +kernel, ⟨by decide +kernel, by decide +kernel⟩, by decide +kernel, rfl⟩,
  List.forall_mem_cons.mpr ⟨⟨(gw6 126 rfl rfl), (gw1 13 rfl rfl), by decide +kernel, ⟨by decide +kernel, by decide +kernel⟩, by decide +kernel, rfl⟩,
  List.forall_mem_cons.mpr ⟨⟨(gw6 130 rfl rfl), (gw1 13 rfl rfl), by decide +kernel, ⟨by decide +kernel, by decide +kernel⟩, by decide +kernel, rfl⟩,
  List.forall_mem_cons.mpr ⟨⟨(gw6 114 rfl rfl), (gw1 13 rfl rfl), by decide +kernel, ⟨by decide +kernel, by decide +kernel⟩, by decide +kernel, rfl⟩,
  List.forall_mem_cons.mpr ⟨⟨(gw4 117 rfl rfl), (gw1 8 rfl rfl), by decide +kernel, ⟨by decide +kernel, by decide +kernel⟩, by decide +kernel, rfl⟩,
  List.forall_mem_cons.mpr ⟨⟨(gw4 120 rfl rfl), (gw1 20 rfl rfl), by decide +kernel, ⟨by decide +kernel, by decide +kernel⟩, by decide +kernel, rfl⟩,
  List.forall_mem_cons.mpr ⟨⟨(gw4 113 rfl rfl), (gw1 9 rfl rfl), by decide +kernel, ⟨by decide +kernel, by decide +kernel⟩, by decide +kernel, rfl⟩,
  fun _ h => absurd h List.not_mem_nil⟩⟩⟩⟩⟩⟩⟩⟩⟩⟩⟩⟩⟩⟩⟩⟩⟩⟩⟩⟩⟩⟩⟩⟩⟩⟩⟩⟩⟩⟩⟩⟩
def mkL5 : List (Nat) := [160, 161, 162, 163, 164, 165, 166, 167, 168, 169, 170, 171, 172, 173, 174, 175, 176, 177, 178, 179, 180, 181, 182, 183, 184, 185, 186, 187, 188, 189, 190, 191]
set_option maxRecDepth 8000 in
theorem mkL5_ok : ∀ q ∈ mkL5, mkOK q := List.forall_mem_cons.mpr ⟨⟨(gw4 109 rfl rfl), (gw1 1 rfl rfl), by decide +kernel, ⟨by decide +kernel, by decide +kernel⟩, by decide +kernel, rfl⟩,
  List.forall_mem_cons.mpr ⟨⟨(gw6 137 rfl rfl), (gw1 13 rfl rfl), by decide +kernel, ⟨by decide +kernel, by decide +kernel⟩, by decide +kernel, rfl⟩,
  List.forall_mem_cons.mpr ⟨⟨(gw6 134 rfl rfl), (gw1 13 rfl rfl), by decide +kernel, ⟨by decide +kernel, by decide +kernel⟩, by decide +kernel, rfl⟩,
  List.forall_mem_cons.mpr ⟨⟨(gw4 127 rfl rfl), (gw1 1 rfl rfl), by decide +kernel, ⟨by decide +kernel, by decide +kernel⟩, by decide +kernel, rfl⟩,
  List.forall_mem_cons.mpr ⟨⟨(gw6 141 rfl rfl), (gw1 13 rfl rfl), by decide +kernel, ⟨by decide +kernel, by decide +kernel⟩, by decide +kernel, rfl⟩,
  List.forall_mem_cons.mpr ⟨⟨(gw4 139 rfl rfl), (gw1 10 rfl rfl), by decide +kernel, ⟨by decide +kernel, by decide +kernel⟩, by decide +kernel, rfl⟩,
  List.forall_mem_cons.mpr ⟨⟨(gw4 135 rfl rfl), (gw1 10 rfl rfl), by decide +kernel, ⟨by decide +kernel, by decide +kernel⟩, by decide +kernel, rfl⟩,
  List.forall_mem_cons.mpr ⟨⟨(gw4 148 rfl rfl), (gw1 10 rfl rfl), by decide +kernel, ⟨by decide +kernel, by decide +kernel⟩, by decide +kernel, rfl⟩,
  List.forall_mem_cons.mpr ⟨⟨(gw4 131 rfl rfl), (gw1 1 rfl rfl), by decide +kernel, ⟨by decide +kernel, by decide +kernel⟩, by decide +kernel, rfl⟩,
  List.forall_mem_cons.mpr ⟨⟨(gw6 149 rfl rfl), (gw1 13 rfl rfl), by decide +kernel, ⟨by decide +kernel, by decide +kernel⟩, by decide +kernel, rfl⟩,
  List.forall_mem_cons.mpr ⟨⟨(gw6 145 rfl rfl), (gw1 13 rfl rfl), by decide +kernel, ⟨by decide +kernel, by decide +kernel⟩, by decide +kernel, rfl⟩,
  List.forall_mem_cons.mpr ⟨⟨(gw4 156 rfl rfl), (gw1 10 rfl rfl), by decide +kernel, ⟨by decide +kernel, by decide +kernel⟩, by decide +kernel, rfl⟩,
  List.forall_mem_cons.mpr ⟨⟨(gw4 152 rfl rfl), (gw1 1 rfl rfl), by decide +kernel, ⟨by decide +kernel, by decide +kernel⟩, by decide +kernel, rfl⟩,
  List.forall_mem_cons.mpr ⟨⟨(gw6 153 rfl rfl), (gw1 13 rfl rfl), by decide +kernel, ⟨by decide +kernel, by decide +kernel⟩, by decide +kernel, rfl⟩,
  List.forall_mem_cons.mpr ⟨⟨(gw4 165 rfl rfl), (gw1 10 rfl rfl), by decide +kernel, ⟨by decide +kernel, by decide +kernel⟩, by decide +kernel, rfl⟩,
  List.forall_mem_cons.mpr ⟨⟨(gw4 161 rfl rfl), (gw1 1 rfl rfl), by decide +kernel, ⟨by decide +kernel, by decide +kernel⟩, by decide +kernel, rfl⟩,
  List.forall_mem_cons.mpr ⟨⟨(gw6 161 rfl rfl), (gw1 13 rfl rfl), by decide +kernel, ⟨by decide +kernel, by decide +kernel⟩, by decide +kernel, rfl⟩,
  List.forall_mem_cons.mpr ⟨⟨(gw6 157 rfl rfl), (gw1 13 rfl rfl), by decide +kernel, ⟨by decide +kernel, by decide +kernel⟩, by decide +kernel, rfl⟩,
  List.forall_mem_cons.mpr ⟨⟨(gw4 172 rfl rfl), (gw1 1 rfl rfl), by decide +kernel, ⟨by decide +kernel, by decide +kernel⟩, by decide +kernel, rfl⟩,
  List.forall_mem_cons.mpr ⟨⟨(gw4 181 rfl rfl), (gw1 11 rfl rfl), by decide +kernel, ⟨by decide +kernel, by decide +kernel⟩, by decide +kernel, rfl⟩,
  List.forall_mem_cons.mpr ⟨⟨(gw4 176 rfl rfl), (gw1 11 rfl rfl), by decide +kernel, ⟨by decide +kernel, by decide +kernel⟩, by decide +kernel, rfl⟩,
  List.forall_mem_cons.mpr ⟨⟨(gw4 169 rfl rfl), (gw1 1 rfl rfl), by decide +kernel, ⟨by decide +kernel, by decide +kernel⟩, by decide +kernel, rfl⟩,
  List.forall_mem_cons.mpr ⟨⟨(gw6 178 rfl rfl), (gw1 13 rfl rfl), by decide +kernel, ⟨by decide +kernel, by decide +kernel⟩, by decide +kernel, rfl⟩,
  List.forall_mem_cons.mpr ⟨⟨(gw6 174 rfl rfl), (gw1 13 rfl rfl), by decide +kernel, ⟨by decide +kernel, by decide +kernel⟩, by decide +kernel, rfl⟩,
  List.forall_mem_cons.mpr ⟨⟨(gw6 170 rfl rfl), (gw1 13 rfl rfl), by decide +kernel, ⟨by decide +kernel, by decide +kernel⟩, by decide +kernel, rfl⟩,
  List.forall_mem_cons.mpr ⟨⟨(gw6 165 rfl rfl), (gw1 13 rfl rfl), by decide +kernel, ⟨by decide +kernel, by decide +kernel⟩, by decide +kernel, rfl⟩,
  List.forall_mem_cons.mpr ⟨⟨(gw4 193 rfl rfl), (gw1 11 rfl rfl), by decide +kernel, ⟨by decide +kernel, by decide +kernel⟩, by decide +kernel, rfl⟩,
  List.forall_mem_cons.mpr ⟨⟨(gw4 196 rfl rfl), (gw1 11 rfl rfl), by decide +kernel, ⟨by decide +kernel, by decide +kernel⟩, by decide +kernel, rfl⟩,
  List.forall_mem_cons.mpr ⟨⟨(gw4 189 rfl rfl), (gw1 11 rfl rfl), by decide +kernel, ⟨by decide +kernel, by decide +kernel⟩, by decide +kernel, rfl⟩,
  List.forall_mem_cons.mpr ⟨⟨(gw4 185 rfl rfl), (gw1 1 rfl rfl), by decide +kernel, ⟨by decide +kernel, by decide +kernel⟩, by decide +kernel, rfl⟩,
  List.forall_mem_cons.mpr ⟨⟨(gw6 190 rfl rfl), (gw1 13 rfl rfl), by decide +kernel, ⟨by decide +kernel, by decide +kernel⟩, by decide +kernel, rfl⟩,
  List.forall_mem_cons.mpr ⟨⟨(gw6 186 rfl rfl), (gw1 13 rfl rfl), by decide +kernel, ⟨by decide +kernel, by decide +kernel⟩, by decide +kernel, rfl⟩,
  fun _ h => absurd h List.not_mem_nil⟩⟩⟩⟩⟩⟩⟩⟩⟩⟩⟩⟩⟩⟩⟩⟩⟩⟩⟩⟩⟩⟩⟩⟩⟩⟩⟩⟩⟩⟩⟩⟩
def mkL6 : List (Nat) := [192, 193, 194, 195, 196, 197, 198, 199, 200, 201, 202, 203, 204, 205, 206, 207, 208, 209]
set_option maxRecDepth 8000 in
theorem mkL6_ok : ∀ q ∈ mkL6, mkOK q := List.forall_mem_cons.mpr ⟨⟨(gw6 193 rfl rfl), (gw1 13 rfl rfl), by decide +kernel, ⟨by decide +kernel, by decide +kernel⟩, by decide +kernel, rfl⟩,
  List.forall_mem_cons.mpr ⟨⟨(gw6 182 rfl rfl), (gw1 13 rfl rfl), by decide +kernel, ⟨by decide +kernel, by decide +kernel⟩, by decide +kernel, rfl⟩,
  List.forall_mem_cons.mpr ⟨⟨(gw4 208 rfl rfl), (gw1 11 rfl rfl), by decide +kernel, ⟨by decide +kernel, by decide +kernel⟩, by decide +kernel, rfl⟩,
  List.forall_mem_cons.mpr ⟨⟨(gw4 204 rfl rfl), (gw1 11 rfl rfl), by decide +kernel, ⟨by decide +kernel, by decide +kernel⟩, by decide +kernel, rfl⟩,
  List.forall_mem_cons.mpr ⟨⟨(gw4 200 rfl rfl), (gw1 1 rfl rfl), by decide +kernel, ⟨by decide +kernel, by decide +kernel⟩, by decide +kernel, rfl⟩,
  List.forall_mem_cons.mpr ⟨⟨(gw6 197 rfl rfl), (gw1 13 rfl rfl), by decide +kernel, ⟨by decide +kernel, by decide +kernel⟩, by decide +kernel, rfl⟩,
  List.forall_mem_cons.mpr ⟨⟨(gw4 222 rfl rfl), (gw1 11 rfl rfl), by decide +kernel, ⟨by decide +kernel, by decide +kernel⟩, by decide +kernel, rfl⟩,
  List.forall_mem_cons.mpr ⟨⟨(gw4 218 rfl rfl), (gw1 11 rfl rfl), by decide +kernel, ⟨by decide +kernel, by decide +kernel⟩, by decide +kernel, rfl⟩,
  List.forall_mem_cons.mpr ⟨⟨(gw4 214 rfl rfl), (gw1 1 rfl rfl), by decide +kernel, ⟨by decide +kernel, by decide +kernel⟩, by decide +kernel, rfl⟩,
  List.forall_mem_cons.mpr ⟨⟨(gw6 201 rfl rfl), (gw1 13 rfl rfl), by decide +kernel, ⟨by decide +kernel, by decide +kernel⟩, by decide +kernel, rfl⟩,
  List.forall_mem_cons.mpr ⟨⟨(gw4 237 rfl rfl), (gw1 12 rfl rfl), by decide +kernel, ⟨by decide +kernel, by decide +kernel⟩, by decide +kernel, rfl⟩,
  List.forall_mem_cons.mpr ⟨⟨(gw5 2 rfl rfl), (gw1 12 rfl rfl), by decide +kernel, ⟨by decide +kernel, by decide +kernel⟩, by decide +kernel, rfl⟩,
  List.forall_mem_cons.mpr ⟨⟨(gw4 234 rfl rfl), (gw1 12 rfl rfl), by decide +kernel, ⟨by decide +kernel, by decide +kernel⟩, by decide +kernel, rfl⟩,
  List.forall_mem_cons.mpr ⟨⟨(gw5 7 rfl rfl), (gw1 12 rfl rfl), by decide +kernel, ⟨by decide +kernel, by decide +kernel⟩, by decide +kernel, rfl⟩,
  List.forall_mem_cons.mpr ⟨⟨(gw4 230 rfl rfl), (gw1 1 rfl rfl), by decide +kernel, ⟨by decide +kernel, by decide +kernel⟩, by decide +kernel, rfl⟩,
  List.forall_mem_cons.mpr ⟨⟨(gw6 210 rfl rfl), (gw1 13 rfl rfl), by decide +kernel, ⟨by decide +kernel, by decide +kernel⟩, by decide +kernel, rfl⟩,
  List.forall_mem_cons.mpr ⟨⟨(gw6 214 rfl rfl), (gw1 13 rfl rfl), by decide +kernel, ⟨by decide +kernel, by decide +kernel⟩, by decide +kernel, rfl⟩,
  List.forall_mem_cons.mpr ⟨⟨(gw6 206 rfl rfl), (gw1 13 rfl rfl), by decide +kernel, ⟨by decide +kernel, by decide +kernel⟩, by decide +kernel, rfl⟩,
  fun _ h => absurd h List.not_mem_nil⟩⟩⟩⟩⟩⟩⟩⟩⟩⟩⟩⟩⟩⟩⟩⟩⟩⟩
def mkL : List Nat := mkL0 ++ mkL1 ++ mkL2 ++ mkL3 ++ mkL4 ++ mkL5 ++ mkL6
theorem mkL_ok : ∀ q ∈ mkL, mkOK q := fun q => fun h => (List.mem_append.mp h).elim (fun h => (List.mem_append.mp h).elim (fun h => (List.mem_append.mp h).elim (fun h => (List.mem_append.mp h).elim (fun h => (List.mem_append.mp h).elim (fun h => (List.mem_append.mp h).elim (mkL0_ok q) (mkL1_ok q)) (mkL2_ok q)) (mkL3_ok q)) (mkL4_ok q)) (mkL5_ok q)) (mkL6_ok q)
def vtL0 : List (Nat) := [14, 15, 16, 18, 19, 21, 22, 23, 24, 25, 26, 27, 28, 29, 31, 32, 33, 34, 35, 36, 37, 38, 39, 40, 41, 42, 43, 44, 45, 46, 47, 48]
set_option maxRecDepth 8000 in
theorem vtL0_ok : ∀ q ∈ vtL0, Jvm.Cond.instanceMethod (yOf q) ∈ GW ∧ Jvm.Cond.selects (yOf q).cls (yOf q) (yOf q) ∈ GW := List.forall_mem_cons.mpr ⟨⟨(gw2 183 rfl rfl), (gw_sel (List.mem_of_getElem? (i := 0) rfl) rfl)⟩,
  List.forall_mem_cons.mpr ⟨⟨(gw2 186 rfl rfl), (gw2 187 rfl rfl)⟩,
  List.forall_mem_cons.mpr ⟨⟨(gw2 175 rfl rfl), (gw2 176 rfl rfl)⟩,
  List.forall_mem_cons.mpr ⟨⟨(gw5 143 rfl rfl), (gw5 144 rfl rfl)⟩,
  List.forall_mem_cons.mpr ⟨⟨(gw2 194 rfl rfl), (gw2 195 rfl rfl)⟩,
  List.forall_mem_cons.mpr ⟨⟨(gw2 201 rfl rfl), (gw2 202 rfl rfl)⟩,
  List.forall_mem_cons.mpr ⟨⟨(gw2 205 rfl rfl), (gw2 206 rfl rfl)⟩,
  List.forall_mem_cons.mpr ⟨⟨(gw2 190 rfl rfl), (gw2 191 rfl rfl)⟩,
  List.forall_mem_cons.mpr ⟨⟨(gw5 157 rfl rfl), (gw_sel (List.mem_of_getElem? (i := 35) rfl) rfl)⟩,
  List.forall_mem_cons.mpr ⟨⟨(gw5 162 rfl rfl), (gw_sel (List.mem_of_getElem? (i := 36) rfl) rfl)⟩,
  List.forall_mem_cons.mpr ⟨⟨(gw5 152 rfl rfl), (gw5 153 rfl rfl)⟩,
  List.forall_mem_cons.mpr ⟨⟨(gw2 217 rfl rfl), (gw2 218 rfl rfl)⟩,
  List.forall_mem_cons.mpr ⟨⟨(gw2 213 rfl rfl), (gw2 214 rfl rfl)⟩,
  List.forall_mem_cons.mpr ⟨⟨(gw2 221 rfl rfl), (gw2 222 rfl rfl)⟩,
  List.forall_mem_cons.mpr ⟨⟨(gw2 209 rfl rfl), (gw2 210 rfl rfl)⟩,
  List.forall_mem_cons.mpr ⟨⟨(gw5 170 rfl rfl), (gw_sel (List.mem_of_getElem? (i := 37) rfl) rfl)⟩,
  List.forall_mem_cons.mpr ⟨⟨(gw5 165 rfl rfl), (gw5 166 rfl rfl)⟩,
  List.forall_mem_cons.mpr ⟨⟨(gw2 235 rfl rfl), (gw2 236 rfl rfl)⟩,
  List.forall_mem_cons.mpr ⟨⟨(gw2 231 rfl rfl), (gw2 232 rfl rfl)⟩,
  List.forall_mem_cons.mpr ⟨⟨(gw5 178 rfl rfl), (gw_sel (List.mem_of_getElem? (i := 38) rfl) rfl)⟩,
  List.forall_mem_cons.mpr ⟨⟨(gw5 173 rfl rfl), (gw5 174 rfl rfl)⟩,
  List.forall_mem_cons.mpr ⟨⟨(gw3 4 rfl rfl), (gw3 5 rfl rfl)⟩,
  List.forall_mem_cons.mpr ⟨⟨(gw3 18 rfl rfl), (gw3 19 rfl rfl)⟩,
  List.forall_mem_cons.mpr ⟨⟨(gw3 27 rfl rfl), (gw_sel (List.mem_of_getElem? (i := 1) rfl) rfl)⟩,
  List.forall_mem_cons.mpr ⟨⟨(gw3 22 rfl rfl), (gw3 23 rfl rfl)⟩,
  List.forall_mem_cons.mpr ⟨⟨(gw3 14 rfl rfl), (gw3 15 rfl rfl)⟩,
  List.forall_mem_cons.mpr ⟨⟨(gw3 10 rfl rfl), (gw3 11 rfl rfl)⟩,
  List.forall_mem_cons.mpr ⟨⟨(gw3 0 rfl rfl), (gw3 1 rfl rfl)⟩,
  List.forall_mem_cons.mpr ⟨⟨(gw5 186 rfl rfl), (gw_sel (List.mem_of_getElem? (i := 39) rfl) rfl)⟩,
  List.forall_mem_cons.mpr ⟨⟨(gw5 198 rfl rfl), (gw_sel (List.mem_of_getElem? (i := 42) rfl) rfl)⟩,
  List.forall_mem_cons.mpr ⟨⟨(gw5 202 rfl rfl), (gw_sel (List.mem_of_getElem? (i := 43) rfl) rfl)⟩,
  List.forall_mem_cons.mpr ⟨⟨(gw5 194 rfl rfl), (gw_sel (List.mem_of_getElem? (i := 41) rfl) rfl)⟩,
  fun _ h => absurd h List.not_mem_nil⟩⟩⟩⟩⟩⟩⟩⟩⟩⟩⟩⟩⟩⟩⟩⟩⟩⟩⟩⟩⟩⟩⟩⟩⟩⟩⟩⟩⟩⟩⟩⟩
def vtL1 : List (Nat) := [49, 50, 51, 52, 53, 54, 55, 56, 57, 58, 59, 60, 61, 62, 63, 64, 65, 66, 67, 68, 69, 70, 71, 72, 73, 74, 75, 76, 77, 78, 82, 83]
set_option maxRecDepth 8000 in
theorem vtL1_ok : ∀ q ∈ vtL1, Jvm.Cond.instanceMethod (yOf q) ∈ GW ∧ Jvm.Cond.selects (yOf q).cls (yOf q) (yOf q) ∈ GW := List.forall_mem_cons.mpr ⟨⟨(gw5 190 rfl rfl), (gw_sel (List.mem_of_getElem? (i := 40) rfl) rfl)⟩,
  List.forall_mem_cons.mpr ⟨⟨(gw5 181 rfl rfl), (gw5 182 rfl rfl)⟩,
  List.forall_mem_cons.mpr ⟨⟨(gw3 34 rfl rfl), (gw3 35 rfl rfl)⟩,
  List.forall_mem_cons.mpr ⟨⟨(gw3 30 rfl rfl), (gw3 31 rfl rfl)⟩,
  List.forall_mem_cons.mpr ⟨⟨(gw5 205 rfl rfl), (gw5 206 rfl rfl)⟩,
  List.forall_mem_cons.mpr ⟨⟨(gw3 42 rfl rfl), (gw3 43 rfl rfl)⟩,
  List.forall_mem_cons.mpr ⟨⟨(gw3 38 rfl rfl), (gw3 39 rfl rfl)⟩,
  List.forall_mem_cons.mpr ⟨⟨(gw5 214 rfl rfl), (gw_sel (List.mem_of_getElem? (i := 44) rfl) rfl)⟩,
  List.forall_mem_cons.mpr ⟨⟨(gw5 209 rfl rfl), (gw5 210 rfl rfl)⟩,
  List.forall_mem_cons.mpr ⟨⟨(gw3 46 rfl rfl), (gw3 47 rfl rfl)⟩,
  List.forall_mem_cons.mpr ⟨⟨(gw5 217 rfl rfl), (gw5 218 rfl rfl)⟩,
  List.forall_mem_cons.mpr ⟨⟨(gw3 54 rfl rfl), (gw3 55 rfl rfl)⟩,
  List.forall_mem_cons.mpr ⟨⟨(gw3 50 rfl rfl), (gw3 51 rfl rfl)⟩,
  List.forall_mem_cons.mpr ⟨⟨(gw5 221 rfl rfl), (gw5 222 rfl rfl)⟩,
  List.forall_mem_cons.mpr ⟨⟨(gw3 62 rfl rfl), (gw3 63 rfl rfl)⟩,
  List.forall_mem_cons.mpr ⟨⟨(gw3 58 rfl rfl), (gw3 59 rfl rfl)⟩,
  List.forall_mem_cons.mpr ⟨⟨(gw5 225 rfl rfl), (gw5 226 rfl rfl)⟩,
  List.forall_mem_cons.mpr ⟨⟨(gw3 71 rfl rfl), (gw3 72 rfl rfl)⟩,
  List.forall_mem_cons.mpr ⟨⟨(gw3 75 rfl rfl), (gw3 76 rfl rfl)⟩,
  List.forall_mem_cons.mpr ⟨⟨(gw3 79 rfl rfl), (gw3 80 rfl rfl)⟩,
  List.forall_mem_cons.mpr ⟨⟨(gw3 67 rfl rfl), (gw3 68 rfl rfl)⟩,
  List.forall_mem_cons.mpr ⟨⟨(gw5 229 rfl rfl), (gw5 230 rfl rfl)⟩,
  List.forall_mem_cons.mpr ⟨⟨(gw3 88 rfl rfl), (gw3 89 rfl rfl)⟩,
  List.forall_mem_cons.mpr ⟨⟨(gw3 83 rfl rfl), (gw3 84 rfl rfl)⟩,
  List.forall_mem_cons.mpr ⟨⟨(gw5 233 rfl rfl), (gw5 234 rfl rfl)⟩,
  List.forall_mem_cons.mpr ⟨⟨(gw3 101 rfl rfl), (gw_sel (List.mem_of_getElem? (i := 2) rfl) rfl)⟩,
  List.forall_mem_cons.mpr ⟨⟨(gw3 109 rfl rfl), (gw_sel (List.mem_of_getElem? (i := 4) rfl) rfl)⟩,
  List.forall_mem_cons.mpr ⟨⟨(gw3 125 rfl rfl), (gw3 126 rfl rfl)⟩,
  List.forall_mem_cons.mpr ⟨⟨(gw3 121 rfl rfl), (gw3 122 rfl rfl)⟩,
  List.forall_mem_cons.mpr ⟨⟨(gw3 135 rfl rfl), (gw3 136 rfl rfl)⟩,
  List.forall_mem_cons.mpr ⟨⟨(gw3 131 rfl rfl), (gw3 132 rfl rfl)⟩,
  List.forall_mem_cons.mpr ⟨⟨(gw3 118 rfl rfl), (gw_sel (List.mem_of_getElem? (i := 6) rfl) rfl)⟩,
  fun _ h => absurd h List.not_mem_nil⟩⟩⟩⟩⟩⟩⟩⟩⟩⟩⟩⟩⟩⟩⟩⟩⟩⟩⟩⟩⟩⟩⟩⟩⟩⟩⟩⟩⟩⟩⟩⟩
def vtL2 : List (Nat) := [84, 85, 86, 87, 88, 89, 90, 91, 92, 93, 94, 95, 97, 98, 99, 100, 102, 103, 104, 105, 106, 107, 108, 109, 110, 111, 112, 113, 114, 115, 116, 117]
set_option maxRecDepth 8000 in
theorem vtL2_ok : ∀ q ∈ vtL2, Jvm.Cond.instanceMethod (yOf q) ∈ GW ∧ Jvm.Cond.selects (yOf q).cls (yOf q) (yOf q) ∈ GW := List.forall_mem_cons.mpr ⟨⟨(gw3 113 rfl rfl), (gw_sel (List.mem_of_getElem? (i := 5) rfl) rfl)⟩,
  List.forall_mem_cons.mpr ⟨⟨(gw3 177 rfl rfl), (gw_sel (List.mem_of_getElem? (i := 7) rfl) rfl)⟩,
  List.forall_mem_cons.mpr ⟨⟨(gw3 185 rfl rfl), (gw_sel (List.mem_of_getElem? (i := 9) rfl) rfl)⟩,
  List.forall_mem_cons.mpr ⟨⟨(gw3 181 rfl rfl), (gw_sel (List.mem_of_getElem? (i := 8) rfl) rfl)⟩,
  List.forall_mem_cons.mpr ⟨⟨(gw3 189 rfl rfl), (gw_sel (List.mem_of_getElem? (i := 10) rfl) rfl)⟩,
  List.forall_mem_cons.mpr ⟨⟨(gw3 195 rfl rfl), (gw_sel (List.mem_of_getElem? (i := 11) rfl) rfl)⟩,
  List.forall_mem_cons.mpr ⟨⟨(gw3 105 rfl rfl), (gw_sel (List.mem_of_getElem? (i := 3) rfl) rfl)⟩,
  List.forall_mem_cons.mpr ⟨⟨(gw3 96 rfl rfl), (gw3 97 rfl rfl)⟩,
  List.forall_mem_cons.mpr ⟨⟨(gw3 202 rfl rfl), (gw3 203 rfl rfl)⟩,
  List.forall_mem_cons.mpr ⟨⟨(gw3 92 rfl rfl), (gw3 93 rfl rfl)⟩,
  List.forall_mem_cons.mpr ⟨⟨(gw6 4 rfl rfl), (gw_sel (List.mem_of_getElem? (i := 45) rfl) rfl)⟩,
  List.forall_mem_cons.mpr ⟨⟨(gw6 12 rfl rfl), (gw_sel (List.mem_of_getElem? (i := 47) rfl) rfl)⟩,
  List.forall_mem_cons.mpr ⟨⟨(gw6 22 rfl rfl), (gw_sel (List.mem_of_getElem? (i := 48) rfl) rfl)⟩,
  List.forall_mem_cons.mpr ⟨⟨(gw6 29 rfl rfl), (gw_sel (List.mem_of_getElem? (i := 49) rfl) rfl)⟩,
  List.forall_mem_cons.mpr ⟨⟨(gw6 33 rfl rfl), (gw_sel (List.mem_of_getElem? (i := 50) rfl) rfl)⟩,
  List.forall_mem_cons.mpr ⟨⟨(gw6 37 rfl rfl), (gw_sel (List.mem_of_getElem? (i := 51) rfl) rfl)⟩,
  List.forall_mem_cons.mpr ⟨⟨(gw6 8 rfl rfl), (gw_sel (List.mem_of_getElem? (i := 46) rfl) rfl)⟩,
  List.forall_mem_cons.mpr ⟨⟨(gw5 239 rfl rfl), (gw6 0 rfl rfl)⟩,
  List.forall_mem_cons.mpr ⟨⟨(gw3 207 rfl rfl), (gw3 208 rfl rfl)⟩,
  List.forall_mem_cons.mpr ⟨⟨(gw6 45 rfl rfl), (gw6 46 rfl rfl)⟩,
  List.forall_mem_cons.mpr ⟨⟨(gw3 220 rfl rfl), (gw_sel (List.mem_of_getElem? (i := 12) rfl) rfl)⟩,
  List.forall_mem_cons.mpr ⟨⟨(gw3 215 rfl rfl), (gw3 216 rfl rfl)⟩,
  List.forall_mem_cons.mpr ⟨⟨(gw3 211 rfl rfl), (gw3 212 rfl rfl)⟩,
  List.forall_mem_cons.mpr ⟨⟨(gw6 59 rfl rfl), (gw_sel (List.mem_of_getElem? (i := 53) rfl) rfl)⟩,
  List.forall_mem_cons.mpr ⟨⟨(gw6 55 rfl rfl), (gw_sel (List.mem_of_getElem? (i := 52) rfl) rfl)⟩,
  List.forall_mem_cons.mpr ⟨⟨(gw6 49 rfl rfl), (gw6 50 rfl rfl)⟩,
  List.forall_mem_cons.mpr ⟨⟨(gw3 230 rfl rfl), (gw_sel (List.mem_of_getElem? (i := 13) rfl) rfl)⟩,
  List.forall_mem_cons.mpr ⟨⟨(gw3 233 rfl rfl), (gw3 234 rfl rfl)⟩,
  List.forall_mem_cons.mpr ⟨⟨(gw3 225 rfl rfl), (gw3 226 rfl rfl)⟩,
  List.forall_mem_cons.mpr ⟨⟨(gw6 67 rfl rfl), (gw_sel (List.mem_of_getElem? (i := 54) rfl) rfl)⟩,
  List.forall_mem_cons.mpr ⟨⟨(gw6 71 rfl rfl), (gw_sel (List.mem_of_getElem? (i := 55) rfl) rfl)⟩,
  List.forall_mem_cons.mpr ⟨⟨(gw6 62 rfl rfl), (gw6 63 rfl rfl)⟩,
  fun _ h => absurd h List.not_mem_nil⟩⟩⟩⟩⟩⟩⟩⟩⟩⟩⟩⟩⟩⟩⟩⟩⟩⟩⟩⟩⟩⟩⟩⟩⟩⟩⟩⟩⟩⟩⟩⟩
def vtL3 : List (Nat) := [118, 119, 120, 121, 122, 123, 124, 125, 126, 127, 128, 129, 130, 131, 132, 133, 134, 135, 136, 137, 138, 139, 140, 141, 142, 143, 144, 145, 146, 147, 148, 149]
set_option maxRecDepth 8000 in
theorem vtL3_ok : ∀ q ∈ vtL3, Jvm.Cond.instanceMethod (yOf q) ∈ GW ∧ Jvm.Cond.selects (yOf q).cls (yOf q) (yOf q) ∈ GW := List.forall_mem_cons.mpr ⟨⟨(gw4 16 rfl rfl), (gw_sel (List.mem_of_getElem? (i := 16) rfl) rfl)⟩,
  List.forall_mem_cons.mpr ⟨⟨(gw4 12 rfl rfl), (gw_sel (List.mem_of_getElem? (i := 15) rfl) rfl)⟩,
  List.forall_mem_cons.mpr ⟨⟨(gw4 21 rfl rfl), (gw_sel (List.mem_of_getElem? (i := 17) rfl) rfl)⟩,
  List.forall_mem_cons.mpr ⟨⟨(gw4 29 rfl rfl), (gw_sel (List.mem_of_getElem? (i := 19) rfl) rfl)⟩,
  List.forall_mem_cons.mpr ⟨⟨(gw4 33 rfl rfl), (gw_sel (List.mem_of_getElem? (i := 20) rfl) rfl)⟩,
  List.forall_mem_cons.mpr ⟨⟨(gw4 37 rfl rfl), (gw_sel (List.mem_of_getElem? (i := 21) rfl) rfl)⟩,
  List.forall_mem_cons.mpr ⟨⟨(gw4 42 rfl rfl), (gw_sel (List.mem_of_getElem? (i := 22) rfl) rfl)⟩,
  List.forall_mem_cons.mpr ⟨⟨(gw4 25 rfl rfl), (gw_sel (List.mem_of_getElem? (i := 18) rfl) rfl)⟩,
  List.forall_mem_cons.mpr ⟨⟨(gw4 7 rfl rfl), (gw4 8 rfl rfl)⟩,
  List.forall_mem_cons.mpr ⟨⟨(gw4 4 rfl rfl), (gw_sel (List.mem_of_getElem? (i := 14) rfl) rfl)⟩,
  List.forall_mem_cons.mpr ⟨⟨(gw4 49 rfl rfl), (gw4 50 rfl rfl)⟩,
  List.forall_mem_cons.mpr ⟨⟨(gw4 45 rfl rfl), (gw4 46 rfl rfl)⟩,
  List.forall_mem_cons.mpr ⟨⟨(gw4 56 rfl rfl), (gw4 57 rfl rfl)⟩,
  List.forall_mem_cons.mpr ⟨⟨(gw4 60 rfl rfl), (gw4 61 rfl rfl)⟩,
  List.forall_mem_cons.mpr ⟨⟨(gw3 239 rfl rfl), (gw4 0 rfl rfl)⟩,
  List.forall_mem_cons.mpr ⟨⟨(gw6 84 rfl rfl), (gw_sel (List.mem_of_getElem? (i := 57) rfl) rfl)⟩,
  List.forall_mem_cons.mpr ⟨⟨(gw6 80 rfl rfl), (gw_sel (List.mem_of_getElem? (i := 56) rfl) rfl)⟩,
  List.forall_mem_cons.mpr ⟨⟨(gw6 74 rfl rfl), (gw6 75 rfl rfl)⟩,
  List.forall_mem_cons.mpr ⟨⟨(gw4 79 rfl rfl), (gw_sel (List.mem_of_getElem? (i := 24) rfl) rfl)⟩,
  List.forall_mem_cons.mpr ⟨⟨(gw4 74 rfl rfl), (gw_sel (List.mem_of_getElem? (i := 23) rfl) rfl)⟩,
  List.forall_mem_cons.mpr ⟨⟨(gw4 69 rfl rfl), (gw4 70 rfl rfl)⟩,
  List.forall_mem_cons.mpr ⟨⟨(gw4 65 rfl rfl), (gw4 66 rfl rfl)⟩,
  List.forall_mem_cons.mpr ⟨⟨(gw6 93 rfl rfl), (gw_sel (List.mem_of_getElem? (i := 58) rfl) rfl)⟩,
  List.forall_mem_cons.mpr ⟨⟨(gw6 97 rfl rfl), (gw_sel (List.mem_of_getElem? (i := 59) rfl) rfl)⟩,
  List.forall_mem_cons.mpr ⟨⟨(gw6 101 rfl rfl), (gw_sel (List.mem_of_getElem? (i := 60) rfl) rfl)⟩,
  List.forall_mem_cons.mpr ⟨⟨(gw6 109 rfl rfl), (gw_sel (List.mem_of_getElem? (i := 62) rfl) rfl)⟩,
  List.forall_mem_cons.mpr ⟨⟨(gw6 105 rfl rfl), (gw_sel (List.mem_of_getElem? (i := 61) rfl) rfl)⟩,
  List.forall_mem_cons.mpr ⟨⟨(gw6 87 rfl rfl), (gw6 88 rfl rfl)⟩,
  List.forall_mem_cons.mpr ⟨⟨(gw4 87 rfl rfl), (gw_sel (List.mem_of_getElem? (i := 25) rfl) rfl)⟩,
  List.forall_mem_cons.mpr ⟨⟨(gw4 94 rfl rfl), (gw4 95 rfl rfl)⟩,
  List.forall_mem_cons.mpr ⟨⟨(gw4 91 rfl rfl), (gw_sel (List.mem_of_getElem? (i := 26) rfl) rfl)⟩,
  List.forall_mem_cons.mpr ⟨⟨(gw4 100 rfl rfl), (gw_sel (List.mem_of_getElem? (i := 27) rfl) rfl)⟩,
  fun _ h => absurd h List.not_mem_nil⟩⟩⟩⟩⟩⟩⟩⟩⟩⟩⟩⟩⟩⟩⟩⟩⟩⟩⟩⟩⟩⟩⟩⟩⟩⟩⟩⟩⟩⟩⟩⟩
def vtL4 : List (Nat) := [150, 151, 152, 153, 154, 155, 156, 157, 159, 160, 162, 163, 164, 165, 166, 167, 168, 169, 170, 171, 172, 173, 174, 175, 176, 177, 179, 180, 181, 182, 183, 184]
set_option maxRecDepth 8000 in
theorem vtL4_ok : ∀ q ∈ vtL4, Jvm.Cond.instanceMethod (yOf q) ∈ GW ∧ Jvm.Cond.selects (yOf q).cls (yOf q) (yOf q) ∈ GW := List.forall_mem_cons.mpr ⟨⟨(gw4 104 rfl rfl), (gw_sel (List.mem_of_getElem? (i := 28) rfl) rfl)⟩,
  List.forall_mem_cons.mpr ⟨⟨(gw4 82 rfl rfl), (gw4 83 rfl rfl)⟩,
  List.forall_mem_cons.mpr ⟨⟨(gw6 121 rfl rfl), (gw_sel (List.mem_of_getElem? (i := 64) rfl) rfl)⟩,
  List.forall_mem_cons.mpr ⟨⟨(gw6 117 rfl rfl), (gw_sel (List.mem_of_getElem? (i := 63) rfl) rfl)⟩,
  List.forall_mem_cons.mpr ⟨⟨(gw6 125 rfl rfl), (gw_sel (List.mem_of_getElem? (i := 65) rfl) rfl)⟩,
  List.forall_mem_cons.mpr ⟨⟨(gw6 129 rfl rfl), (gw_sel (List.mem_of_getElem? (i := 66) rfl) rfl)⟩,
  List.forall_mem_cons.mpr ⟨⟨(gw6 112 rfl rfl), (gw6 113 rfl rfl)⟩,
  List.forall_mem_cons.mpr ⟨⟨(gw4 115 rfl rfl), (gw4 116 rfl rfl)⟩,
  List.forall_mem_cons.mpr ⟨⟨(gw4 111 rfl rfl), (gw4 112 rfl rfl)⟩,
  List.forall_mem_cons.mpr ⟨⟨(gw4 107 rfl rfl), (gw4 108 rfl rfl)⟩,
  List.forall_mem_cons.mpr ⟨⟨(gw6 132 rfl rfl), (gw6 133 rfl rfl)⟩,
  List.forall_mem_cons.mpr ⟨⟨(gw4 125 rfl rfl), (gw4 126 rfl rfl)⟩,
  List.forall_mem_cons.mpr ⟨⟨(gw6 139 rfl rfl), (gw6 140 rfl rfl)⟩,
  List.forall_mem_cons.mpr ⟨⟨(gw4 138 rfl rfl), (gw_sel (List.mem_of_getElem? (i := 29) rfl) rfl)⟩,
  List.forall_mem_cons.mpr ⟨⟨(gw4 133 rfl rfl), (gw4 134 rfl rfl)⟩,
  List.forall_mem_cons.mpr ⟨⟨(gw4 146 rfl rfl), (gw4 147 rfl rfl)⟩,
  List.forall_mem_cons.mpr ⟨⟨(gw4 129 rfl rfl), (gw4 130 rfl rfl)⟩,
  List.forall_mem_cons.mpr ⟨⟨(gw6 148 rfl rfl), (gw_sel (List.mem_of_getElem? (i := 67) rfl) rfl)⟩,
  List.forall_mem_cons.mpr ⟨⟨(gw6 143 rfl rfl), (gw6 144 rfl rfl)⟩,
  List.forall_mem_cons.mpr ⟨⟨(gw4 154 rfl rfl), (gw4 155 rfl rfl)⟩,
  List.forall_mem_cons.mpr ⟨⟨(gw4 150 rfl rfl), (gw4 151 rfl rfl)⟩,
  List.forall_mem_cons.mpr ⟨⟨(gw6 151 rfl rfl), (gw6 152 rfl rfl)⟩,
  List.forall_mem_cons.mpr ⟨⟨(gw4 163 rfl rfl), (gw4 164 rfl rfl)⟩,
  List.forall_mem_cons.mpr ⟨⟨(gw4 159 rfl rfl), (gw4 160 rfl rfl)⟩,
  List.forall_mem_cons.mpr ⟨⟨(gw6 160 rfl rfl), (gw_sel (List.mem_of_getElem? (i := 68) rfl) rfl)⟩,
  List.forall_mem_cons.mpr ⟨⟨(gw6 155 rfl rfl), (gw6 156 rfl rfl)⟩,
  List.forall_mem_cons.mpr ⟨⟨(gw4 180 rfl rfl), (gw_sel (List.mem_of_getElem? (i := 30) rfl) rfl)⟩,
  List.forall_mem_cons.mpr ⟨⟨(gw4 174 rfl rfl), (gw4 175 rfl rfl)⟩,
  List.forall_mem_cons.mpr ⟨⟨(gw4 167 rfl rfl), (gw4 168 rfl rfl)⟩,
  List.forall_mem_cons.mpr ⟨⟨(gw6 177 rfl rfl), (gw_sel (List.mem_of_getElem? (i := 71) rfl) rfl)⟩,
  List.forall_mem_cons.mpr ⟨⟨(gw6 173 rfl rfl), (gw_sel (List.mem_of_getElem? (i := 70) rfl) rfl)⟩,
  List.forall_mem_cons.mpr ⟨⟨(gw6 169 rfl rfl), (gw_sel (List.mem_of_getElem? (i := 69) rfl) rfl)⟩,
  fun _ h => absurd h List.not_mem_nil⟩⟩⟩⟩⟩⟩⟩⟩⟩⟩⟩⟩⟩⟩⟩⟩⟩⟩⟩⟩⟩⟩⟩⟩⟩⟩⟩⟩⟩⟩⟩⟩
def vtL5 : List (Nat) := [185, 186, 188, 189, 190, 191, 193, 194, 195, 196, 197, 198, 199, 200, 201, 203, 204, 205, 206, 207, 208, 209]
set_option maxRecDepth 8000 in
theorem vtL5_ok : ∀ q ∈ vtL5, Jvm.Cond.instanceMethod (yOf q) ∈ GW ∧ Jvm.Cond.selects (yOf q).cls (yOf q) (yOf q) ∈ GW := List.forall_mem_cons.mpr ⟨⟨(gw6 163 rfl rfl), (gw6 164 rfl rfl)⟩,
  List.forall_mem_cons.mpr ⟨⟨(gw4 192 rfl rfl), (gw_sel (List.mem_of_getElem? (i := 31) rfl) rfl)⟩,
  List.forall_mem_cons.mpr ⟨⟨(gw4 187 rfl rfl), (gw4 188 rfl rfl)⟩,
  List.forall_mem_cons.mpr ⟨⟨(gw4 183 rfl rfl), (gw4 184 rfl rfl)⟩,
  List.forall_mem_cons.mpr ⟨⟨(gw6 189 rfl rfl), (gw_sel (List.mem_of_getElem? (i := 73) rfl) rfl)⟩,
  List.forall_mem_cons.mpr ⟨⟨(gw6 185 rfl rfl), (gw_sel (List.mem_of_getElem? (i := 72) rfl) rfl)⟩,
  List.forall_mem_cons.mpr ⟨⟨(gw6 180 rfl rfl), (gw6 181 rfl rfl)⟩,
  List.forall_mem_cons.mpr ⟨⟨(gw4 207 rfl rfl), (gw_sel (List.mem_of_getElem? (i := 32) rfl) rfl)⟩,
  List.forall_mem_cons.mpr ⟨⟨(gw4 202 rfl rfl), (gw4 203 rfl rfl)⟩,
  List.forall_mem_cons.mpr ⟨⟨(gw4 198 rfl rfl), (gw4 199 rfl rfl)⟩,
  List.forall_mem_cons.mpr ⟨⟨(gw6 195 rfl rfl), (gw6 196 rfl rfl)⟩,
  List.forall_mem_cons.mpr ⟨⟨(gw4 221 rfl rfl), (gw_sel (List.mem_of_getElem? (i := 33) rfl) rfl)⟩,
  List.forall_mem_cons.mpr ⟨⟨(gw4 216 rfl rfl), (gw4 217 rfl rfl)⟩,
  List.forall_mem_cons.mpr ⟨⟨(gw4 212 rfl rfl), (gw4 213 rfl rfl)⟩,
  List.forall_mem_cons.mpr ⟨⟨(gw6 199 rfl rfl), (gw6 200 rfl rfl)⟩,
  List.forall_mem_cons.mpr ⟨⟨(gw5 1 rfl rfl), (gw_sel (List.mem_of_getElem? (i := 34) rfl) rfl)⟩,
  List.forall_mem_cons.mpr ⟨⟨(gw4 232 rfl rfl), (gw4 233 rfl rfl)⟩,
  List.forall_mem_cons.mpr ⟨⟨(gw5 5 rfl rfl), (gw5 6 rfl rfl)⟩,
  List.forall_mem_cons.mpr ⟨⟨(gw4 228 rfl rfl), (gw4 229 rfl rfl)⟩,
  List.forall_mem_cons.mpr ⟨⟨(gw6 209 rfl rfl), (gw_sel (List.mem_of_getElem? (i := 74) rfl) rfl)⟩,
  List.forall_mem_cons.mpr ⟨⟨(gw6 213 rfl rfl), (gw_sel (List.mem_of_getElem? (i := 75) rfl) rfl)⟩,
  List.forall_mem_cons.mpr ⟨⟨(gw6 204 rfl rfl), (gw6 205 rfl rfl)⟩,
  fun _ h => absurd h List.not_mem_nil⟩⟩⟩⟩⟩⟩⟩⟩⟩⟩⟩⟩⟩⟩⟩⟩⟩⟩⟩⟩⟩⟩
def vtL : List (Nat) := vtL0 ++ vtL1 ++ vtL2 ++ vtL3 ++ vtL4 ++ vtL5
theorem vtL_ok : ∀ q ∈ vtL, Jvm.Cond.instanceMethod (yOf q) ∈ GW ∧ Jvm.Cond.selects (yOf q).cls (yOf q) (yOf q) ∈ GW := fun q => fun h => (List.mem_append.mp h).elim (fun h => (List.mem_append.mp h).elim (fun h => (List.mem_append.mp h).elim (fun h => (List.mem_append.mp h).elim (fun h => (List.mem_append.mp h).elim (vtL0_ok q) (vtL1_ok q)) (vtL2_ok q)) (vtL3_ok q)) (vtL4_ok q)) (vtL5_ok q)
def stL0 : List (Nat) := [13, 17, 20, 30, 79, 80, 81, 96, 101, 158, 161, 178, 187, 192, 202]
set_option maxRecDepth 8000 in
theorem stL0_ok : ∀ q ∈ stL0, Jvm.Cond.static (yOf q) ∈ GW := List.forall_mem_cons.mpr ⟨(gw2 179 rfl rfl),
  List.forall_mem_cons.mpr ⟨(gw5 148 rfl rfl),
  List.forall_mem_cons.mpr ⟨(gw2 198 rfl rfl),
  List.forall_mem_cons.mpr ⟨(gw2 225 rfl rfl),
  List.forall_mem_cons.mpr ⟨(gw3 147 rfl rfl),
  List.forall_mem_cons.mpr ⟨(gw3 142 rfl rfl),
  List.forall_mem_cons.mpr ⟨(gw3 139 rfl rfl),
  List.forall_mem_cons.mpr ⟨(gw6 25 rfl rfl),
  List.forall_mem_cons.mpr ⟨(gw6 42 rfl rfl),
  List.forall_mem_cons.mpr ⟨(gw4 119 rfl rfl),
  List.forall_mem_cons.mpr ⟨(gw6 136 rfl rfl),
  List.forall_mem_cons.mpr ⟨(gw4 171 rfl rfl),
  List.forall_mem_cons.mpr ⟨(gw4 195 rfl rfl),
  List.forall_mem_cons.mpr ⟨(gw6 192 rfl rfl),
  List.forall_mem_cons.mpr ⟨(gw4 236 rfl rfl),
  fun _ h => absurd h List.not_mem_nil⟩⟩⟩⟩⟩⟩⟩⟩⟩⟩⟩⟩⟩⟩⟩
def stL : List (Nat) := stL0
theorem stL_ok : ∀ q ∈ stL, Jvm.Cond.static (yOf q) ∈ GW := fun q => stL0_ok q
def spL0 : List (Nat) := [0, 1, 2, 3, 4, 5, 6, 7, 8, 9, 10, 11, 12]
set_option maxRecDepth 8000 in
theorem spL0_ok : ∀ q ∈ spL0, (yOf q).name = "<init>" ∧ Jvm.Cond.instanceMethod (yOf q) ∈ GW := List.forall_mem_cons.mpr ⟨⟨rfl, (gw1 39 rfl rfl)⟩,
  List.forall_mem_cons.mpr ⟨⟨rfl, (gw1 32 rfl rfl)⟩,
  List.forall_mem_cons.mpr ⟨⟨rfl, (gw1 91 rfl rfl)⟩,
  List.forall_mem_cons.mpr ⟨⟨rfl, (gw1 112 rfl rfl)⟩,
  List.forall_mem_cons.mpr ⟨⟨rfl, (gw1 138 rfl rfl)⟩,
  List.forall_mem_cons.mpr ⟨⟨rfl, (gw1 170 rfl rfl)⟩,
  List.forall_mem_cons.mpr ⟨⟨rfl, (gw1 192 rfl rfl)⟩,
  List.forall_mem_cons.mpr ⟨⟨rfl, (gw2 10 rfl rfl)⟩,
  List.forall_mem_cons.mpr ⟨⟨rfl, (gw2 48 rfl rfl)⟩,
  List.forall_mem_cons.mpr ⟨⟨rfl, (gw2 90 rfl rfl)⟩,
  List.forall_mem_cons.mpr ⟨⟨rfl, (gw2 119 rfl rfl)⟩,
  List.forall_mem_cons.mpr ⟨⟨rfl, (gw1 24 rfl rfl)⟩,
  List.forall_mem_cons.mpr ⟨⟨rfl, (gw5 12 rfl rfl)⟩,
  fun _ h => absurd h List.not_mem_nil⟩⟩⟩⟩⟩⟩⟩⟩⟩⟩⟩⟩⟩
def spL : List (Nat) := spL0
theorem spL_ok : ∀ q ∈ spL, (yOf q).name = "<init>" ∧ Jvm.Cond.instanceMethod (yOf q) ∈ GW := fun q => spL0_ok q
def mlL0 : List (Nat × Nat × Nat) := [(19, 9, 11), (11, 9, 1), (11, 18, 2), (11, 25, 3), (11, 48, 6), (11, 57, 7), (11, 66, 8), (11, 75, 9), (19, 13, 16), (11, 87, 13), (11, 95, 14), (11, 98, 15), (19, 18, 23), (11, 102, 19), (11, 105, 20), (11, 112, 21), (11, 117, 22), (19, 22, 31), (11, 122, 28), (0, 23, 27), (11, 126, 29), (11, 133, 30), (19, 27, 35), (11, 139, 34), (11, 147, 27), (19, 32, 44), (11, 156, 38), (0, 27, 28), (0, 31, 30), (11, 160, 43), (3, 48, 42), (3, 32, 39)]
set_option maxRecDepth 8000 in
theorem mlL0_ok : ∀ q ∈ mlL0, Jvm.Cond.methodLink (owN q.1) q.2.1 (yOf q.2.2) ∈ GW := List.forall_mem_cons.mpr ⟨(gw1 23 rfl rfl),
  List.forall_mem_cons.mpr ⟨(gw1 31 rfl rfl),
  List.forall_mem_cons.mpr ⟨(gw1 90 rfl rfl),
  List.forall_mem_cons.mpr ⟨(gw1 111 rfl rfl),
  List.forall_mem_cons.mpr ⟨(gw1 191 rfl rfl),
  List.forall_mem_cons.mpr ⟨(gw2 9 rfl rfl),
  List.forall_mem_cons.mpr ⟨(gw2 47 rfl rfl),
  List.forall_mem_cons.mpr ⟨(gw2 89 rfl rfl),
  List.forall_mem_cons.mpr ⟨(gw2 174 rfl rfl),
  List.forall_mem_cons.mpr ⟨(gw2 178 rfl rfl),
  List.forall_mem_cons.mpr ⟨(gw2 181 rfl rfl),
  List.forall_mem_cons.mpr ⟨(gw2 185 rfl rfl),
  List.forall_mem_cons.mpr ⟨(gw2 189 rfl rfl),
  List.forall_mem_cons.mpr ⟨(gw2 193 rfl rfl),
  List.forall_mem_cons.mpr ⟨(gw2 197 rfl rfl),
  List.forall_mem_cons.mpr ⟨(gw2 200 rfl rfl),
  List.forall_mem_cons.mpr ⟨(gw2 204 rfl rfl),
  List.forall_mem_cons.mpr ⟨(gw2 208 rfl rfl),
  List.forall_mem_cons.mpr ⟨(gw2 212 rfl rfl),
  List.forall_mem_cons.mpr ⟨(gw2 216 rfl rfl),
  List.forall_mem_cons.mpr ⟨(gw2 220 rfl rfl),
  List.forall_mem_cons.mpr ⟨(gw2 224 rfl rfl),
  List.forall_mem_cons.mpr ⟨(gw2 230 rfl rfl),
  List.forall_mem_cons.mpr ⟨(gw2 234 rfl rfl),
  List.forall_mem_cons.mpr ⟨(gw2 238 rfl rfl),
  List.forall_mem_cons.mpr ⟨(gw2 239 rfl rfl),
  List.forall_mem_cons.mpr ⟨(gw3 3 rfl rfl),
  List.forall_mem_cons.mpr ⟨(gw3 7 rfl rfl),
  List.forall_mem_cons.mpr ⟨(gw3 8 rfl rfl),
  List.forall_mem_cons.mpr ⟨(gw3 9 rfl rfl),
  List.forall_mem_cons.mpr ⟨(gw3 13 rfl rfl),
  List.forall_mem_cons.mpr ⟨(gw3 17 rfl rfl),
  fun _ h => absurd h List.not_mem_nil⟩⟩⟩⟩⟩⟩⟩⟩⟩⟩⟩⟩⟩⟩⟩⟩⟩⟩⟩⟩⟩⟩⟩⟩⟩⟩⟩⟩⟩⟩⟩⟩
def mlL1 : List (Nat × Nat × Nat) := [(3, 42, 41), (0, 37, 40), (19, 36, 52), (11, 163, 51), (19, 40, 55), (11, 169, 54), (19, 44, 58), (19, 49, 61), (11, 177, 60), (19, 53, 64), (11, 181, 63), (11, 182, 42), (19, 57, 69), (11, 186, 66), (11, 193, 67), (11, 196, 68), (19, 63, 72), (11, 201, 71), (19, 68, 93), (11, 202, 91), (4, 34, 74), (4, 37, 90), (4, 41, 75), (4, 45, 84), (4, 74, 83), (4, 96, 77), (13, 335, 76), (4, 100, 82), (13, 492, 78), (13, 495, 81), (14, 9, 80), (13, 1059, 79)]
set_option maxRecDepth 8000 in
theorem mlL1_ok : ∀ q ∈ mlL1, Jvm.Cond.methodLink (owN q.1) q.2.1 (yOf q.2.2) ∈ GW := List.forall_mem_cons.mpr ⟨(gw3 21 rfl rfl),
  List.forall_mem_cons.mpr ⟨(gw3 25 rfl rfl),
  List.forall_mem_cons.mpr ⟨(gw3 29 rfl rfl),
  List.forall_mem_cons.mpr ⟨(gw3 33 rfl rfl),
  List.forall_mem_cons.mpr ⟨(gw3 37 rfl rfl),
  List.forall_mem_cons.mpr ⟨(gw3 41 rfl rfl),
  List.forall_mem_cons.mpr ⟨(gw3 45 rfl rfl),
  List.forall_mem_cons.mpr ⟨(gw3 49 rfl rfl),
  List.forall_mem_cons.mpr ⟨(gw3 53 rfl rfl),
  List.forall_mem_cons.mpr ⟨(gw3 57 rfl rfl),
  List.forall_mem_cons.mpr ⟨(gw3 61 rfl rfl),
  List.forall_mem_cons.mpr ⟨(gw3 65 rfl rfl),
  List.forall_mem_cons.mpr ⟨(gw3 66 rfl rfl),
  List.forall_mem_cons.mpr ⟨(gw3 70 rfl rfl),
  List.forall_mem_cons.mpr ⟨(gw3 74 rfl rfl),
  List.forall_mem_cons.mpr ⟨(gw3 78 rfl rfl),
  List.forall_mem_cons.mpr ⟨(gw3 82 rfl rfl),
  List.forall_mem_cons.mpr ⟨(gw3 87 rfl rfl),
  List.forall_mem_cons.mpr ⟨(gw3 91 rfl rfl),
  List.forall_mem_cons.mpr ⟨(gw3 95 rfl rfl),
  List.forall_mem_cons.mpr ⟨(gw3 99 rfl rfl),
  List.forall_mem_cons.mpr ⟨(gw3 103 rfl rfl),
  List.forall_mem_cons.mpr ⟨(gw3 107 rfl rfl),
  List.forall_mem_cons.mpr ⟨(gw3 111 rfl rfl),
  List.forall_mem_cons.mpr ⟨(gw3 116 rfl rfl),
  List.forall_mem_cons.mpr ⟨(gw3 120 rfl rfl),
  List.forall_mem_cons.mpr ⟨(gw3 124 rfl rfl),
  List.forall_mem_cons.mpr ⟨(gw3 130 rfl rfl),
  List.forall_mem_cons.mpr ⟨(gw3 134 rfl rfl),
  List.forall_mem_cons.mpr ⟨(gw3 138 rfl rfl),
  List.forall_mem_cons.mpr ⟨(gw3 141 rfl rfl),
  List.forall_mem_cons.mpr ⟨(gw3 146 rfl rfl),
  fun _ h => absurd h List.not_mem_nil⟩⟩⟩⟩⟩⟩⟩⟩⟩⟩⟩⟩⟩⟩⟩⟩⟩⟩⟩⟩⟩⟩⟩⟩⟩⟩⟩⟩⟩⟩⟩⟩
def mlL2 : List (Nat × Nat × Nat) := [(4, 49, 85), (4, 52, 87), (4, 62, 86), (4, 56, 88), (4, 59, 89), (11, 211, 92), (19, 72, 104), (19, 77, 108), (11, 217, 107), (5, 27, 106), (19, 81, 114), (11, 220, 112), (11, 223, 113), (6, 60, 107), (6, 69, 39), (19, 85, 132), (11, 226, 127), (11, 323, 126), (6, 73, 119), (6, 105, 118), (6, 77, 113), (6, 80, 120), (6, 84, 125), (6, 118, 121), (6, 121, 122), (6, 125, 123), (6, 129, 124), (11, 229, 129), (6, 134, 128), (11, 232, 130), (11, 236, 131), (6, 142, 19)]
set_option maxRecDepth 8000 in
theorem mlL2_ok : ∀ q ∈ mlL2, Jvm.Cond.methodLink (owN q.1) q.2.1 (yOf q.2.2) ∈ GW := List.forall_mem_cons.mpr ⟨(gw3 175 rfl rfl),
  List.forall_mem_cons.mpr ⟨(gw3 179 rfl rfl),
  List.forall_mem_cons.mpr ⟨(gw3 183 rfl rfl),
  List.forall_mem_cons.mpr ⟨(gw3 187 rfl rfl),
  List.forall_mem_cons.mpr ⟨(gw3 193 rfl rfl),
  List.forall_mem_cons.mpr ⟨(gw3 201 rfl rfl),
  List.forall_mem_cons.mpr ⟨(gw3 206 rfl rfl),
  List.forall_mem_cons.mpr ⟨(gw3 210 rfl rfl),
  List.forall_mem_cons.mpr ⟨(gw3 214 rfl rfl),
  List.forall_mem_cons.mpr ⟨(gw3 218 rfl rfl),
  List.forall_mem_cons.mpr ⟨(gw3 224 rfl rfl),
  List.forall_mem_cons.mpr ⟨(gw3 228 rfl rfl),
  List.forall_mem_cons.mpr ⟨(gw3 232 rfl rfl),
  List.forall_mem_cons.mpr ⟨(gw3 236 rfl rfl),
  List.forall_mem_cons.mpr ⟨(gw3 237 rfl rfl),
  List.forall_mem_cons.mpr ⟨(gw3 238 rfl rfl),
  List.forall_mem_cons.mpr ⟨(gw4 2 rfl rfl),
  List.forall_mem_cons.mpr ⟨(gw4 6 rfl rfl),
  List.forall_mem_cons.mpr ⟨(gw4 10 rfl rfl),
  List.forall_mem_cons.mpr ⟨(gw4 14 rfl rfl),
  List.forall_mem_cons.mpr ⟨(gw4 18 rfl rfl),
  List.forall_mem_cons.mpr ⟨(gw4 19 rfl rfl),
  List.forall_mem_cons.mpr ⟨(gw4 23 rfl rfl),
  List.forall_mem_cons.mpr ⟨(gw4 27 rfl rfl),
  List.forall_mem_cons.mpr ⟨(gw4 31 rfl rfl),
  List.forall_mem_cons.mpr ⟨(gw4 35 rfl rfl),
  List.forall_mem_cons.mpr ⟨(gw4 40 rfl rfl),
  List.forall_mem_cons.mpr ⟨(gw4 44 rfl rfl),
  List.forall_mem_cons.mpr ⟨(gw4 48 rfl rfl),
  List.forall_mem_cons.mpr ⟨(gw4 55 rfl rfl),
  List.forall_mem_cons.mpr ⟨(gw4 59 rfl rfl),
  List.forall_mem_cons.mpr ⟨(gw4 63 rfl rfl),
  fun _ h => absurd h List.not_mem_nil⟩⟩⟩⟩⟩⟩⟩⟩⟩⟩⟩⟩⟩⟩⟩⟩⟩⟩⟩⟩⟩⟩⟩⟩⟩⟩⟩⟩⟩⟩⟩⟩
def mlL3 : List (Nat × Nat × Nat) := [(19, 89, 139), (11, 239, 138), (7, 31, 137), (7, 48, 128), (7, 52, 136), (19, 93, 151), (11, 251, 146), (11, 254, 148), (11, 329, 147), (11, 257, 149), (11, 260, 150), (19, 98, 160), (11, 263, 159), (7, 59, 157), (7, 62, 158), (19, 102, 163), (19, 106, 168), (11, 266, 166), (8, 41, 165), (8, 45, 126), (8, 50, 113), (8, 54, 138), (8, 76, 130), (8, 80, 131), (11, 269, 167), (19, 110, 172), (11, 282, 171), (8, 95, 167), (19, 114, 175), (11, 285, 174), (19, 118, 181), (11, 288, 178)]
set_option maxRecDepth 8000 in
theorem mlL3_ok : ∀ q ∈ mlL3, Jvm.Cond.methodLink (owN q.1) q.2.1 (yOf q.2.2) ∈ GW := List.forall_mem_cons.mpr ⟨(gw4 64 rfl rfl),
  List.forall_mem_cons.mpr ⟨(gw4 68 rfl rfl),
  List.forall_mem_cons.mpr ⟨(gw4 72 rfl rfl),
  List.forall_mem_cons.mpr ⟨(gw4 76 rfl rfl),
  List.forall_mem_cons.mpr ⟨(gw4 77 rfl rfl),
  List.forall_mem_cons.mpr ⟨(gw4 81 rfl rfl),
  List.forall_mem_cons.mpr ⟨(gw4 85 rfl rfl),
  List.forall_mem_cons.mpr ⟨(gw4 89 rfl rfl),
  List.forall_mem_cons.mpr ⟨(gw4 93 rfl rfl),
  List.forall_mem_cons.mpr ⟨(gw4 98 rfl rfl),
  List.forall_mem_cons.mpr ⟨(gw4 102 rfl rfl),
  List.forall_mem_cons.mpr ⟨(gw4 106 rfl rfl),
  List.forall_mem_cons.mpr ⟨(gw4 110 rfl rfl),
  List.forall_mem_cons.mpr ⟨(gw4 114 rfl rfl),
  List.forall_mem_cons.mpr ⟨(gw4 118 rfl rfl),
  List.forall_mem_cons.mpr ⟨(gw4 124 rfl rfl),
  List.forall_mem_cons.mpr ⟨(gw4 128 rfl rfl),
  List.forall_mem_cons.mpr ⟨(gw4 132 rfl rfl),
  List.forall_mem_cons.mpr ⟨(gw4 136 rfl rfl),
  List.forall_mem_cons.mpr ⟨(gw4 140 rfl rfl),
  List.forall_mem_cons.mpr ⟨(gw4 141 rfl rfl),
  List.forall_mem_cons.mpr ⟨(gw4 142 rfl rfl),
  List.forall_mem_cons.mpr ⟨(gw4 143 rfl rfl),
  List.forall_mem_cons.mpr ⟨(gw4 144 rfl rfl),
  List.forall_mem_cons.mpr ⟨(gw4 145 rfl rfl),
  List.forall_mem_cons.mpr ⟨(gw4 149 rfl rfl),
  List.forall_mem_cons.mpr ⟨(gw4 153 rfl rfl),
  List.forall_mem_cons.mpr ⟨(gw4 157 rfl rfl),
  List.forall_mem_cons.mpr ⟨(gw4 158 rfl rfl),
  List.forall_mem_cons.mpr ⟨(gw4 162 rfl rfl),
  List.forall_mem_cons.mpr ⟨(gw4 166 rfl rfl),
  List.forall_mem_cons.mpr ⟨(gw4 170 rfl rfl),
  fun _ h => absurd h List.not_mem_nil⟩⟩⟩⟩⟩⟩⟩⟩⟩⟩⟩⟩⟩⟩⟩⟩⟩⟩⟩⟩⟩⟩⟩⟩⟩⟩⟩⟩⟩⟩⟩⟩
def mlL4 : List (Nat × Nat × Nat) := [(11, 291, 180), (9, 44, 179), (19, 122, 189), (11, 295, 188), (9, 53, 186), (9, 57, 187), (19, 126, 196), (11, 304, 195), (9, 66, 194), (9, 49, 180), (9, 70, 188), (19, 130, 200), (11, 307, 199), (9, 73, 198), (19, 134, 206), (11, 310, 204), (10, 24, 202), (10, 44, 27), (10, 35, 203), (11, 317, 205), (19, 12, 12), (19, 17, 18), (12, 102, 17), (19, 21, 26), (12, 114, 24), (12, 120, 25), (19, 26, 33), (12, 124, 32), (19, 31, 37), (12, 128, 36), (19, 35, 50), (12, 132, 45)]
set_option maxRecDepth 8000 in
theorem mlL4_ok : ∀ q ∈ mlL4, Jvm.Cond.methodLink (owN q.1) q.2.1 (yOf q.2.2) ∈ GW := List.forall_mem_cons.mpr ⟨(gw4 173 rfl rfl),
  List.forall_mem_cons.mpr ⟨(gw4 178 rfl rfl),
  List.forall_mem_cons.mpr ⟨(gw4 182 rfl rfl),
  List.forall_mem_cons.mpr ⟨(gw4 186 rfl rfl),
  List.forall_mem_cons.mpr ⟨(gw4 190 rfl rfl),
  List.forall_mem_cons.mpr ⟨(gw4 194 rfl rfl),
  List.forall_mem_cons.mpr ⟨(gw4 197 rfl rfl),
  List.forall_mem_cons.mpr ⟨(gw4 201 rfl rfl),
  List.forall_mem_cons.mpr ⟨(gw4 205 rfl rfl),
  List.forall_mem_cons.mpr ⟨(gw4 209 rfl rfl),
  List.forall_mem_cons.mpr ⟨(gw4 210 rfl rfl),
  List.forall_mem_cons.mpr ⟨(gw4 211 rfl rfl),
  List.forall_mem_cons.mpr ⟨(gw4 215 rfl rfl),
  List.forall_mem_cons.mpr ⟨(gw4 219 rfl rfl),
  List.forall_mem_cons.mpr ⟨(gw4 227 rfl rfl),
  List.forall_mem_cons.mpr ⟨(gw4 231 rfl rfl),
  List.forall_mem_cons.mpr ⟨(gw4 235 rfl rfl),
  List.forall_mem_cons.mpr ⟨(gw4 238 rfl rfl),
  List.forall_mem_cons.mpr ⟨(gw4 239 rfl rfl),
  List.forall_mem_cons.mpr ⟨(gw5 4 rfl rfl),
  List.forall_mem_cons.mpr ⟨(gw5 11 rfl rfl),
  List.forall_mem_cons.mpr ⟨(gw5 142 rfl rfl),
  List.forall_mem_cons.mpr ⟨(gw5 147 rfl rfl),
  List.forall_mem_cons.mpr ⟨(gw5 151 rfl rfl),
  List.forall_mem_cons.mpr ⟨(gw5 155 rfl rfl),
  List.forall_mem_cons.mpr ⟨(gw5 160 rfl rfl),
  List.forall_mem_cons.mpr ⟨(gw5 164 rfl rfl),
  List.forall_mem_cons.mpr ⟨(gw5 168 rfl rfl),
  List.forall_mem_cons.mpr ⟨(gw5 172 rfl rfl),
  List.forall_mem_cons.mpr ⟨(gw5 176 rfl rfl),
  List.forall_mem_cons.mpr ⟨(gw5 180 rfl rfl),
  List.forall_mem_cons.mpr ⟨(gw5 184 rfl rfl),
  fun _ h => absurd h List.not_mem_nil⟩⟩⟩⟩⟩⟩⟩⟩⟩⟩⟩⟩⟩⟩⟩⟩⟩⟩⟩⟩⟩⟩⟩⟩⟩⟩⟩⟩⟩⟩⟩⟩
def mlL5 : List (Nat × Nat × Nat) := [(12, 135, 49), (12, 152, 48), (12, 144, 46), (12, 148, 47), (19, 39, 53), (19, 43, 57), (12, 138, 56), (19, 48, 59), (19, 52, 62), (19, 56, 65), (19, 60, 70), (19, 67, 73), (19, 71, 103), (12, 171, 94), (12, 227, 102), (12, 208, 95), (12, 211, 97), (12, 194, 96), (12, 202, 98), (12, 214, 99), (12, 217, 100), (12, 221, 101), (19, 76, 105), (19, 80, 111), (12, 233, 110), (12, 161, 109), (19, 84, 117), (12, 254, 115), (12, 240, 116), (19, 88, 135), (12, 246, 134), (12, 237, 133)]
set_option maxRecDepth 8000 in
theorem mlL5_ok : ∀ q ∈ mlL5, Jvm.Cond.methodLink (owN q.1) q.2.1 (yOf q.2.2) ∈ GW := List.forall_mem_cons.mpr ⟨(gw5 188 rfl rfl),
  List.forall_mem_cons.mpr ⟨(gw5 192 rfl rfl),
  List.forall_mem_cons.mpr ⟨(gw5 196 rfl rfl),
  List.forall_mem_cons.mpr ⟨(gw5 200 rfl rfl),
  List.forall_mem_cons.mpr ⟨(gw5 204 rfl rfl),
  List.forall_mem_cons.mpr ⟨(gw5 208 rfl rfl),
  List.forall_mem_cons.mpr ⟨(gw5 212 rfl rfl),
  List.forall_mem_cons.mpr ⟨(gw5 216 rfl rfl),
  List.forall_mem_cons.mpr ⟨(gw5 220 rfl rfl),
  List.forall_mem_cons.mpr ⟨(gw5 224 rfl rfl),
  List.forall_mem_cons.mpr ⟨(gw5 228 rfl rfl),
  List.forall_mem_cons.mpr ⟨(gw5 232 rfl rfl),
  List.forall_mem_cons.mpr ⟨(gw5 238 rfl rfl),
  List.forall_mem_cons.mpr ⟨(gw6 2 rfl rfl),
  List.forall_mem_cons.mpr ⟨(gw6 6 rfl rfl),
  List.forall_mem_cons.mpr ⟨(gw6 10 rfl rfl),
  List.forall_mem_cons.mpr ⟨(gw6 20 rfl rfl),
  List.forall_mem_cons.mpr ⟨(gw6 24 rfl rfl),
  List.forall_mem_cons.mpr ⟨(gw6 27 rfl rfl),
  List.forall_mem_cons.mpr ⟨(gw6 31 rfl rfl),
  List.forall_mem_cons.mpr ⟨(gw6 35 rfl rfl),
  List.forall_mem_cons.mpr ⟨(gw6 41 rfl rfl),
  List.forall_mem_cons.mpr ⟨(gw6 44 rfl rfl),
  List.forall_mem_cons.mpr ⟨(gw6 48 rfl rfl),
  List.forall_mem_cons.mpr ⟨(gw6 53 rfl rfl),
  List.forall_mem_cons.mpr ⟨(gw6 57 rfl rfl),
  List.forall_mem_cons.mpr ⟨(gw6 61 rfl rfl),
  List.forall_mem_cons.mpr ⟨(gw6 65 rfl rfl),
  List.forall_mem_cons.mpr ⟨(gw6 69 rfl rfl),
  List.forall_mem_cons.mpr ⟨(gw6 73 rfl rfl),
  List.forall_mem_cons.mpr ⟨(gw6 78 rfl rfl),
  List.forall_mem_cons.mpr ⟨(gw6 82 rfl rfl),
  fun _ h => absurd h List.not_mem_nil⟩⟩⟩⟩⟩⟩⟩⟩⟩⟩⟩⟩⟩⟩⟩⟩⟩⟩⟩⟩⟩⟩⟩⟩⟩⟩⟩⟩⟩⟩⟩⟩
def mlL6 : List (Nat × Nat × Nat) := [(19, 92, 145), (12, 261, 140), (12, 265, 141), (12, 268, 142), (12, 271, 144), (12, 250, 143), (19, 97, 156), (12, 278, 153), (12, 275, 152), (12, 281, 154), (12, 284, 155), (19, 101, 162), (12, 287, 161), (19, 105, 164), (19, 109, 170), (12, 290, 169), (19, 113, 173), (19, 117, 177), (12, 293, 176), (19, 121, 185), (12, 304, 184), (12, 299, 183), (12, 296, 182), (19, 125, 193), (12, 316, 191), (12, 307, 190), (12, 320, 192), (19, 129, 197), (19, 133, 201), (19, 137, 209), (12, 325, 207), (12, 328, 208)]
set_option maxRecDepth 8000 in
theorem mlL6_ok : ∀ q ∈ mlL6, Jvm.Cond.methodLink (owN q.1) q.2.1 (yOf q.2.2) ∈ GW := List.forall_mem_cons.mpr ⟨(gw6 86 rfl rfl),
  List.forall_mem_cons.mpr ⟨(gw6 91 rfl rfl),
  List.forall_mem_cons.mpr ⟨(gw6 95 rfl rfl),
  List.forall_mem_cons.mpr ⟨(gw6 99 rfl rfl),
  List.forall_mem_cons.mpr ⟨(gw6 103 rfl rfl),
  List.forall_mem_cons.mpr ⟨(gw6 107 rfl rfl),
  List.forall_mem_cons.mpr ⟨(gw6 111 rfl rfl),
  List.forall_mem_cons.mpr ⟨(gw6 115 rfl rfl),
  List.forall_mem_cons.mpr ⟨(gw6 119 rfl rfl),
  List.forall_mem_cons.mpr ⟨(gw6 123 rfl rfl),
  List.forall_mem_cons.mpr ⟨(gw6 127 rfl rfl),
  List.forall_mem_cons.mpr ⟨(gw6 131 rfl rfl),
  List.forall_mem_cons.mpr ⟨(gw6 135 rfl rfl),
  List.forall_mem_cons.mpr ⟨(gw6 138 rfl rfl),
  List.forall_mem_cons.mpr ⟨(gw6 142 rfl rfl),
  List.forall_mem_cons.mpr ⟨(gw6 146 rfl rfl),
  List.forall_mem_cons.mpr ⟨(gw6 150 rfl rfl),
  List.forall_mem_cons.mpr ⟨(gw6 154 rfl rfl),
  List.forall_mem_cons.mpr ⟨(gw6 158 rfl rfl),
  List.forall_mem_cons.mpr ⟨(gw6 162 rfl rfl),
  List.forall_mem_cons.mpr ⟨(gw6 167 rfl rfl),
  List.forall_mem_cons.mpr ⟨(gw6 171 rfl rfl),
  List.forall_mem_cons.mpr ⟨(gw6 175 rfl rfl),
  List.forall_mem_cons.mpr ⟨(gw6 179 rfl rfl),
  List.forall_mem_cons.mpr ⟨(gw6 183 rfl rfl),
  List.forall_mem_cons.mpr ⟨(gw6 187 rfl rfl),
  List.forall_mem_cons.mpr ⟨(gw6 191 rfl rfl),
  List.forall_mem_cons.mpr ⟨(gw6 194 rfl rfl),
  List.forall_mem_cons.mpr ⟨(gw6 198 rfl rfl),
  List.forall_mem_cons.mpr ⟨(gw6 203 rfl rfl),
  List.forall_mem_cons.mpr ⟨(gw6 207 rfl rfl),
  List.forall_mem_cons.mpr ⟨(gw6 211 rfl rfl),
  fun _ h => absurd h List.not_mem_nil⟩⟩⟩⟩⟩⟩⟩⟩⟩⟩⟩⟩⟩⟩⟩⟩⟩⟩⟩⟩⟩⟩⟩⟩⟩⟩⟩⟩⟩⟩⟩⟩
def mlL : List (Nat × Nat × Nat) := mlL0 ++ mlL1 ++ mlL2 ++ mlL3 ++ mlL4 ++ mlL5 ++ mlL6
theorem mlL_ok : ∀ q ∈ mlL, Jvm.Cond.methodLink (owN q.1) q.2.1 (yOf q.2.2) ∈ GW := fun q => fun h => (List.mem_append.mp h).elim (fun h => (List.mem_append.mp h).elim (fun h => (List.mem_append.mp h).elim (fun h => (List.mem_append.mp h).elim (fun h => (List.mem_append.mp h).elim (fun h => (List.mem_append.mp h).elim (mlL0_ok q) (mlL1_ok q)) (mlL2_ok q)) (mlL3_ok q)) (mlL4_ok q)) (mlL5_ok q)) (mlL6_ok q)
def fdr (ci k : Nat) : String × String × String × Bool := (cls_.getD ci ("", fld0, 0)).2.1 k
def flL0 : List (Nat × Nat × Nat × Nat) := [(0, 9, 0, 0), (0, 19, 0, 1), (0, 15, 0, 4), (1, 11, 1, 0), (1, 18, 1, 1), (2, 9, 2, 0), (2, 15, 2, 1), (2, 18, 2, 2), (3, 24, 3, 0), (3, 9, 3, 1), (3, 15, 3, 2), (3, 18, 3, 3), (3, 21, 3, 4), (3, 28, 3, 5), (4, 9, 4, 0), (4, 15, 4, 1), (4, 31, 4, 2), (4, 22, 4, 3), (4, 28, 4, 4), (4, 25, 4, 5), (4, 18, 4, 6), (5, 9, 5, 0), (5, 15, 5, 1), (5, 20, 5, 2), (5, 23, 5, 3), (6, 37, 6, 0), (6, 41, 6, 1), (6, 45, 6, 2), (6, 11, 6, 3), (6, 16, 6, 4), (6, 20, 6, 5), (6, 23, 6, 6)]
set_option maxRecDepth 8000 in
theorem flL0_ok : ∀ q ∈ flL0, Jvm.Cond.fieldLink (owN q.1) q.2.1 (fdr q.2.2.1 q.2.2.2).1 (fdr q.2.2.1 q.2.2.2).2.1 (fdr q.2.2.1 q.2.2.2).2.2.1 ∈ GW := List.forall_mem_cons.mpr ⟨(gw1 42 rfl rfl),
  List.forall_mem_cons.mpr ⟨(gw1 47 rfl rfl),
  List.forall_mem_cons.mpr ⟨(gw1 53 rfl rfl),
  List.forall_mem_cons.mpr ⟨(gw1 72 rfl rfl),
  List.forall_mem_cons.mpr ⟨(gw1 78 rfl rfl),
  List.forall_mem_cons.mpr ⟨(gw1 94 rfl rfl),
  List.forall_mem_cons.mpr ⟨(gw1 97 rfl rfl),
  List.forall_mem_cons.mpr ⟨(gw1 98 rfl rfl),
  List.forall_mem_cons.mpr ⟨(gw1 115 rfl rfl),
  List.forall_mem_cons.mpr ⟨(gw1 116 rfl rfl),
  List.forall_mem_cons.mpr ⟨(gw1 117 rfl rfl),
  List.forall_mem_cons.mpr ⟨(gw1 118 rfl rfl),
  List.forall_mem_cons.mpr ⟨(gw1 119 rfl rfl),
  List.forall_mem_cons.mpr ⟨(gw1 120 rfl rfl),
  List.forall_mem_cons.mpr ⟨(gw1 141 rfl rfl),
  List.forall_mem_cons.mpr ⟨(gw1 142 rfl rfl),
  List.forall_mem_cons.mpr ⟨(gw1 144 rfl rfl),
  List.forall_mem_cons.mpr ⟨(gw1 146 rfl rfl),
  List.forall_mem_cons.mpr ⟨(gw1 148 rfl rfl),
  List.forall_mem_cons.mpr ⟨(gw1 149 rfl rfl),
  List.forall_mem_cons.mpr ⟨(gw1 150 rfl rfl),
  List.forall_mem_cons.mpr ⟨(gw1 175 rfl rfl),
  List.forall_mem_cons.mpr ⟨(gw1 176 rfl rfl),
  List.forall_mem_cons.mpr ⟨(gw1 177 rfl rfl),
  List.forall_mem_cons.mpr ⟨(gw1 178 rfl rfl),
  List.forall_mem_cons.mpr ⟨(gw1 197 rfl rfl),
  List.forall_mem_cons.mpr ⟨(gw1 198 rfl rfl),
  List.forall_mem_cons.mpr ⟨(gw1 199 rfl rfl),
  List.forall_mem_cons.mpr ⟨(gw1 200 rfl rfl),
  List.forall_mem_cons.mpr ⟨(gw1 201 rfl rfl),
  List.forall_mem_cons.mpr ⟨(gw1 202 rfl rfl),
  List.forall_mem_cons.mpr ⟨(gw1 203 rfl rfl),
  fun _ h => absurd h List.not_mem_nil⟩⟩⟩⟩⟩⟩⟩⟩⟩⟩⟩⟩⟩⟩⟩⟩⟩⟩⟩⟩⟩⟩⟩⟩⟩⟩⟩⟩⟩⟩⟩⟩
def flL1 : List (Nat × Nat × Nat × Nat) := [(6, 27, 6, 7), (6, 30, 6, 8), (6, 33, 6, 9), (6, 83, 6, 10), (6, 88, 6, 11), (6, 91, 6, 12), (6, 94, 6, 13), (6, 98, 6, 14), (7, 27, 7, 0), (7, 9, 7, 1), (7, 15, 7, 2), (7, 18, 7, 3), (7, 21, 7, 4), (7, 24, 7, 5), (7, 35, 7, 6), (7, 39, 7, 7), (8, 19, 8, 0), (8, 23, 8, 1), (8, 27, 8, 2), (8, 11, 8, 3), (8, 16, 8, 4), (8, 31, 8, 5), (8, 83, 8, 6), (8, 86, 8, 7), (8, 89, 8, 8), (8, 92, 8, 9), (9, 23, 9, 0), (9, 11, 9, 1), (9, 16, 9, 2), (9, 20, 9, 3), (9, 60, 9, 4), (9, 63, 9, 5)]
set_option maxRecDepth 8000 in
theorem flL1_ok : ∀ q ∈ flL1, Jvm.Cond.fieldLink (owN q.1) q.2.1 (fdr q.2.2.1 q.2.2.2).1 (fdr q.2.2.1 q.2.2.2).2.1 (fdr q.2.2.1 q.2.2.2).2.2.1 ∈ GW := List.forall_mem_cons.mpr ⟨(gw1 204 rfl rfl),
  List.forall_mem_cons.mpr ⟨(gw1 205 rfl rfl),
  List.forall_mem_cons.mpr ⟨(gw1 206 rfl rfl),
  List.forall_mem_cons.mpr ⟨(gw1 209 rfl rfl),
  List.forall_mem_cons.mpr ⟨(gw1 210 rfl rfl),
  List.forall_mem_cons.mpr ⟨(gw1 212 rfl rfl),
  List.forall_mem_cons.mpr ⟨(gw1 213 rfl rfl),
  List.forall_mem_cons.mpr ⟨(gw1 214 rfl rfl),
  List.forall_mem_cons.mpr ⟨(gw2 13 rfl rfl),
  List.forall_mem_cons.mpr ⟨(gw2 14 rfl rfl),
  List.forall_mem_cons.mpr ⟨(gw2 15 rfl rfl),
  List.forall_mem_cons.mpr ⟨(gw2 16 rfl rfl),
  List.forall_mem_cons.mpr ⟨(gw2 17 rfl rfl),
  List.forall_mem_cons.mpr ⟨(gw2 20 rfl rfl),
  List.forall_mem_cons.mpr ⟨(gw2 23 rfl rfl),
  List.forall_mem_cons.mpr ⟨(gw2 26 rfl rfl),
  List.forall_mem_cons.mpr ⟨(gw2 52 rfl rfl),
  List.forall_mem_cons.mpr ⟨(gw2 53 rfl rfl),
  List.forall_mem_cons.mpr ⟨(gw2 54 rfl rfl),
  List.forall_mem_cons.mpr ⟨(gw2 55 rfl rfl),
  List.forall_mem_cons.mpr ⟨(gw2 56 rfl rfl),
  List.forall_mem_cons.mpr ⟨(gw2 57 rfl rfl),
  List.forall_mem_cons.mpr ⟨(gw2 59 rfl rfl),
  List.forall_mem_cons.mpr ⟨(gw2 61 rfl rfl),
  List.forall_mem_cons.mpr ⟨(gw2 63 rfl rfl),
  List.forall_mem_cons.mpr ⟨(gw2 65 rfl rfl),
  List.forall_mem_cons.mpr ⟨(gw2 94 rfl rfl),
  List.forall_mem_cons.mpr ⟨(gw2 95 rfl rfl),
  List.forall_mem_cons.mpr ⟨(gw2 96 rfl rfl),
  List.forall_mem_cons.mpr ⟨(gw2 98 rfl rfl),
  List.forall_mem_cons.mpr ⟨(gw2 99 rfl rfl),
  List.forall_mem_cons.mpr ⟨(gw2 101 rfl rfl),
  fun _ h => absurd h List.not_mem_nil⟩⟩⟩⟩⟩⟩⟩⟩⟩⟩⟩⟩⟩⟩⟩⟩⟩⟩⟩⟩⟩⟩⟩⟩⟩⟩⟩⟩⟩⟩⟩⟩
def flL2 : List (Nat × Nat × Nat × Nat) := [(10, 9, 10, 0), (10, 15, 10, 1), (10, 18, 10, 2), (10, 21, 10, 3), (10, 28, 10, 4), (10, 32, 10, 5), (11, 10, 11, 0), (11, 19, 11, 1), (11, 28, 11, 2), (11, 35, 11, 3), (11, 42, 11, 4), (11, 51, 11, 5), (11, 60, 11, 6), (11, 69, 11, 7), (11, 76, 11, 8), (11, 83, 11, 9), (12, 99, 12, 0), (12, 7, 12, 1), (12, 13, 12, 2), (12, 16, 12, 3), (12, 19, 12, 4), (12, 22, 12, 5), (12, 26, 12, 6), (12, 29, 12, 7), (12, 110, 12, 8), (12, 141, 12, 9), (12, 32, 12, 10), (12, 35, 12, 11), (12, 38, 12, 12), (12, 41, 12, 13), (12, 155, 12, 14), (12, 44, 12, 15)]
set_option maxRecDepth 8000 in
theorem flL2_ok : ∀ q ∈ flL2, Jvm.Cond.fieldLink (owN q.1) q.2.1 (fdr q.2.2.1 q.2.2.2).1 (fdr q.2.2.1 q.2.2.2).2.1 (fdr q.2.2.1 q.2.2.2).2.2.1 ∈ GW := List.forall_mem_cons.mpr ⟨(gw2 122 rfl rfl),
  List.forall_mem_cons.mpr ⟨(gw2 123 rfl rfl),
  List.forall_mem_cons.mpr ⟨(gw2 124 rfl rfl),
  List.forall_mem_cons.mpr ⟨(gw2 125 rfl rfl),
  List.forall_mem_cons.mpr ⟨(gw2 126 rfl rfl),
  List.forall_mem_cons.mpr ⟨(gw2 128 rfl rfl),
  List.forall_mem_cons.mpr ⟨(gw2 143 rfl rfl),
  List.forall_mem_cons.mpr ⟨(gw2 144 rfl rfl),
  List.forall_mem_cons.mpr ⟨(gw2 145 rfl rfl),
  List.forall_mem_cons.mpr ⟨(gw2 146 rfl rfl),
  List.forall_mem_cons.mpr ⟨(gw2 147 rfl rfl),
  List.forall_mem_cons.mpr ⟨(gw2 148 rfl rfl),
  List.forall_mem_cons.mpr ⟨(gw2 149 rfl rfl),
  List.forall_mem_cons.mpr ⟨(gw2 150 rfl rfl),
  List.forall_mem_cons.mpr ⟨(gw2 151 rfl rfl),
  List.forall_mem_cons.mpr ⟨(gw2 152 rfl rfl),
  List.forall_mem_cons.mpr ⟨(gw5 15 rfl rfl),
  List.forall_mem_cons.mpr ⟨(gw5 16 rfl rfl),
  List.forall_mem_cons.mpr ⟨(gw5 17 rfl rfl),
  List.forall_mem_cons.mpr ⟨(gw5 18 rfl rfl),
  List.forall_mem_cons.mpr ⟨(gw5 19 rfl rfl),
  List.forall_mem_cons.mpr ⟨(gw5 20 rfl rfl),
  List.forall_mem_cons.mpr ⟨(gw5 21 rfl rfl),
  List.forall_mem_cons.mpr ⟨(gw5 22 rfl rfl),
  List.forall_mem_cons.mpr ⟨(gw5 23 rfl rfl),
  List.forall_mem_cons.mpr ⟨(gw5 24 rfl rfl),
  List.forall_mem_cons.mpr ⟨(gw5 25 rfl rfl),
  List.forall_mem_cons.mpr ⟨(gw5 26 rfl rfl),
  List.forall_mem_cons.mpr ⟨(gw5 27 rfl rfl),
  List.forall_mem_cons.mpr ⟨(gw5 28 rfl rfl),
  List.forall_mem_cons.mpr ⟨(gw5 29 rfl rfl),
  List.forall_mem_cons.mpr ⟨(gw5 30 rfl rfl),
  fun _ h => absurd h List.not_mem_nil⟩⟩⟩⟩⟩⟩⟩⟩⟩⟩⟩⟩⟩⟩⟩⟩⟩⟩⟩⟩⟩⟩⟩⟩⟩⟩⟩⟩⟩⟩⟩⟩
def flL3 : List (Nat × Nat × Nat × Nat) := [(12, 47, 12, 16), (12, 224, 12, 17), (12, 50, 12, 18), (12, 53, 12, 19), (12, 56, 12, 20), (12, 59, 12, 21), (12, 62, 12, 22), (12, 158, 12, 23), (12, 65, 12, 24), (12, 168, 12, 25), (12, 175, 12, 26), (12, 179, 12, 27), (12, 205, 12, 28), (12, 69, 12, 29), (12, 243, 12, 30), (12, 72, 12, 31), (12, 75, 12, 32), (12, 78, 12, 33), (12, 81, 12, 34), (12, 310, 12, 35), (12, 313, 12, 36), (12, 84, 12, 37), (12, 87, 12, 38), (12, 90, 12, 39), (12, 93, 12, 40), (12, 96, 12, 41)]
set_option maxRecDepth 8000 in
theorem flL3_ok : ∀ q ∈ flL3, Jvm.Cond.fieldLink (owN q.1) q.2.1 (fdr q.2.2.1 q.2.2.2).1 (fdr q.2.2.1 q.2.2.2).2.1 (fdr q.2.2.1 q.2.2.2).2.2.1 ∈ GW := List.forall_mem_cons.mpr ⟨(gw5 31 rfl rfl),
  List.forall_mem_cons.mpr ⟨(gw5 32 rfl rfl),
  List.forall_mem_cons.mpr ⟨(gw5 33 rfl rfl),
  List.forall_mem_cons.mpr ⟨(gw5 34 rfl rfl),
  List.forall_mem_cons.mpr ⟨(gw5 35 rfl rfl),
  List.forall_mem_cons.mpr ⟨(gw5 36 rfl rfl),
  List.forall_mem_cons.mpr ⟨(gw5 37 rfl rfl),
  List.forall_mem_cons.mpr ⟨(gw5 38 rfl rfl),
  List.forall_mem_cons.mpr ⟨(gw5 39 rfl rfl),
  List.forall_mem_cons.mpr ⟨(gw5 40 rfl rfl),
  List.forall_mem_cons.mpr ⟨(gw5 41 rfl rfl),
  List.forall_mem_cons.mpr ⟨(gw5 42 rfl rfl),
  List.forall_mem_cons.mpr ⟨(gw5 43 rfl rfl),
  List.forall_mem_cons.mpr ⟨(gw5 44 rfl rfl),
  List.forall_mem_cons.mpr ⟨(gw5 45 rfl rfl),
  List.forall_mem_cons.mpr ⟨(gw5 46 rfl rfl),
  List.forall_mem_cons.mpr ⟨(gw5 47 rfl rfl),
  List.forall_mem_cons.mpr ⟨(gw5 48 rfl rfl),
  List.forall_mem_cons.mpr ⟨(gw5 49 rfl rfl),
  List.forall_mem_cons.mpr ⟨(gw5 50 rfl rfl),
  List.forall_mem_cons.mpr ⟨(gw5 51 rfl rfl),
  List.forall_mem_cons.mpr ⟨(gw5 52 rfl rfl),
  List.forall_mem_cons.mpr ⟨(gw5 53 rfl rfl),
  List.forall_mem_cons.mpr ⟨(gw5 54 rfl rfl),
  List.forall_mem_cons.mpr ⟨(gw5 55 rfl rfl),
  List.forall_mem_cons.mpr ⟨(gw5 56 rfl rfl),
  fun _ h => absurd h List.not_mem_nil⟩⟩⟩⟩⟩⟩⟩⟩⟩⟩⟩⟩⟩⟩⟩⟩⟩⟩⟩⟩⟩⟩⟩⟩⟩⟩
def flL : List (Nat × Nat × Nat × Nat) := flL0 ++ flL1 ++ flL2 ++ flL3
theorem flL_ok : ∀ q ∈ flL, Jvm.Cond.fieldLink (owN q.1) q.2.1 (fdr q.2.2.1 q.2.2.2).1 (fdr q.2.2.1 q.2.2.2).2.1 (fdr q.2.2.1 q.2.2.2).2.2.1 ∈ GW := fun q => fun h => (List.mem_append.mp h).elim (fun h => (List.mem_append.mp h).elim (fun h => (List.mem_append.mp h).elim (flL0_ok q) (flL1_ok q)) (flL2_ok q)) (flL3_ok q)
def NW : List Jvm.Cond := [Jvm.Cond.methodLinkNest "BorrowedWords$Shelf" 17 ⟨"BorrowedWords$Text", "<init>", "()V"⟩ "BorrowedWords",
  Jvm.Cond.methodLinkNest "BorrowedWords" 34 ⟨"BorrowedWords$RuleReader", "<init>", "()V"⟩ "BorrowedWords",
  Jvm.Cond.methodLinkNest "BorrowedWords" 41 ⟨"BorrowedWords$RuleBook", "<init>", "()V"⟩ "BorrowedWords",
  Jvm.Cond.methodLinkNest "BorrowedWords" 82 ⟨"BorrowedWords$Sentences", "<init>", "()V"⟩ "BorrowedWords",
  Jvm.Cond.methodLinkNest "BorrowedWords$Sentences" 48 ⟨"BorrowedWords$Text", "repeats", "(ILBorrowedWords$Text;II)Z"⟩ "BorrowedWords",
  Jvm.Cond.fieldLinkNest "BorrowedWords$RowTable" 41 "BorrowedWords$Text" "words" "[I" "BorrowedWords",
  Jvm.Cond.fieldLinkNest "BorrowedWords$Runs" 102 "BorrowedWords$Text" "words" "[I" "BorrowedWords",
  Jvm.Cond.fieldLinkNest "BorrowedWords" 143 "BorrowedWords$Text" "words" "[I" "BorrowedWords",
  Jvm.Cond.fieldLinkNest "BorrowedWords" 129 "BorrowedWords$Text" "stops" "J" "BorrowedWords",
  Jvm.Cond.fieldLinkNest "BorrowedWords$Shelf" 22 "BorrowedWords$Text" "writer" "I" "BorrowedWords",
  Jvm.Cond.fieldLinkNest "BorrowedWords" 150 "BorrowedWords$Text" "writer" "I" "BorrowedWords",
  Jvm.Cond.fieldLinkNest "BorrowedWords$Runs" 55 "BorrowedWords$Text" "day" "I" "BorrowedWords",
  Jvm.Cond.fieldLinkNest "BorrowedWords$Shelf" 25 "BorrowedWords$Text" "day" "I" "BorrowedWords",
  Jvm.Cond.fieldLinkNest "BorrowedWords" 153 "BorrowedWords$Text" "day" "I" "BorrowedWords",
  Jvm.Cond.fieldLinkNest "BorrowedWords$RowTable" 33 "BorrowedWords$Text" "size" "I" "BorrowedWords",
  Jvm.Cond.fieldLinkNest "BorrowedWords$Sentences" 39 "BorrowedWords$Text" "size" "I" "BorrowedWords",
  Jvm.Cond.fieldLinkNest "BorrowedWords$Ways" 63 "BorrowedWords$Text" "size" "I" "BorrowedWords",
  Jvm.Cond.fieldLinkNest "BorrowedWords" 121 "BorrowedWords$Text" "size" "I" "BorrowedWords",
  Jvm.Cond.fieldLinkNest "BorrowedWords$Shelf" 28 "BorrowedWords$Text" "size" "I" "BorrowedWords",
  Jvm.Cond.fieldLinkNest "BorrowedWords$Runs" 101 "BorrowedWords$Text" "size" "I" "BorrowedWords",
  Jvm.Cond.fieldLinkNest "BorrowedWords$Runs" 49 "BorrowedWords$Shelf" "texts" "[LBorrowedWords$Text;" "BorrowedWords",
  Jvm.Cond.fieldLinkNest "BorrowedWords$RowTable" 27 "BorrowedWords$Shelf" "texts" "[LBorrowedWords$Text;" "BorrowedWords",
  Jvm.Cond.fieldLinkNest "BorrowedWords" 108 "BorrowedWords$Shelf" "texts" "[LBorrowedWords$Text;" "BorrowedWords",
  Jvm.Cond.fieldLinkNest "BorrowedWords$Ways" 59 "BorrowedWords$Shelf" "texts" "[LBorrowedWords$Text;" "BorrowedWords",
  Jvm.Cond.fieldLinkNest "BorrowedWords$Marks" 38 "BorrowedWords$Shelf" "texts" "[LBorrowedWords$Text;" "BorrowedWords",
  Jvm.Cond.fieldLinkNest "BorrowedWords$Ways" 35 "BorrowedWords$Shelf" "size" "I" "BorrowedWords",
  Jvm.Cond.fieldLinkNest "BorrowedWords" 91 "BorrowedWords$Shelf" "size" "I" "BorrowedWords",
  Jvm.Cond.fieldLinkNest "BorrowedWords$Runs" 66 "BorrowedWords$Shelf" "size" "I" "BorrowedWords",
  Jvm.Cond.fieldLinkNest "BorrowedWords$RowTable" 48 "BorrowedWords$Shelf" "size" "I" "BorrowedWords",
  Jvm.Cond.fieldLinkNest "BorrowedWords$Runs" 115 "BorrowedWords$Lexicon" "meaning" "[I" "BorrowedWords",
  Jvm.Cond.fieldLinkNest "BorrowedWords" 166 "BorrowedWords$Lexicon" "meaning" "[I" "BorrowedWords",
  Jvm.Cond.fieldLinkNest "BorrowedWords$Runs" 109 "BorrowedWords$Lexicon" "isCommon" "[Z" "BorrowedWords",
  Jvm.Cond.fieldLinkNest "BorrowedWords" 172 "BorrowedWords$Lexicon" "isCommon" "[Z" "BorrowedWords",
  Jvm.Cond.fieldLinkNest "BorrowedWords" 176 "BorrowedWords$Marks" "size" "I" "BorrowedWords",
  Jvm.Cond.fieldLinkNest "BorrowedWords" 205 "BorrowedWords$RuleReader" "told" "[I" "BorrowedWords",
  Jvm.Cond.fieldLinkNest "BorrowedWords" 208 "BorrowedWords$RuleReader" "struck" "I" "BorrowedWords",
  Jvm.Cond.fieldLinkNest "BorrowedWords" 190 "BorrowedWords$RuleReader" "length" "I" "BorrowedWords",
  Jvm.Cond.fieldLinkNest "BorrowedWords" 214 "BorrowedWords$RuleReader" "faultPlace" "I" "BorrowedWords",
  Jvm.Cond.fieldLinkNest "BorrowedWords" 189 "BorrowedWords$RuleBook" "size" "I" "BorrowedWords",
  Jvm.Cond.fieldLinkNest "BorrowedWords" 335 "BorrowedWords$Runs" "looked" "I" "BorrowedWords",
  Jvm.Cond.fieldLinkNest "BorrowedWords$Explanation" 43 "BorrowedWords$Runs" "size" "I" "BorrowedWords",
  Jvm.Cond.fieldLinkNest "BorrowedWords$Explanation" 56 "BorrowedWords$Runs" "least" "I" "BorrowedWords",
  Jvm.Cond.fieldLinkNest "BorrowedWords$Ways" 69 "BorrowedWords$Explanation" "starts" "[I" "BorrowedWords",
  Jvm.Cond.fieldLinkNest "BorrowedWords" 245 "BorrowedWords$Explanation" "starts" "[I" "BorrowedWords",
  Jvm.Cond.fieldLinkNest "BorrowedWords$Ways" 73 "BorrowedWords$Explanation" "sizes" "[I" "BorrowedWords",
  Jvm.Cond.fieldLinkNest "BorrowedWords" 248 "BorrowedWords$Explanation" "sizes" "[I" "BorrowedWords",
  Jvm.Cond.fieldLinkNest "BorrowedWords$Ways" 66 "BorrowedWords$Explanation" "pieces" "I" "BorrowedWords",
  Jvm.Cond.fieldLinkNest "BorrowedWords" 242 "BorrowedWords$Explanation" "pieces" "I" "BorrowedWords",
  Jvm.Cond.fieldLinkNest "BorrowedWords" 326 "BorrowedWords$Explanation" "taken" "J" "BorrowedWords",
  Jvm.Cond.fieldLinkNest "BorrowedWords" 338 "BorrowedWords$Ways" "known" "Z" "BorrowedWords",
  Jvm.Cond.fieldLinkNest "BorrowedWords" 273 "BorrowedWords$Ways" "endText" "I" "BorrowedWords",
  Jvm.Cond.fieldLinkNest "BorrowedWords" 276 "BorrowedWords$Ways" "endPlace" "I" "BorrowedWords",
  Jvm.Cond.fieldLinkNest "BorrowedWords" 279 "BorrowedWords$Ways" "steps" "I" "BorrowedWords",
  Jvm.Cond.fieldLinkNest "BorrowedWords" 294 "BorrowedWords$RowTable" "sizes" "[I" "BorrowedWords",
  Jvm.Cond.fieldLinkNest "BorrowedWords" 298 "BorrowedWords$RowTable" "upper" "I" "BorrowedWords",
  Jvm.Cond.fieldLinkNest "BorrowedWords" 301 "BorrowedWords$RowTable" "lower" "I" "BorrowedWords",
  Jvm.Cond.fieldLinkNest "BorrowedWords" 320 "BorrowedWords$Sentences" "countOfX" "I" "BorrowedWords",
  Jvm.Cond.fieldLinkNest "BorrowedWords" 314 "BorrowedWords$Sentences" "kept" "I" "BorrowedWords",
  Jvm.Cond.fieldLinkNest "BorrowedWords$RuleReader" 66 "BorrowedWords" "LOWEST" "[I" "BorrowedWords",
  Jvm.Cond.fieldLinkNest "BorrowedWords$RuleReader" 69 "BorrowedWords" "HIGHEST" "[I" "BorrowedWords",
  Jvm.Cond.fieldLinkNest "BorrowedWords$RuleBook" 31 "BorrowedWords" "AT_FIRST" "[I" "BorrowedWords"]
set_option maxRecDepth 8000 in
theorem NW_tb : ∀ w ∈ NW, w ∈ tables_1 := List.forall_mem_cons.mpr ⟨(tb1 (List.mem_of_getElem? (i := 38) rfl)),
  List.forall_mem_cons.mpr ⟨(tb1 (List.mem_of_getElem? (i := 137) rfl)),
  List.forall_mem_cons.mpr ⟨(tb1 (List.mem_of_getElem? (i := 169) rfl)),
  List.forall_mem_cons.mpr ⟨(tb2 (List.mem_of_getElem? (i := 118) rfl)),
  List.forall_mem_cons.mpr ⟨(tb5 (List.mem_of_getElem? (i := 3) rfl)),
  List.forall_mem_cons.mpr ⟨(tb1 (List.mem_of_getElem? (i := 43) rfl)),
  List.forall_mem_cons.mpr ⟨(tb1 (List.mem_of_getElem? (i := 44) rfl)),
  List.forall_mem_cons.mpr ⟨(tb1 (List.mem_of_getElem? (i := 45) rfl)),
  List.forall_mem_cons.mpr ⟨(tb1 (List.mem_of_getElem? (i := 46) rfl)),
  List.forall_mem_cons.mpr ⟨(tb1 (List.mem_of_getElem? (i := 48) rfl)),
  List.forall_mem_cons.mpr ⟨(tb1 (List.mem_of_getElem? (i := 49) rfl)),
  List.forall_mem_cons.mpr ⟨(tb1 (List.mem_of_getElem? (i := 50) rfl)),
  List.forall_mem_cons.mpr ⟨(tb1 (List.mem_of_getElem? (i := 51) rfl)),
  List.forall_mem_cons.mpr ⟨(tb1 (List.mem_of_getElem? (i := 52) rfl)),
  List.forall_mem_cons.mpr ⟨(tb1 (List.mem_of_getElem? (i := 54) rfl)),
  List.forall_mem_cons.mpr ⟨(tb1 (List.mem_of_getElem? (i := 55) rfl)),
  List.forall_mem_cons.mpr ⟨(tb1 (List.mem_of_getElem? (i := 56) rfl)),
  List.forall_mem_cons.mpr ⟨(tb1 (List.mem_of_getElem? (i := 57) rfl)),
  List.forall_mem_cons.mpr ⟨(tb1 (List.mem_of_getElem? (i := 58) rfl)),
  List.forall_mem_cons.mpr ⟨(tb1 (List.mem_of_getElem? (i := 59) rfl)),
  List.forall_mem_cons.mpr ⟨(tb1 (List.mem_of_getElem? (i := 73) rfl)),
  List.forall_mem_cons.mpr ⟨(tb1 (List.mem_of_getElem? (i := 74) rfl)),
  List.forall_mem_cons.mpr ⟨(tb1 (List.mem_of_getElem? (i := 75) rfl)),
  List.forall_mem_cons.mpr ⟨(tb1 (List.mem_of_getElem? (i := 76) rfl)),
  List.forall_mem_cons.mpr ⟨(tb1 (List.mem_of_getElem? (i := 77) rfl)),
  List.forall_mem_cons.mpr ⟨(tb1 (List.mem_of_getElem? (i := 79) rfl)),
  List.forall_mem_cons.mpr ⟨(tb1 (List.mem_of_getElem? (i := 80) rfl)),
  List.forall_mem_cons.mpr ⟨(tb1 (List.mem_of_getElem? (i := 81) rfl)),
  List.forall_mem_cons.mpr ⟨(tb1 (List.mem_of_getElem? (i := 82) rfl)),
  List.forall_mem_cons.mpr ⟨(tb1 (List.mem_of_getElem? (i := 95) rfl)),
  List.forall_mem_cons.mpr ⟨(tb1 (List.mem_of_getElem? (i := 96) rfl)),
  List.forall_mem_cons.mpr ⟨(tb1 (List.mem_of_getElem? (i := 99) rfl)),
  List.forall_mem_cons.mpr ⟨(tb1 (List.mem_of_getElem? (i := 100) rfl)),
  List.forall_mem_cons.mpr ⟨(tb1 (List.mem_of_getElem? (i := 121) rfl)),
  List.forall_mem_cons.mpr ⟨(tb1 (List.mem_of_getElem? (i := 143) rfl)),
  List.forall_mem_cons.mpr ⟨(tb1 (List.mem_of_getElem? (i := 145) rfl)),
  List.forall_mem_cons.mpr ⟨(tb1 (List.mem_of_getElem? (i := 147) rfl)),
  List.forall_mem_cons.mpr ⟨(tb1 (List.mem_of_getElem? (i := 151) rfl)),
  List.forall_mem_cons.mpr ⟨(tb1 (List.mem_of_getElem? (i := 179) rfl)),
  List.forall_mem_cons.mpr ⟨(tb1 (List.mem_of_getElem? (i := 207) rfl)),
  List.forall_mem_cons.mpr ⟨(tb1 (List.mem_of_getElem? (i := 208) rfl)),
  List.forall_mem_cons.mpr ⟨(tb1 (List.mem_of_getElem? (i := 211) rfl)),
  List.forall_mem_cons.mpr ⟨(tb2 (List.mem_of_getElem? (i := 18) rfl)),
  List.forall_mem_cons.mpr ⟨(tb2 (List.mem_of_getElem? (i := 19) rfl)),
  List.forall_mem_cons.mpr ⟨(tb2 (List.mem_of_getElem? (i := 21) rfl)),
  List.forall_mem_cons.mpr ⟨(tb2 (List.mem_of_getElem? (i := 22) rfl)),
  List.forall_mem_cons.mpr ⟨(tb2 (List.mem_of_getElem? (i := 24) rfl)),
  List.forall_mem_cons.mpr ⟨(tb2 (List.mem_of_getElem? (i := 25) rfl)),
  List.forall_mem_cons.mpr ⟨(tb2 (List.mem_of_getElem? (i := 27) rfl)),
  List.forall_mem_cons.mpr ⟨(tb2 (List.mem_of_getElem? (i := 58) rfl)),
  List.forall_mem_cons.mpr ⟨(tb2 (List.mem_of_getElem? (i := 60) rfl)),
  List.forall_mem_cons.mpr ⟨(tb2 (List.mem_of_getElem? (i := 62) rfl)),
  List.forall_mem_cons.mpr ⟨(tb2 (List.mem_of_getElem? (i := 64) rfl)),
  List.forall_mem_cons.mpr ⟨(tb2 (List.mem_of_getElem? (i := 97) rfl)),
  List.forall_mem_cons.mpr ⟨(tb2 (List.mem_of_getElem? (i := 100) rfl)),
  List.forall_mem_cons.mpr ⟨(tb2 (List.mem_of_getElem? (i := 102) rfl)),
  List.forall_mem_cons.mpr ⟨(tb2 (List.mem_of_getElem? (i := 127) rfl)),
  List.forall_mem_cons.mpr ⟨(tb2 (List.mem_of_getElem? (i := 129) rfl)),
  List.forall_mem_cons.mpr ⟨(tb3 (List.mem_of_getElem? (i := 197) rfl)),
  List.forall_mem_cons.mpr ⟨(tb3 (List.mem_of_getElem? (i := 199) rfl)),
  List.forall_mem_cons.mpr ⟨(tb3 (List.mem_of_getElem? (i := 222) rfl)),
  fun _ h => absurd h List.not_mem_nil⟩⟩⟩⟩⟩⟩⟩⟩⟩⟩⟩⟩⟩⟩⟩⟩⟩⟩⟩⟩⟩⟩⟩⟩⟩⟩⟩⟩⟩⟩⟩⟩⟩⟩⟩⟩⟩⟩⟩⟩⟩⟩⟩⟩⟩⟩⟩⟩⟩⟩⟩⟩⟩⟩⟩⟩⟩⟩⟩⟩⟩
def mnL : List (Nat × Nat × Nat) := [(1, 17, 0), (11, 34, 4), (11, 41, 5), (11, 82, 10), (10, 48, 40)]
set_option maxRecDepth 8000 in
theorem mnL_ok : ∀ q ∈ mnL, Jvm.Cond.methodLinkNest (owN q.1) q.2.1 (yOf q.2.2) "BorrowedWords" ∈ NW := List.forall_mem_cons.mpr ⟨(List.mem_of_getElem? (i := 0) rfl),
  List.forall_mem_cons.mpr ⟨(List.mem_of_getElem? (i := 1) rfl),
  List.forall_mem_cons.mpr ⟨(List.mem_of_getElem? (i := 2) rfl),
  List.forall_mem_cons.mpr ⟨(List.mem_of_getElem? (i := 3) rfl),
  List.forall_mem_cons.mpr ⟨(List.mem_of_getElem? (i := 4) rfl),
  fun _ h => absurd h List.not_mem_nil⟩⟩⟩⟩⟩
def fnL0 : List (Nat × Nat × Nat × Nat) := [(9, 41, 0, 0), (6, 102, 0, 0), (11, 143, 0, 0), (11, 129, 0, 1), (1, 22, 0, 2), (11, 150, 0, 2), (6, 55, 0, 3), (1, 25, 0, 3), (11, 153, 0, 3), (9, 33, 0, 4), (10, 39, 0, 4), (8, 63, 0, 4), (11, 121, 0, 4), (1, 28, 0, 4), (6, 101, 0, 4), (6, 49, 1, 0), (9, 27, 1, 0), (11, 108, 1, 0), (8, 59, 1, 0), (3, 38, 1, 0), (8, 35, 1, 1), (11, 91, 1, 1), (6, 66, 1, 1), (9, 48, 1, 1), (6, 115, 2, 0), (11, 166, 2, 0), (6, 109, 2, 2), (11, 172, 2, 2), (11, 176, 3, 5), (11, 205, 4, 1), (11, 208, 4, 2), (11, 190, 4, 3)]
set_option maxRecDepth 8000 in
theorem fnL0_ok : ∀ q ∈ fnL0, Jvm.Cond.fieldLinkNest (owN q.1) q.2.1 (fdr q.2.2.1 q.2.2.2).1 (fdr q.2.2.1 q.2.2.2).2.1 (fdr q.2.2.1 q.2.2.2).2.2.1 "BorrowedWords" ∈ NW := List.forall_mem_cons.mpr ⟨(List.mem_of_getElem? (i := 5) rfl),
  List.forall_mem_cons.mpr ⟨(List.mem_of_getElem? (i := 6) rfl),
  List.forall_mem_cons.mpr ⟨(List.mem_of_getElem? (i := 7) rfl),
  List.forall_mem_cons.mpr ⟨(List.mem_of_getElem? (i := 8) rfl),
  List.forall_mem_cons.mpr ⟨(List.mem_of_getElem? (i := 9) rfl),
  List.forall_mem_cons.mpr ⟨(List.mem_of_getElem? (i := 10) rfl),
  List.forall_mem_cons.mpr ⟨(List.mem_of_getElem? (i := 11) rfl),
  List.forall_mem_cons.mpr ⟨(List.mem_of_getElem? (i := 12) rfl),
  List.forall_mem_cons.mpr ⟨(List.mem_of_getElem? (i := 13) rfl),
  List.forall_mem_cons.mpr ⟨(List.mem_of_getElem? (i := 14) rfl),
  List.forall_mem_cons.mpr ⟨(List.mem_of_getElem? (i := 15) rfl),
  List.forall_mem_cons.mpr ⟨(List.mem_of_getElem? (i := 16) rfl),
  List.forall_mem_cons.mpr ⟨(List.mem_of_getElem? (i := 17) rfl),
  List.forall_mem_cons.mpr ⟨(List.mem_of_getElem? (i := 18) rfl),
  List.forall_mem_cons.mpr ⟨(List.mem_of_getElem? (i := 19) rfl),
  List.forall_mem_cons.mpr ⟨(List.mem_of_getElem? (i := 20) rfl),
  List.forall_mem_cons.mpr ⟨(List.mem_of_getElem? (i := 21) rfl),
  List.forall_mem_cons.mpr ⟨(List.mem_of_getElem? (i := 22) rfl),
  List.forall_mem_cons.mpr ⟨(List.mem_of_getElem? (i := 23) rfl),
  List.forall_mem_cons.mpr ⟨(List.mem_of_getElem? (i := 24) rfl),
  List.forall_mem_cons.mpr ⟨(List.mem_of_getElem? (i := 25) rfl),
  List.forall_mem_cons.mpr ⟨(List.mem_of_getElem? (i := 26) rfl),
  List.forall_mem_cons.mpr ⟨(List.mem_of_getElem? (i := 27) rfl),
  List.forall_mem_cons.mpr ⟨(List.mem_of_getElem? (i := 28) rfl),
  List.forall_mem_cons.mpr ⟨(List.mem_of_getElem? (i := 29) rfl),
  List.forall_mem_cons.mpr ⟨(List.mem_of_getElem? (i := 30) rfl),
  List.forall_mem_cons.mpr ⟨(List.mem_of_getElem? (i := 31) rfl),
  List.forall_mem_cons.mpr ⟨(List.mem_of_getElem? (i := 32) rfl),
  List.forall_mem_cons.mpr ⟨(List.mem_of_getElem? (i := 33) rfl),
  List.forall_mem_cons.mpr ⟨(List.mem_of_getElem? (i := 34) rfl),
  List.forall_mem_cons.mpr ⟨(List.mem_of_getElem? (i := 35) rfl),
  List.forall_mem_cons.mpr ⟨(List.mem_of_getElem? (i := 36) rfl),
  fun _ h => absurd h List.not_mem_nil⟩⟩⟩⟩⟩⟩⟩⟩⟩⟩⟩⟩⟩⟩⟩⟩⟩⟩⟩⟩⟩⟩⟩⟩⟩⟩⟩⟩⟩⟩⟩⟩
def fnL1 : List (Nat × Nat × Nat × Nat) := [(11, 214, 4, 6), (11, 189, 5, 3), (11, 335, 6, 9), (7, 43, 6, 10), (7, 56, 6, 11), (8, 69, 7, 4), (11, 245, 7, 4), (8, 73, 7, 5), (11, 248, 7, 5), (8, 66, 7, 6), (11, 242, 7, 6), (11, 326, 7, 7), (11, 338, 8, 5), (11, 273, 8, 6), (11, 276, 8, 7), (11, 279, 8, 8), (11, 294, 9, 2), (11, 298, 9, 4), (11, 301, 9, 5), (11, 320, 10, 4), (11, 314, 10, 5)]
set_option maxRecDepth 8000 in
theorem fnL1_ok : ∀ q ∈ fnL1, Jvm.Cond.fieldLinkNest (owN q.1) q.2.1 (fdr q.2.2.1 q.2.2.2).1 (fdr q.2.2.1 q.2.2.2).2.1 (fdr q.2.2.1 q.2.2.2).2.2.1 "BorrowedWords" ∈ NW := List.forall_mem_cons.mpr ⟨(List.mem_of_getElem? (i := 37) rfl),
  List.forall_mem_cons.mpr ⟨(List.mem_of_getElem? (i := 38) rfl),
  List.forall_mem_cons.mpr ⟨(List.mem_of_getElem? (i := 39) rfl),
  List.forall_mem_cons.mpr ⟨(List.mem_of_getElem? (i := 40) rfl),
  List.forall_mem_cons.mpr ⟨(List.mem_of_getElem? (i := 41) rfl),
  List.forall_mem_cons.mpr ⟨(List.mem_of_getElem? (i := 42) rfl),
  List.forall_mem_cons.mpr ⟨(List.mem_of_getElem? (i := 43) rfl),
  List.forall_mem_cons.mpr ⟨(List.mem_of_getElem? (i := 44) rfl),
  List.forall_mem_cons.mpr ⟨(List.mem_of_getElem? (i := 45) rfl),
  List.forall_mem_cons.mpr ⟨(List.mem_of_getElem? (i := 46) rfl),
  List.forall_mem_cons.mpr ⟨(List.mem_of_getElem? (i := 47) rfl),
  List.forall_mem_cons.mpr ⟨(List.mem_of_getElem? (i := 48) rfl),
  List.forall_mem_cons.mpr ⟨(List.mem_of_getElem? (i := 49) rfl),
  List.forall_mem_cons.mpr ⟨(List.mem_of_getElem? (i := 50) rfl),
  List.forall_mem_cons.mpr ⟨(List.mem_of_getElem? (i := 51) rfl),
  List.forall_mem_cons.mpr ⟨(List.mem_of_getElem? (i := 52) rfl),
  List.forall_mem_cons.mpr ⟨(List.mem_of_getElem? (i := 53) rfl),
  List.forall_mem_cons.mpr ⟨(List.mem_of_getElem? (i := 54) rfl),
  List.forall_mem_cons.mpr ⟨(List.mem_of_getElem? (i := 55) rfl),
  List.forall_mem_cons.mpr ⟨(List.mem_of_getElem? (i := 56) rfl),
  List.forall_mem_cons.mpr ⟨(List.mem_of_getElem? (i := 57) rfl),
  fun _ h => absurd h List.not_mem_nil⟩⟩⟩⟩⟩⟩⟩⟩⟩⟩⟩⟩⟩⟩⟩⟩⟩⟩⟩⟩⟩
def fnL : List (Nat × Nat × Nat × Nat) := fnL0 ++ fnL1
theorem fnL_ok : ∀ q ∈ fnL, Jvm.Cond.fieldLinkNest (owN q.1) q.2.1 (fdr q.2.2.1 q.2.2.2).1 (fdr q.2.2.1 q.2.2.2).2.1 (fdr q.2.2.1 q.2.2.2).2.2.1 "BorrowedWords" ∈ NW := fun q => fun h => (List.mem_append.mp h).elim (fnL0_ok q) (fnL1_ok q)
def stN_ (z : Int) : String := if z = -3 then "AT_FIRST" else if z = -4 then "LOWEST" else "HIGHEST"
def fsL : List (Nat × Nat × Int) := [(4, 66, -4), (4, 69, -5), (5, 31, -3)]
set_option maxRecDepth 8000 in
theorem fsL_ok : ∀ q ∈ fsL, Jvm.Cond.fieldLinkNest (owN q.1) q.2.1 "BorrowedWords" (stN_ q.2.2) "[I" "BorrowedWords" ∈ NW := List.forall_mem_cons.mpr ⟨(List.mem_of_getElem? (i := 58) rfl),
  List.forall_mem_cons.mpr ⟨(List.mem_of_getElem? (i := 59) rfl),
  List.forall_mem_cons.mpr ⟨(List.mem_of_getElem? (i := 60) rfl),
  fun _ h => absurd h List.not_mem_nil⟩⟩⟩
set_option maxRecDepth 8000 in
theorem uw0 : ∀ w ∈ u_ws "BorrowedWords$Text" fld0 5, w ∈ GW := List.forall_mem_cons.mpr ⟨(gw1 60 rfl rfl), List.forall_mem_cons.mpr ⟨(gw1 62 rfl rfl), List.forall_mem_cons.mpr ⟨(gw1 64 rfl rfl), List.forall_mem_cons.mpr ⟨(gw1 66 rfl rfl), List.forall_mem_cons.mpr ⟨(gw1 68 rfl rfl), fun _ h => absurd h List.not_mem_nil⟩⟩⟩⟩⟩
theorem nm0 : ∀ a, a < 5 → ∀ b, b < 5 → a ≠ b → (fld0 a).2.1 ≠ (fld0 b).2.1 := by decide +kernel
theorem ft0 : ∀ k, k < 5 → parseFieldDescriptor (fld0 k).2.2.1 = some (fty0 k) := by decide +kernel
set_option maxRecDepth 8000 in
theorem uw1 : ∀ w ∈ u_ws "BorrowedWords$Shelf" fld1 2, w ∈ GW := List.forall_mem_cons.mpr ⟨(gw1 83 rfl rfl), List.forall_mem_cons.mpr ⟨(gw1 85 rfl rfl), fun _ h => absurd h List.not_mem_nil⟩⟩
theorem nm1 : ∀ a, a < 2 → ∀ b, b < 2 → a ≠ b → (fld1 a).2.1 ≠ (fld1 b).2.1 := by decide +kernel
theorem ft1 : ∀ k, k < 2 → parseFieldDescriptor (fld1 k).2.2.1 = some (fty1 k) := by decide +kernel
set_option maxRecDepth 8000 in
theorem uw2 : ∀ w ∈ u_ws "BorrowedWords$Lexicon" fld2 3, w ∈ GW := List.forall_mem_cons.mpr ⟨(gw1 101 rfl rfl), List.forall_mem_cons.mpr ⟨(gw1 103 rfl rfl), List.forall_mem_cons.mpr ⟨(gw1 105 rfl rfl), fun _ h => absurd h List.not_mem_nil⟩⟩⟩
theorem nm2 : ∀ a, a < 3 → ∀ b, b < 3 → a ≠ b → (fld2 a).2.1 ≠ (fld2 b).2.1 := by decide +kernel
theorem ft2 : ∀ k, k < 3 → parseFieldDescriptor (fld2 k).2.2.1 = some (fty2 k) := by decide +kernel
set_option maxRecDepth 8000 in
theorem uw3 : ∀ w ∈ u_ws "BorrowedWords$Marks" fld3 6, w ∈ GW := List.forall_mem_cons.mpr ⟨(gw1 122 rfl rfl), List.forall_mem_cons.mpr ⟨(gw1 124 rfl rfl), List.forall_mem_cons.mpr ⟨(gw1 126 rfl rfl), List.forall_mem_cons.mpr ⟨(gw1 128 rfl rfl), List.forall_mem_cons.mpr ⟨(gw1 130 rfl rfl), List.forall_mem_cons.mpr ⟨(gw1 132 rfl rfl), fun _ h => absurd h List.not_mem_nil⟩⟩⟩⟩⟩⟩
theorem nm3 : ∀ a, a < 6 → ∀ b, b < 6 → a ≠ b → (fld3 a).2.1 ≠ (fld3 b).2.1 := by decide +kernel
theorem ft3 : ∀ k, k < 6 → parseFieldDescriptor (fld3 k).2.2.1 = some (fty3 k) := by decide +kernel
set_option maxRecDepth 8000 in
theorem uw4 : ∀ w ∈ u_ws "BorrowedWords$RuleReader" fld4 7, w ∈ GW := List.forall_mem_cons.mpr ⟨(gw1 152 rfl rfl), List.forall_mem_cons.mpr ⟨(gw1 154 rfl rfl), List.forall_mem_cons.mpr ⟨(gw1 156 rfl rfl), List.forall_mem_cons.mpr ⟨(gw1 158 rfl rfl), List.forall_mem_cons.mpr ⟨(gw1 160 rfl rfl), List.forall_mem_cons.mpr ⟨(gw1 162 rfl rfl), List.forall_mem_cons.mpr ⟨(gw1 164 rfl rfl), fun _ h => absurd h List.not_mem_nil⟩⟩⟩⟩⟩⟩⟩
theorem nm4 : ∀ a, a < 7 → ∀ b, b < 7 → a ≠ b → (fld4 a).2.1 ≠ (fld4 b).2.1 := by decide +kernel
theorem ft4 : ∀ k, k < 7 → parseFieldDescriptor (fld4 k).2.2.1 = some (fty4 k) := by decide +kernel
set_option maxRecDepth 8000 in
theorem uw5 : ∀ w ∈ u_ws "BorrowedWords$RuleBook" fld5 4, w ∈ GW := List.forall_mem_cons.mpr ⟨(gw1 180 rfl rfl), List.forall_mem_cons.mpr ⟨(gw1 182 rfl rfl), List.forall_mem_cons.mpr ⟨(gw1 184 rfl rfl), List.forall_mem_cons.mpr ⟨(gw1 186 rfl rfl), fun _ h => absurd h List.not_mem_nil⟩⟩⟩⟩
theorem nm5 : ∀ a, a < 4 → ∀ b, b < 4 → a ≠ b → (fld5 a).2.1 ≠ (fld5 b).2.1 := by decide +kernel
theorem ft5 : ∀ k, k < 4 → parseFieldDescriptor (fld5 k).2.2.1 = some (fty5 k) := by decide +kernel
set_option maxRecDepth 8000 in
theorem uw6 : ∀ w ∈ u_ws "BorrowedWords$Runs" fld6 15, w ∈ GW := List.forall_mem_cons.mpr ⟨(gw1 215 rfl rfl), List.forall_mem_cons.mpr ⟨(gw1 217 rfl rfl), List.forall_mem_cons.mpr ⟨(gw1 219 rfl rfl), List.forall_mem_cons.mpr ⟨(gw1 221 rfl rfl), List.forall_mem_cons.mpr ⟨(gw1 223 rfl rfl), List.forall_mem_cons.mpr ⟨(gw1 225 rfl rfl), List.forall_mem_cons.mpr ⟨(gw1 227 rfl rfl), List.forall_mem_cons.mpr ⟨(gw1 229 rfl rfl), List.forall_mem_cons.mpr ⟨(gw1 231 rfl rfl), List.forall_mem_cons.mpr ⟨(gw1 233 rfl rfl), List.forall_mem_cons.mpr ⟨(gw1 235 rfl rfl), List.forall_mem_cons.mpr ⟨(gw1 237 rfl rfl), List.forall_mem_cons.mpr ⟨(gw1 239 rfl rfl), List.forall_mem_cons.mpr ⟨(gw2 1 rfl rfl), List.forall_mem_cons.mpr ⟨(gw2 3 rfl rfl), fun _ h => absurd h List.not_mem_nil⟩⟩⟩⟩⟩⟩⟩⟩⟩⟩⟩⟩⟩⟩⟩
theorem nm6 : ∀ a, a < 15 → ∀ b, b < 15 → a ≠ b → (fld6 a).2.1 ≠ (fld6 b).2.1 := by decide +kernel
theorem ft6 : ∀ k, k < 15 → parseFieldDescriptor (fld6 k).2.2.1 = some (fty6 k) := by decide +kernel
set_option maxRecDepth 8000 in
theorem uw7 : ∀ w ∈ u_ws "BorrowedWords$Explanation" fld7 8, w ∈ GW := List.forall_mem_cons.mpr ⟨(gw2 28 rfl rfl), List.forall_mem_cons.mpr ⟨(gw2 30 rfl rfl), List.forall_mem_cons.mpr ⟨(gw2 32 rfl rfl), List.forall_mem_cons.mpr ⟨(gw2 34 rfl rfl), List.forall_mem_cons.mpr ⟨(gw2 36 rfl rfl), List.forall_mem_cons.mpr ⟨(gw2 38 rfl rfl), List.forall_mem_cons.mpr ⟨(gw2 40 rfl rfl), List.forall_mem_cons.mpr ⟨(gw2 42 rfl rfl), fun _ h => absurd h List.not_mem_nil⟩⟩⟩⟩⟩⟩⟩⟩
theorem nm7 : ∀ a, a < 8 → ∀ b, b < 8 → a ≠ b → (fld7 a).2.1 ≠ (fld7 b).2.1 := by decide +kernel
theorem ft7 : ∀ k, k < 8 → parseFieldDescriptor (fld7 k).2.2.1 = some (fty7 k) := by decide +kernel
set_option maxRecDepth 8000 in
theorem uw8 : ∀ w ∈ u_ws "BorrowedWords$Ways" fld8 10, w ∈ GW := List.forall_mem_cons.mpr ⟨(gw2 66 rfl rfl), List.forall_mem_cons.mpr ⟨(gw2 68 rfl rfl), List.forall_mem_cons.mpr ⟨(gw2 70 rfl rfl), List.forall_mem_cons.mpr ⟨(gw2 72 rfl rfl), List.forall_mem_cons.mpr ⟨(gw2 74 rfl rfl), List.forall_mem_cons.mpr ⟨(gw2 76 rfl rfl), List.forall_mem_cons.mpr ⟨(gw2 78 rfl rfl), List.forall_mem_cons.mpr ⟨(gw2 80 rfl rfl), List.forall_mem_cons.mpr ⟨(gw2 82 rfl rfl), List.forall_mem_cons.mpr ⟨(gw2 84 rfl rfl), fun _ h => absurd h List.not_mem_nil⟩⟩⟩⟩⟩⟩⟩⟩⟩⟩
theorem nm8 : ∀ a, a < 10 → ∀ b, b < 10 → a ≠ b → (fld8 a).2.1 ≠ (fld8 b).2.1 := by decide +kernel
theorem ft8 : ∀ k, k < 10 → parseFieldDescriptor (fld8 k).2.2.1 = some (fty8 k) := by decide +kernel
set_option maxRecDepth 8000 in
theorem uw9 : ∀ w ∈ u_ws "BorrowedWords$RowTable" fld9 6, w ∈ GW := List.forall_mem_cons.mpr ⟨(gw2 103 rfl rfl), List.forall_mem_cons.mpr ⟨(gw2 105 rfl rfl), List.forall_mem_cons.mpr ⟨(gw2 107 rfl rfl), List.forall_mem_cons.mpr ⟨(gw2 109 rfl rfl), List.forall_mem_cons.mpr ⟨(gw2 111 rfl rfl), List.forall_mem_cons.mpr ⟨(gw2 113 rfl rfl), fun _ h => absurd h List.not_mem_nil⟩⟩⟩⟩⟩⟩
theorem nm9 : ∀ a, a < 6 → ∀ b, b < 6 → a ≠ b → (fld9 a).2.1 ≠ (fld9 b).2.1 := by decide +kernel
theorem ft9 : ∀ k, k < 6 → parseFieldDescriptor (fld9 k).2.2.1 = some (fty9 k) := by decide +kernel
set_option maxRecDepth 8000 in
theorem uw10 : ∀ w ∈ u_ws "BorrowedWords$Sentences" fld10 6, w ∈ GW := List.forall_mem_cons.mpr ⟨(gw2 130 rfl rfl), List.forall_mem_cons.mpr ⟨(gw2 132 rfl rfl), List.forall_mem_cons.mpr ⟨(gw2 134 rfl rfl), List.forall_mem_cons.mpr ⟨(gw2 136 rfl rfl), List.forall_mem_cons.mpr ⟨(gw2 138 rfl rfl), List.forall_mem_cons.mpr ⟨(gw2 140 rfl rfl), fun _ h => absurd h List.not_mem_nil⟩⟩⟩⟩⟩⟩
theorem nm10 : ∀ a, a < 6 → ∀ b, b < 6 → a ≠ b → (fld10 a).2.1 ≠ (fld10 b).2.1 := by decide +kernel
theorem ft10 : ∀ k, k < 6 → parseFieldDescriptor (fld10 k).2.2.1 = some (fty10 k) := by decide +kernel
set_option maxRecDepth 8000 in
theorem uw11 : ∀ w ∈ u_ws "BorrowedWords" fld11 10, w ∈ GW := List.forall_mem_cons.mpr ⟨(gw2 153 rfl rfl), List.forall_mem_cons.mpr ⟨(gw2 155 rfl rfl), List.forall_mem_cons.mpr ⟨(gw2 157 rfl rfl), List.forall_mem_cons.mpr ⟨(gw2 159 rfl rfl), List.forall_mem_cons.mpr ⟨(gw2 161 rfl rfl), List.forall_mem_cons.mpr ⟨(gw2 163 rfl rfl), List.forall_mem_cons.mpr ⟨(gw2 165 rfl rfl), List.forall_mem_cons.mpr ⟨(gw2 167 rfl rfl), List.forall_mem_cons.mpr ⟨(gw2 169 rfl rfl), List.forall_mem_cons.mpr ⟨(gw2 171 rfl rfl), fun _ h => absurd h List.not_mem_nil⟩⟩⟩⟩⟩⟩⟩⟩⟩⟩
theorem nm11 : ∀ a, a < 10 → ∀ b, b < 10 → a ≠ b → (fld11 a).2.1 ≠ (fld11 b).2.1 := by decide +kernel
theorem ft11 : ∀ k, k < 10 → parseFieldDescriptor (fld11 k).2.2.1 = some (fty11 k) := by decide +kernel
set_option maxRecDepth 8000 in
theorem uw12 : ∀ w ∈ u_ws "BorrowedWordsModel" fld12 42, w ∈ GW := List.forall_mem_cons.mpr ⟨(gw5 57 rfl rfl), List.forall_mem_cons.mpr ⟨(gw5 59 rfl rfl), List.forall_mem_cons.mpr ⟨(gw5 61 rfl rfl), List.forall_mem_cons.mpr ⟨(gw5 63 rfl rfl), List.forall_mem_cons.mpr ⟨(gw5 65 rfl rfl), List.forall_mem_cons.mpr ⟨(gw5 67 rfl rfl), List.forall_mem_cons.mpr ⟨(gw5 69 rfl rfl), List.forall_mem_cons.mpr ⟨(gw5 71 rfl rfl), List.forall_mem_cons.mpr ⟨(gw5 73 rfl rfl), List.forall_mem_cons.mpr ⟨(gw5 75 rfl rfl), List.forall_mem_cons.mpr ⟨(gw5 77 rfl rfl), List.forall_mem_cons.mpr ⟨(gw5 79 rfl rfl), List.forall_mem_cons.mpr ⟨(gw5 81 rfl rfl), List.forall_mem_cons.mpr ⟨(gw5 83 rfl rfl), List.forall_mem_cons.mpr ⟨(gw5 85 rfl rfl), List.forall_mem_cons.mpr ⟨(gw5 87 rfl rfl), List.forall_mem_cons.mpr ⟨(gw5 89 rfl rfl), List.forall_mem_cons.mpr ⟨(gw5 91 rfl rfl), List.forall_mem_cons.mpr ⟨(gw5 93 rfl rfl), List.forall_mem_cons.mpr ⟨(gw5 95 rfl rfl), List.forall_mem_cons.mpr ⟨(gw5 97 rfl rfl), List.forall_mem_cons.mpr ⟨(gw5 99 rfl rfl), List.forall_mem_cons.mpr ⟨(gw5 101 rfl rfl), List.forall_mem_cons.mpr ⟨(gw5 103 rfl rfl), List.forall_mem_cons.mpr ⟨(gw5 105 rfl rfl), List.forall_mem_cons.mpr ⟨(gw5 107 rfl rfl), List.forall_mem_cons.mpr ⟨(gw5 109 rfl rfl), List.forall_mem_cons.mpr ⟨(gw5 111 rfl rfl), List.forall_mem_cons.mpr ⟨(gw5 113 rfl rfl), List.forall_mem_cons.mpr ⟨(gw5 115 rfl rfl), List.forall_mem_cons.mpr ⟨(gw5 117 rfl rfl), List.forall_mem_cons.mpr ⟨(gw5 119 rfl rfl), List.forall_mem_cons.mpr ⟨(gw5 121 rfl rfl), List.forall_mem_cons.mpr ⟨(gw5 123 rfl rfl), List.forall_mem_cons.mpr ⟨(gw5 125 rfl rfl), List.forall_mem_cons.mpr ⟨(gw5 127 rfl rfl), List.forall_mem_cons.mpr ⟨(gw5 129 rfl rfl), List.forall_mem_cons.mpr ⟨(gw5 131 rfl rfl), List.forall_mem_cons.mpr ⟨(gw5 133 rfl rfl), List.forall_mem_cons.mpr ⟨(gw5 135 rfl rfl), List.forall_mem_cons.mpr ⟨(gw5 137 rfl rfl), List.forall_mem_cons.mpr ⟨(gw5 139 rfl rfl), fun _ h => absurd h List.not_mem_nil⟩⟩⟩⟩⟩⟩⟩⟩⟩⟩⟩⟩⟩⟩⟩⟩⟩⟩⟩⟩⟩⟩⟩⟩⟩⟩⟩⟩⟩⟩⟩⟩⟩⟩⟩⟩⟩⟩⟩⟩⟩⟩
theorem nm12 : ∀ a, a < 42 → ∀ b, b < 42 → a ≠ b → (fld12 a).2.1 ≠ (fld12 b).2.1 := by decide +kernel
theorem ft12 : ∀ k, k < 42 → parseFieldDescriptor (fld12 k).2.2.1 = some (fty12 k) := by decide +kernel
def ckOK (ci : Nat) (q : vw_C) : Prop := (∀ w ∈ u_ws q.1 q.2.1 q.2.2, w ∈ GW) ∧ (∀ a, a < q.2.2 → ∀ b, b < q.2.2 → a ≠ b → (q.2.1 a).2.1 ≠ (q.2.1 b).2.1) ∧ (∀ k, k < q.2.2 → parseFieldDescriptor (q.2.1 k).2.2.1 = some (ftyOf ci k)) ∧ Jvm.Cond.instantiable q.1 q.2.2 ∈ GW ∧ Jvm.Cond.initialized q.1 ∈ GW ∧ q.2.2 = nF ci ∧ owN ci = q.1
theorem ck_ok : ∀ (ci : Nat) (q : vw_C), cls_[ci]? = some q → ckOK ci q := by
  intro ci q h
  match ci, h with
  | 0, h => cases h; exact ⟨uw0, nm0, ft0, (gw1 37 rfl rfl), (gw1 3 rfl rfl), rfl, rfl⟩
  | 1, h => cases h; exact ⟨uw1, nm1, ft1, (gw1 30 rfl rfl), (gw1 2 rfl rfl), rfl, rfl⟩
  | 2, h => cases h; exact ⟨uw2, nm2, ft2, (gw1 89 rfl rfl), (gw1 4 rfl rfl), rfl, rfl⟩
  | 3, h => cases h; exact ⟨uw3, nm3, ft3, (gw1 110 rfl rfl), (gw1 5 rfl rfl), rfl, rfl⟩
  | 4, h => cases h; exact ⟨uw4, nm4, ft4, (gw1 136 rfl rfl), (gw1 6 rfl rfl), rfl, rfl⟩
  | 5, h => cases h; exact ⟨uw5, nm5, ft5, (gw1 168 rfl rfl), (gw1 7 rfl rfl), rfl, rfl⟩
  | 6, h => cases h; exact ⟨uw6, nm6, ft6, (gw1 190 rfl rfl), (gw1 8 rfl rfl), rfl, rfl⟩
  | 7, h => cases h; exact ⟨uw7, nm7, ft7, (gw2 8 rfl rfl), (gw1 9 rfl rfl), rfl, rfl⟩
  | 8, h => cases h; exact ⟨uw8, nm8, ft8, (gw2 46 rfl rfl), (gw1 10 rfl rfl), rfl, rfl⟩
  | 9, h => cases h; exact ⟨uw9, nm9, ft9, (gw2 88 rfl rfl), (gw1 11 rfl rfl), rfl, rfl⟩
  | 10, h => cases h; exact ⟨uw10, nm10, ft10, (gw2 117 rfl rfl), (gw1 12 rfl rfl), rfl, rfl⟩
  | 11, h => cases h; exact ⟨uw11, nm11, ft11, (gw1 22 rfl rfl), (gw1 1 rfl rfl), rfl, rfl⟩
  | 12, h => cases h; exact ⟨uw12, nm12, ft12, (gw5 10 rfl rfl), (gw1 13 rfl rfl), rfl, rfl⟩
  | k + 13, h => simp [cls_] at h
def clL : List (Nat × Nat × Nat) := [(19, 7, 11), (11, 7, 1), (1, 9, 0), (11, 16, 2), (11, 23, 3), (11, 32, 4), (11, 39, 5), (11, 46, 6), (11, 55, 7), (11, 64, 8), (11, 73, 9), (11, 80, 10), (19, 10, 12)]
set_option maxRecDepth 8000 in
theorem clL_ok : ∀ q ∈ clL, Jvm.Cond.classLink (owN q.1) q.2.1 (owN q.2.2) ∈ GW := List.forall_mem_cons.mpr ⟨(gw1 21 rfl rfl),
  List.forall_mem_cons.mpr ⟨(gw1 29 rfl rfl),
  List.forall_mem_cons.mpr ⟨(gw1 35 rfl rfl),
  List.forall_mem_cons.mpr ⟨(gw1 88 rfl rfl),
  List.forall_mem_cons.mpr ⟨(gw1 109 rfl rfl),
  List.forall_mem_cons.mpr ⟨(gw1 135 rfl rfl),
  List.forall_mem_cons.mpr ⟨(gw1 167 rfl rfl),
  List.forall_mem_cons.mpr ⟨(gw1 189 rfl rfl),
  List.forall_mem_cons.mpr ⟨(gw2 7 rfl rfl),
  List.forall_mem_cons.mpr ⟨(gw2 45 rfl rfl),
  List.forall_mem_cons.mpr ⟨(gw2 87 rfl rfl),
  List.forall_mem_cons.mpr ⟨(gw2 116 rfl rfl),
  List.forall_mem_cons.mpr ⟨(gw5 9 rfl rfl),
  fun _ h => absurd h List.not_mem_nil⟩⟩⟩⟩⟩⟩⟩⟩⟩⟩⟩⟩⟩
def cmL : List (Nat × Nat × Nat) := [(5, 18, 5), (6, 9, 6), (8, 9, 5), (9, 9, 6)]
set_option maxRecDepth 8000 in
theorem cmL_ok : ∀ q ∈ cmL, Jvm.Cond.classLink (owN q.1) q.2.1 (if q.2.2 = 5 then "[[I" else "[[J") ∈ GW := List.forall_mem_cons.mpr ⟨(gw1 173 rfl rfl),
  List.forall_mem_cons.mpr ⟨(gw1 195 rfl rfl),
  List.forall_mem_cons.mpr ⟨(gw2 51 rfl rfl),
  List.forall_mem_cons.mpr ⟨(gw2 93 rfl rfl),
  fun _ h => absurd h List.not_mem_nil⟩⟩⟩⟩
def kiL : List (Nat × Nat × Int) := [(16, 265, 1431655765), (16, 266, 858993459), (16, 267, 252645135)]
set_option maxRecDepth 8000 in
theorem kiL_ok : ∀ q ∈ kiL, Jvm.Cond.constant (owN q.1) q.2.1 (Int32.ofInt q.2.2) ∈ GW := List.forall_mem_cons.mpr ⟨(gw4 121 rfl rfl),
  List.forall_mem_cons.mpr ⟨(gw4 122 rfl rfl),
  List.forall_mem_cons.mpr ⟨(gw4 123 rfl rfl),
  fun _ h => absurd h List.not_mem_nil⟩⟩⟩
def klL : List (Nat × Nat × Int) := [(17, 314, 6148914691236517205), (17, 316, 3689348814741910323), (17, 318, 1085102592571150095), (11, 199, 255), (6, 132, (-1)), (11, 333, (-1)), (9, 39, 201), (12, 106, 9), (12, 108, 999), (12, 118, 200), (12, 164, 8), (12, 166, 255), (12, 182, 97), (12, 184, 122), (12, 186, 10000000000), (12, 188, 20000000000), (12, 190, 27), (12, 192, 96), (12, 198, 48), (12, 200, 57), (12, 231, 6), (12, 257, 2), (12, 259, 3), (12, 302, 5), (12, 323, 100), (19, 61, 4294967295)]
set_option maxRecDepth 8000 in
theorem klL_ok : ∀ q ∈ klL, Jvm.Cond.constantLong (owN q.1) q.2.1 (Int64.ofInt q.2.2) ∈ GW := List.forall_mem_cons.mpr ⟨(gw2 227 rfl rfl),
  List.forall_mem_cons.mpr ⟨(gw2 228 rfl rfl),
  List.forall_mem_cons.mpr ⟨(gw2 229 rfl rfl),
  List.forall_mem_cons.mpr ⟨(gw3 86 rfl rfl),
  List.forall_mem_cons.mpr ⟨(gw4 39 rfl rfl),
  List.forall_mem_cons.mpr ⟨(gw4 97 rfl rfl),
  List.forall_mem_cons.mpr ⟨(gw4 177 rfl rfl),
  List.forall_mem_cons.mpr ⟨(gw5 146 rfl rfl),
  List.forall_mem_cons.mpr ⟨(gw5 150 rfl rfl),
  List.forall_mem_cons.mpr ⟨(gw5 159 rfl rfl),
  List.forall_mem_cons.mpr ⟨(gw5 236 rfl rfl),
  List.forall_mem_cons.mpr ⟨(gw5 237 rfl rfl),
  List.forall_mem_cons.mpr ⟨(gw6 14 rfl rfl),
  List.forall_mem_cons.mpr ⟨(gw6 15 rfl rfl),
  List.forall_mem_cons.mpr ⟨(gw6 16 rfl rfl),
  List.forall_mem_cons.mpr ⟨(gw6 17 rfl rfl),
  List.forall_mem_cons.mpr ⟨(gw6 18 rfl rfl),
  List.forall_mem_cons.mpr ⟨(gw6 19 rfl rfl),
  List.forall_mem_cons.mpr ⟨(gw6 39 rfl rfl),
  List.forall_mem_cons.mpr ⟨(gw6 40 rfl rfl),
  List.forall_mem_cons.mpr ⟨(gw6 52 rfl rfl),
  List.forall_mem_cons.mpr ⟨(gw6 77 rfl rfl),
  List.forall_mem_cons.mpr ⟨(gw6 90 rfl rfl),
  List.forall_mem_cons.mpr ⟨(gw6 166 rfl rfl),
  List.forall_mem_cons.mpr ⟨(gw6 202 rfl rfl),
  List.forall_mem_cons.mpr ⟨(gw6 215 rfl rfl),
  fun _ h => absurd h List.not_mem_nil⟩⟩⟩⟩⟩⟩⟩⟩⟩⟩⟩⟩⟩⟩⟩⟩⟩⟩⟩⟩⟩⟩⟩⟩⟩⟩
def obL : List (Nat × Nat) := [(11, 1), (1, 3), (0, 3), (2, 3), (3, 3), (4, 3), (5, 3), (6, 3), (7, 3), (8, 3), (9, 3), (10, 3), (12, 1)]
set_option maxRecDepth 8000 in
theorem obL_ok : ∀ q ∈ obL, Jvm.Cond.methodLink (owN q.1) q.2 Lib.objectInit ∈ GW := List.forall_mem_cons.mpr ⟨(gw1 26 rfl rfl),
  List.forall_mem_cons.mpr ⟨(gw1 34 rfl rfl),
  List.forall_mem_cons.mpr ⟨(gw1 41 rfl rfl),
  List.forall_mem_cons.mpr ⟨(gw1 93 rfl rfl),
  List.forall_mem_cons.mpr ⟨(gw1 114 rfl rfl),
  List.forall_mem_cons.mpr ⟨(gw1 140 rfl rfl),
  List.forall_mem_cons.mpr ⟨(gw1 172 rfl rfl),
  List.forall_mem_cons.mpr ⟨(gw1 194 rfl rfl),
  List.forall_mem_cons.mpr ⟨(gw2 12 rfl rfl),
  List.forall_mem_cons.mpr ⟨(gw2 50 rfl rfl),
  List.forall_mem_cons.mpr ⟨(gw2 92 rfl rfl),
  List.forall_mem_cons.mpr ⟨(gw2 121 rfl rfl),
  List.forall_mem_cons.mpr ⟨(gw5 14 rfl rfl),
  fun _ h => absurd h List.not_mem_nil⟩⟩⟩⟩⟩⟩⟩⟩⟩⟩⟩⟩⟩
theorem ob_i : Jvm.Cond.instanceMethod Lib.objectInit ∈ GW := (gw1 27 rfl rfl)
theorem ob_c : Jvm.Cond.code Lib.objectInit ⟨#[0xb1]⟩ 1 none ∈ GW := (gw1 28 rfl rfl)
theorem ac_int : Jvm.Cond.arrayClass .int ∈ GW := (gw1 71 rfl rfl)
theorem ac_boolean : Jvm.Cond.arrayClass .boolean ∈ GW := (gw1 108 rfl rfl)
theorem ac_long : Jvm.Cond.arrayClass .long ∈ GW := (gw2 6 rfl rfl)
theorem ac_byte : Jvm.Cond.arrayClass .byte ∈ GW := (gw3 205 rfl rfl)
theorem ao_T : Jvm.Cond.arrayOver (.object "BorrowedWords$Text") ∈ tables_1 := (tb1 (List.mem_of_getElem? (i := 36) rfl))
theorem ao_I : Jvm.Cond.arrayOver (.array .int) ∈ tables_1 := (tb1 (List.mem_of_getElem? (i := 174) rfl))
theorem ao_L : Jvm.Cond.arrayOver (.array .long) ∈ tables_1 := (tb1 (List.mem_of_getElem? (i := 196) rfl))
def srL : List (Nat × Nat × String) := [(0, 80, "least"), (1, 82, "slips"), (2, 84, "mean"), (3, 86, "common"), (4, 88, "free"), (5, 90, "light"), (6, 92, "heavy"), (7, 94, "strike"), (8, 72, "yes"), (9, 78, "no")]
set_option maxRecDepth 8000 in
theorem srL_ok : ∀ q ∈ srL, Jvm.Cond.stringRef "BorrowedWords$RuleReader" q.2.1 q.2.2 ∈ tables_1 := List.forall_mem_cons.mpr ⟨(tb3 (List.mem_of_getElem? (i := 115) rfl)),
  List.forall_mem_cons.mpr ⟨(tb3 (List.mem_of_getElem? (i := 168) rfl)),
  List.forall_mem_cons.mpr ⟨(tb3 (List.mem_of_getElem? (i := 169) rfl)),
  List.forall_mem_cons.mpr ⟨(tb3 (List.mem_of_getElem? (i := 170) rfl)),
  List.forall_mem_cons.mpr ⟨(tb3 (List.mem_of_getElem? (i := 171) rfl)),
  List.forall_mem_cons.mpr ⟨(tb3 (List.mem_of_getElem? (i := 172) rfl)),
  List.forall_mem_cons.mpr ⟨(tb3 (List.mem_of_getElem? (i := 173) rfl)),
  List.forall_mem_cons.mpr ⟨(tb3 (List.mem_of_getElem? (i := 174) rfl)),
  List.forall_mem_cons.mpr ⟨(tb3 (List.mem_of_getElem? (i := 191) rfl)),
  List.forall_mem_cons.mpr ⟨(tb3 (List.mem_of_getElem? (i := 192) rfl)),
  fun _ h => absurd h List.not_mem_nil⟩⟩⟩⟩⟩⟩⟩⟩⟩⟩
theorem fj_COMPACT_STRINGS : Jvm.Cond.fieldLink "java/lang/String" 38 "java/lang/String" "COMPACT_STRINGS" "Z" ∈ GW := (gw3 128 rfl rfl)
theorem fj_SIOOBE_FORMATTER : Jvm.Cond.fieldLink "java/lang/String" 1053 "jdk/internal/util/Preconditions" "SIOOBE_FORMATTER" "Ljava/util/function/BiFunction;" ∈ GW := (gw3 144 rfl rfl)
theorem fj_value : Jvm.Cond.fieldLink "java/lang/String" 9 "java/lang/String" "value" "[B" ∈ GW := (gw6 216 rfl rfl)
theorem fj_coder : Jvm.Cond.fieldLink "java/lang/String" 15 "java/lang/String" "coder" "B" ∈ GW := (gw6 217 rfl rfl)
def maxL : List (Nat × Nat) := [(6, 137), (9, 81), (10, 52)]
set_option maxRecDepth 8000 in
theorem maxL_ok : ∀ q ∈ maxL, Jvm.Cond.methodLink (owN q.1) q.2 Lib.Math.max.name ∈ GW := List.forall_mem_cons.mpr ⟨(gw4 52 rfl rfl),
  List.forall_mem_cons.mpr ⟨(gw4 226 rfl rfl),
  List.forall_mem_cons.mpr ⟨(gw5 8 rfl rfl),
  fun _ h => absurd h List.not_mem_nil⟩⟩⟩
theorem max_s : Jvm.Cond.static Lib.Math.max.name ∈ GW := (gw4 53 rfl rfl)
theorem max_c : Jvm.Cond.code Lib.Math.max.name Lib.Math.max.code 2 (some .int) ∈ GW := (gw4 54 rfl rfl)
def minL : List (Nat × Nat) := [(9, 76)]
set_option maxRecDepth 8000 in
theorem minL_ok : ∀ q ∈ minL, Jvm.Cond.methodLink (owN q.1) q.2 Lib.Math.min.name ∈ GW := List.forall_mem_cons.mpr ⟨(gw4 223 rfl rfl),
  fun _ h => absurd h List.not_mem_nil⟩
theorem min_s : Jvm.Cond.static Lib.Math.min.name ∈ GW := (gw4 224 rfl rfl)
theorem min_c : Jvm.Cond.code Lib.Math.min.name Lib.Math.min.code 2 (some .int) ∈ GW := (gw4 225 rfl rfl)
theorem math_i : Jvm.Cond.initialized "java/lang/Math" ∈ GW := (gw1 19 rfl rfl)
end
section
/-! EVERY INSTRUCTION IS WHAT THE CLASS FILES HOLD: decoded, its next and its targets, its links, its room -/
def dk (bs : ByteArray) (bp : Nat) (ins : Instr) (n : Nat) : Bool := decide (decode bs bp = .ok (ins, n))
def nxt (cd : List In_) (pc t : Nat) : Bool := match cd[pc + 1]? with
  | some e => decide (e.2.1 = t)
  | none => false
def jmp (cd : List In_) (a : Nat) (t : Int) : Bool := match cd[a]? with
  | some e => decide (t = (e.2.1 : Int))
  | none => false
def rgI (z : Int) : Bool := decide (-2147483648 ≤ z) && decide (z ≤ 2147483647)
def rgL (z : Int) : Bool := decide (-9223372036854775808 ≤ z) && decide (z ≤ 9223372036854775807)
def jmps (cd : List In_) (bp : Nat) : List Nat → List Int → Bool
  | [], [] => true
  | t :: ts, o :: os => jmp cd t ((bp : Int) + o) && jmps cd bp ts os
  | _, _ => false
def fdOK (o i a b : Nat) : Bool := (decide ((o, i, a, b) ∈ flL) || decide ((o, i, a, b) ∈ fnL)) && decide (b < nF a) && decide (a < cls_.length)
def clOK (id a mc ms MC MS : Nat) : Bool := decide (mcOf id = MC) && decide (msOf id = MS) && decide (a ∈ mkL) && decide (mcOf a = mc) && decide (msOf a = ms) && decide ((rmT_ a).1 + 1 ≤ (rmT_ id).1) && decide (8 + (mxL a + 11) + (rmT_ a).2.1 ≤ (rmT_ id).2.1)
def ckE (id o : Nat) (cd : List In_) (bs : ByteArray) (pc : Nat) (e : In_) : Bool :=
  match e with
  | (ins, bp, a, b, z, tg) =>
  match ins with
  | .iconst i => dk bs bp (.iconst i) 1 && nxt cd pc (bp + 1) && decide (z = i) && rgI z
  | .bipush i => dk bs bp (.bipush i) 2 && nxt cd pc (bp + 2) && decide (z = i) && decide (-128 ≤ z) && decide (z < 128)
  | .sipush i => dk bs bp (.sipush i) 3 && nxt cd pc (bp + 3) && decide (z = i) && decide (-32768 ≤ z) && decide (z < 32768)
  | .ldc i => dk bs bp (.ldc i) 2 && nxt cd pc (bp + 2) && decide (a = 2) && decide (o = 4) && decide (-19 ≤ z) && decide (z ≤ -10) && decide ((srL.map (fun q => ((q.1 : Int), q.2.1))).elem (-z - 10, i) = true)
  | .ldc_w i => dk bs bp (.ldc_w i) 3 && nxt cd pc (bp + 3) && decide ((o, i, z) ∈ kiL) && rgI z
  | .ldc2_w i => dk bs bp (.ldc2_w i) 3 && nxt cd pc (bp + 3) && decide ((o, i, z) ∈ klL) && rgL z
  | .lconst i => dk bs bp (.lconst i) 1 && nxt cd pc (bp + 1) && decide (z = (i.val : Int))
  | .iload i => dk bs bp (.iload i) 2 && nxt cd pc (bp + 2) && decide (a = i)
  | .iload_n i => dk bs bp (.iload_n i) 1 && nxt cd pc (bp + 1) && decide (a = i.val)
  | .lload i => dk bs bp (.lload i) 2 && nxt cd pc (bp + 2) && decide (a = i)
  | .lload_n i => dk bs bp (.lload_n i) 1 && nxt cd pc (bp + 1) && decide (a = i.val)
  | .aload i => dk bs bp (.aload i) 2 && nxt cd pc (bp + 2) && decide (a = i)
  | .aload_n i => dk bs bp (.aload_n i) 1 && nxt cd pc (bp + 1) && decide (a = i.val)
  | .istore i => dk bs bp (.istore i) 2 && nxt cd pc (bp + 2) && decide (a = i) && decide (a < mxL id)
  | .istore_n i => dk bs bp (.istore_n i) 1 && nxt cd pc (bp + 1) && decide (a = i.val) && decide (a < mxL id)
  | .lstore i => dk bs bp (.lstore i) 2 && nxt cd pc (bp + 2) && decide (a = i) && decide (a + 1 < mxL id)
  | .lstore_n i => dk bs bp (.lstore_n i) 1 && nxt cd pc (bp + 1) && decide (a = i.val) && decide (a + 1 < mxL id)
  | .astore i => dk bs bp (.astore i) 2 && nxt cd pc (bp + 2) && decide (a = i) && decide (a < mxL id)
  | .astore_n i => dk bs bp (.astore_n i) 1 && nxt cd pc (bp + 1) && decide (a = i.val) && decide (a < mxL id)
  | .iinc i n => dk bs bp (.iinc i n) 3 && nxt cd pc (bp + 3) && decide (a = i) && decide (z = n) && decide (a < mxL id) && rgI z
  | .iadd => dk bs bp .iadd 1 && nxt cd pc (bp + 1)
  | .isub => dk bs bp .isub 1 && nxt cd pc (bp + 1)
  | .imul => dk bs bp .imul 1 && nxt cd pc (bp + 1)
  | .idiv => dk bs bp .idiv 1 && nxt cd pc (bp + 1)
  | .irem => dk bs bp .irem 1 && nxt cd pc (bp + 1)
  | .iand => dk bs bp .iand 1 && nxt cd pc (bp + 1)
  | .ior => dk bs bp .ior 1 && nxt cd pc (bp + 1)
  | .ixor => dk bs bp .ixor 1 && nxt cd pc (bp + 1)
  | .ishl => dk bs bp .ishl 1 && nxt cd pc (bp + 1)
  | .ishr => dk bs bp .ishr 1 && nxt cd pc (bp + 1)
  | .iushr => dk bs bp .iushr 1 && nxt cd pc (bp + 1)
  | .ladd => dk bs bp .ladd 1 && nxt cd pc (bp + 1)
  | .lsub => dk bs bp .lsub 1 && nxt cd pc (bp + 1)
  | .lmul => dk bs bp .lmul 1 && nxt cd pc (bp + 1)
  | .land => dk bs bp .land 1 && nxt cd pc (bp + 1)
  | .lor => dk bs bp .lor 1 && nxt cd pc (bp + 1)
  | .lxor => dk bs bp .lxor 1 && nxt cd pc (bp + 1)
  | .lshl => dk bs bp .lshl 1 && nxt cd pc (bp + 1)
  | .lshr => dk bs bp .lshr 1 && nxt cd pc (bp + 1)
  | .lushr => dk bs bp .lushr 1 && nxt cd pc (bp + 1)
  | .i2l => dk bs bp .i2l 1 && nxt cd pc (bp + 1)
  | .l2i => dk bs bp .l2i 1 && nxt cd pc (bp + 1)
  | .i2c => dk bs bp .i2c 1 && nxt cd pc (bp + 1)
  | .lcmp => dk bs bp .lcmp 1 && nxt cd pc (bp + 1)
  | .ifCond c f => dk bs bp (.ifCond c f) 3 && nxt cd pc (bp + 3) && jmp cd a ((bp : Int) + f)
  | .if_icmp c f => dk bs bp (.if_icmp c f) 3 && nxt cd pc (bp + 3) && jmp cd a ((bp : Int) + f)
  | .goto f => dk bs bp (.goto f) 3 && jmp cd a ((bp : Int) + f)
  | .tableswitch d lo hi fs => (match decode bs bp with
    | .ok (i, _) => decide (i = .tableswitch d lo hi fs)
    | .error _ => false) && jmp cd a ((bp : Int) + d) && decide (z = lo) && decide (z + tg.length = hi + 1) && jmps cd bp tg fs.toList
  | .dup => dk bs bp .dup 1 && nxt cd pc (bp + 1)
  | .dup2 => dk bs bp .dup2 1 && nxt cd pc (bp + 1)
  | .pop => dk bs bp .pop 1 && nxt cd pc (bp + 1)
  | .iaload => dk bs bp .iaload 1 && nxt cd pc (bp + 1)
  | .baload => dk bs bp .baload 1 && nxt cd pc (bp + 1)
  | .laload => dk bs bp .laload 1 && nxt cd pc (bp + 1)
  | .aaload => dk bs bp .aaload 1 && nxt cd pc (bp + 1)
  | .iastore => dk bs bp .iastore 1 && nxt cd pc (bp + 1)
  | .bastore => dk bs bp .bastore 1 && nxt cd pc (bp + 1)
  | .lastore => dk bs bp .lastore 1 && nxt cd pc (bp + 1)
  | .aastore => dk bs bp .aastore 1 && nxt cd pc (bp + 1) && decide (a = 0)
  | .arraylength => dk bs bp .arraylength 1 && nxt cd pc (bp + 1)
  | .getstatic i => dk bs bp (.getstatic i) 3 && nxt cd pc (bp + 3) && (match a with
    | 1 => decide (o = 13) && decide (i = 38) && decide (b = 0) && decide (z = 1)
    | 2 => decide (o = 13) && decide (i = 1053) && decide (b = 2) && decide (z = -6)
    | 3 => decide ((o, i, z) ∈ fsL) && decide (b = 2) && decide (-5 ≤ z) && decide (z ≤ -3)
    | _ => false)
  | .getfield i => dk bs bp (.getfield i) 3 && nxt cd pc (bp + 3) && (match a with
    | 13 => decide (o = 13) && (match b with
      | 0 => decide (i = 9) && decide (tg = [2])
      | _ => decide (i = 15) && decide (b = 1) && decide (tg = [0]))
    | _ => fdOK o i a b && decide (tg = [fTag a b]))
  | .putfield i => dk bs bp (.putfield i) 3 && nxt cd pc (bp + 3) && fdOK o i a b && decide (tg = [fTag a b]) && (match (fdr a b).2.2.2 with
    | true => decide ((yOf id).name = "<init>") && decide ((fdr a b).1 = owN o) && decide ((o, i, a, b) ∈ flL)
    | false => true)
  | .new i => dk bs bp (.new i) 3 && nxt cd pc (bp + 3) && decide ((o, i, a) ∈ clL) && decide (b = nF a) && decide (a < cls_.length) && decide (tg = [mcOf id, msOf id])
  | .newarray t => dk bs bp (.newarray t) 2 && nxt cd pc (bp + 2) && decide (tg = [mcOf id, msOf id]) && (match t with
    | .int => decide (a = 1)
    | .long => decide (a = 2)
    | .boolean => decide (a = 3)
    | _ => false)
  | .anewarray i => dk bs bp (.anewarray i) 3 && nxt cd pc (bp + 3) && decide ((o, i, 0) ∈ clL) && decide (tg = [mcOf id, msOf id])
  | .multianewarray i d => dk bs bp (.multianewarray i 2) 4 && nxt cd pc (bp + 4) && decide (d = 2) && decide ((o, i, a) ∈ cmL) && ((decide (a = 5) && decide (b = 1)) || (decide (a = 6) && decide (b = 2))) && decide (tg = [mcOf id, msOf id])
  | .ireturn => dk bs bp .ireturn 1 && (match a with
    | 0 => decide (retOf id = some .int)
    | 1 => decide (retOf id = some .boolean)
    | 2 => decide (retOf id = some .byte)
    | _ => decide (retOf id = some .char))
  | .lreturn => dk bs bp .lreturn 1 && decide (retOf id = some .long)
  | .return_ => dk bs bp .return_ 1 && decide (retOf id = none)
  | .invokevirtual i => match tg with
    | [n, ci, mc, ms, MC, MS] => dk bs bp (.invokevirtual i) 3 && nxt cd pc (bp + 3) && clOK id a mc ms MC MS && decide (n = npOf a + 1) && decide (a ∈ vtL) && decide (owN ci = (yOf a).cls) && decide (ci < 14) && (decide ((o, i, a) ∈ mlL) || decide ((o, i, a) ∈ mnL))
    | _ => true
  | .invokestatic i => match tg with
    | [0] => dk bs bp (.invokestatic i) 3 && nxt cd pc (bp + 3) && decide ((o, i) ∈ maxL) && decide (32 ≤ (rmT_ id).2.1) && decide (1 ≤ (rmT_ id).1)
    | [1] => dk bs bp (.invokestatic i) 3 && nxt cd pc (bp + 3) && decide ((o, i) ∈ minL) && decide (32 ≤ (rmT_ id).2.1) && decide (1 ≤ (rmT_ id).1)
    | [n, mc, ms, MC, MS] => dk bs bp (.invokestatic i) 3 && nxt cd pc (bp + 3) && clOK id a mc ms MC MS && decide (n = npOf a) && decide (a ∈ stL) && decide ((o, i, a) ∈ mlL)
    | _ => true
  | .invokespecial i => match tg with
    | [] => dk bs bp (.invokespecial i) 3 && nxt cd pc (bp + 3) && decide ((o, i) ∈ obL) && decide (32 ≤ (rmT_ id).2.1) && decide (1 ≤ (rmT_ id).1)
    | [n, mc, ms, MC, MS] => dk bs bp (.invokespecial i) 3 && nxt cd pc (bp + 3) && clOK id a mc ms MC MS && decide (n = npOf a + 1) && decide (a ∈ spL) && (decide ((o, i, a) ∈ mlL) || decide ((o, i, a) ∈ mnL)) && decide (retOf a = none)
    | _ => true
  | _ => true
def ckM (id : Nat) (lo n : Nat) : Bool := (List.range n).all fun j => match (codeOf id)[lo + j]? with
  | some e => ckE id (ownOf id) (codeOf id) (byOf id) (lo + j) e
  | none => true
theorem ckM_use {id lo n pc : Nat} {e : In_} (h : ckM id lo n = true) (h1 : lo ≤ pc) (h2 : pc < lo + n) (he : (codeOf id)[pc]? = some e) : ckE id (ownOf id) (codeOf id) (byOf id) pc e = true := by
  have := List.all_eq_true.mp h (pc - lo) (List.mem_range.mpr (by omega))
  rw [show lo + (pc - lo) = pc by omega, he] at this
  exact this
end
section
theorem ck0_0 : ckM 0 0 60 = true := by decide +kernel
theorem cke0 (pc : Nat) (e : In_) (h : (codeOf 0)[pc]? = some e) : ckE 0 (ownOf 0) (codeOf 0) (byOf 0) pc e = true := by
  have hl : pc < 7 := (List.getElem?_eq_some_iff.mp h).1
  exact ckM_use ck0_0 (by omega) (by omega) h
theorem ck1_0 : ckM 1 0 60 = true := by decide +kernel
theorem cke1 (pc : Nat) (e : In_) (h : (codeOf 1)[pc]? = some e) : ckE 1 (ownOf 1) (codeOf 1) (byOf 1) pc e = true := by
  have hl : pc < 21 := (List.getElem?_eq_some_iff.mp h).1
  exact ckM_use ck1_0 (by omega) (by omega) h
theorem ck2_0 : ckM 2 0 60 = true := by decide +kernel
theorem cke2 (pc : Nat) (e : In_) (h : (codeOf 2)[pc]? = some e) : ckE 2 (ownOf 2) (codeOf 2) (byOf 2) pc e = true := by
  have hl : pc < 32 := (List.getElem?_eq_some_iff.mp h).1
  exact ckM_use ck2_0 (by omega) (by omega) h
theorem ck3_0 : ckM 3 0 60 = true := by decide +kernel
theorem cke3 (pc : Nat) (e : In_) (h : (codeOf 3)[pc]? = some e) : ckE 3 (ownOf 3) (codeOf 3) (byOf 3) pc e = true := by
  have hl : pc < 22 := (List.getElem?_eq_some_iff.mp h).1
  exact ckM_use ck3_0 (by omega) (by omega) h
theorem ck4_0 : ckM 4 0 60 = true := by decide +kernel
theorem cke4 (pc : Nat) (e : In_) (h : (codeOf 4)[pc]? = some e) : ckE 4 (ownOf 4) (codeOf 4) (byOf 4) pc e = true := by
  have hl : pc < 14 := (List.getElem?_eq_some_iff.mp h).1
  exact ckM_use ck4_0 (by omega) (by omega) h
theorem ck5_0 : ckM 5 0 60 = true := by decide +kernel
theorem cke5 (pc : Nat) (e : In_) (h : (codeOf 5)[pc]? = some e) : ckE 5 (ownOf 5) (codeOf 5) (byOf 5) pc e = true := by
  have hl : pc < 16 := (List.getElem?_eq_some_iff.mp h).1
  exact ckM_use ck5_0 (by omega) (by omega) h
theorem ck6_0 : ckM 6 0 60 = true := by decide +kernel
theorem cke6 (pc : Nat) (e : In_) (h : (codeOf 6)[pc]? = some e) : ckE 6 (ownOf 6) (codeOf 6) (byOf 6) pc e = true := by
  have hl : pc < 40 := (List.getElem?_eq_some_iff.mp h).1
  exact ckM_use ck6_0 (by omega) (by omega) h
theorem ck7_0 : ckM 7 0 60 = true := by decide +kernel
theorem cke7 (pc : Nat) (e : In_) (h : (codeOf 7)[pc]? = some e) : ckE 7 (ownOf 7) (codeOf 7) (byOf 7) pc e = true := by
  have hl : pc < 26 := (List.getElem?_eq_some_iff.mp h).1
  exact ckM_use ck7_0 (by omega) (by omega) h
theorem ck8_0 : ckM 8 0 60 = true := by decide +kernel
theorem cke8 (pc : Nat) (e : In_) (h : (codeOf 8)[pc]? = some e) : ckE 8 (ownOf 8) (codeOf 8) (byOf 8) pc e = true := by
  have hl : pc < 22 := (List.getElem?_eq_some_iff.mp h).1
  exact ckM_use ck8_0 (by omega) (by omega) h
theorem ck9_0 : ckM 9 0 60 = true := by decide +kernel
theorem cke9 (pc : Nat) (e : In_) (h : (codeOf 9)[pc]? = some e) : ckE 9 (ownOf 9) (codeOf 9) (byOf 9) pc e = true := by
  have hl : pc < 19 := (List.getElem?_eq_some_iff.mp h).1
  exact ckM_use ck9_0 (by omega) (by omega) h
theorem ck10_0 : ckM 10 0 60 = true := by decide +kernel
theorem cke10 (pc : Nat) (e : In_) (h : (codeOf 10)[pc]? = some e) : ckE 10 (ownOf 10) (codeOf 10) (byOf 10) pc e = true := by
  have hl : pc < 19 := (List.getElem?_eq_some_iff.mp h).1
  exact ckM_use ck10_0 (by omega) (by omega) h
theorem ck11_0 : ckM 11 0 60 = true := by decide +kernel
theorem ck11_60 : ckM 11 60 60 = true := by decide +kernel
theorem cke11 (pc : Nat) (e : In_) (h : (codeOf 11)[pc]? = some e) : ckE 11 (ownOf 11) (codeOf 11) (byOf 11) pc e = true := by
  have hl : pc < 71 := (List.getElem?_eq_some_iff.mp h).1
  by_cases h0 : pc < 60
  · exact ckM_use ck11_0 (by omega) (by omega) h
  exact ckM_use ck11_60 (by omega) (by omega) h
theorem ck12_0 : ckM 12 0 60 = true := by decide +kernel
theorem ck12_60 : ckM 12 60 60 = true := by decide +kernel
theorem ck12_120 : ckM 12 120 60 = true := by decide +kernel
theorem cke12 (pc : Nat) (e : In_) (h : (codeOf 12)[pc]? = some e) : ckE 12 (ownOf 12) (codeOf 12) (byOf 12) pc e = true := by
  have hl : pc < 130 := (List.getElem?_eq_some_iff.mp h).1
  by_cases h0 : pc < 60
  · exact ckM_use ck12_0 (by omega) (by omega) h
  by_cases h60 : pc < 120
  · exact ckM_use ck12_60 (by omega) (by omega) h
  exact ckM_use ck12_120 (by omega) (by omega) h
theorem ck13_0 : ckM 13 0 60 = true := by decide +kernel
theorem cke13 (pc : Nat) (e : In_) (h : (codeOf 13)[pc]? = some e) : ckE 13 (ownOf 13) (codeOf 13) (byOf 13) pc e = true := by
  have hl : pc < 9 := (List.getElem?_eq_some_iff.mp h).1
  exact ckM_use ck13_0 (by omega) (by omega) h
theorem ck14_0 : ckM 14 0 60 = true := by decide +kernel
theorem cke14 (pc : Nat) (e : In_) (h : (codeOf 14)[pc]? = some e) : ckE 14 (ownOf 14) (codeOf 14) (byOf 14) pc e = true := by
  have hl : pc < 9 := (List.getElem?_eq_some_iff.mp h).1
  exact ckM_use ck14_0 (by omega) (by omega) h
theorem ck15_0 : ckM 15 0 60 = true := by decide +kernel
theorem cke15 (pc : Nat) (e : In_) (h : (codeOf 15)[pc]? = some e) : ckE 15 (ownOf 15) (codeOf 15) (byOf 15) pc e = true := by
  have hl : pc < 29 := (List.getElem?_eq_some_iff.mp h).1
  exact ckM_use ck15_0 (by omega) (by omega) h
theorem ck16_0 : ckM 16 0 60 = true := by decide +kernel
theorem cke16 (pc : Nat) (e : In_) (h : (codeOf 16)[pc]? = some e) : ckE 16 (ownOf 16) (codeOf 16) (byOf 16) pc e = true := by
  have hl : pc < 25 := (List.getElem?_eq_some_iff.mp h).1
  exact ckM_use ck16_0 (by omega) (by omega) h
theorem ck17_0 : ckM 17 0 60 = true := by decide +kernel
theorem cke17 (pc : Nat) (e : In_) (h : (codeOf 17)[pc]? = some e) : ckE 17 (ownOf 17) (codeOf 17) (byOf 17) pc e = true := by
  have hl : pc < 12 := (List.getElem?_eq_some_iff.mp h).1
  exact ckM_use ck17_0 (by omega) (by omega) h
theorem ck18_0 : ckM 18 0 60 = true := by decide +kernel
theorem cke18 (pc : Nat) (e : In_) (h : (codeOf 18)[pc]? = some e) : ckE 18 (ownOf 18) (codeOf 18) (byOf 18) pc e = true := by
  have hl : pc < 52 := (List.getElem?_eq_some_iff.mp h).1
  exact ckM_use ck18_0 (by omega) (by omega) h
theorem ck19_0 : ckM 19 0 60 = true := by decide +kernel
theorem cke19 (pc : Nat) (e : In_) (h : (codeOf 19)[pc]? = some e) : ckE 19 (ownOf 19) (codeOf 19) (byOf 19) pc e = true := by
  have hl : pc < 10 := (List.getElem?_eq_some_iff.mp h).1
  exact ckM_use ck19_0 (by omega) (by omega) h
theorem ck20_0 : ckM 20 0 60 = true := by decide +kernel
theorem cke20 (pc : Nat) (e : In_) (h : (codeOf 20)[pc]? = some e) : ckE 20 (ownOf 20) (codeOf 20) (byOf 20) pc e = true := by
  have hl : pc < 10 := (List.getElem?_eq_some_iff.mp h).1
  exact ckM_use ck20_0 (by omega) (by omega) h
theorem ck21_0 : ckM 21 0 60 = true := by decide +kernel
theorem cke21 (pc : Nat) (e : In_) (h : (codeOf 21)[pc]? = some e) : ckE 21 (ownOf 21) (codeOf 21) (byOf 21) pc e = true := by
  have hl : pc < 10 := (List.getElem?_eq_some_iff.mp h).1
  exact ckM_use ck21_0 (by omega) (by omega) h
theorem ck22_0 : ckM 22 0 60 = true := by decide +kernel
theorem cke22 (pc : Nat) (e : In_) (h : (codeOf 22)[pc]? = some e) : ckE 22 (ownOf 22) (codeOf 22) (byOf 22) pc e = true := by
  have hl : pc < 18 := (List.getElem?_eq_some_iff.mp h).1
  exact ckM_use ck22_0 (by omega) (by omega) h
theorem ck23_0 : ckM 23 0 60 = true := by decide +kernel
theorem cke23 (pc : Nat) (e : In_) (h : (codeOf 23)[pc]? = some e) : ckE 23 (ownOf 23) (codeOf 23) (byOf 23) pc e = true := by
  have hl : pc < 32 := (List.getElem?_eq_some_iff.mp h).1
  exact ckM_use ck23_0 (by omega) (by omega) h
theorem ck24_0 : ckM 24 0 60 = true := by decide +kernel
theorem cke24 (pc : Nat) (e : In_) (h : (codeOf 24)[pc]? = some e) : ckE 24 (ownOf 24) (codeOf 24) (byOf 24) pc e = true := by
  have hl : pc < 10 := (List.getElem?_eq_some_iff.mp h).1
  exact ckM_use ck24_0 (by omega) (by omega) h
theorem ck25_0 : ckM 25 0 60 = true := by decide +kernel
theorem cke25 (pc : Nat) (e : In_) (h : (codeOf 25)[pc]? = some e) : ckE 25 (ownOf 25) (codeOf 25) (byOf 25) pc e = true := by
  have hl : pc < 33 := (List.getElem?_eq_some_iff.mp h).1
  exact ckM_use ck25_0 (by omega) (by omega) h
theorem ck26_0 : ckM 26 0 60 = true := by decide +kernel
theorem cke26 (pc : Nat) (e : In_) (h : (codeOf 26)[pc]? = some e) : ckE 26 (ownOf 26) (codeOf 26) (byOf 26) pc e = true := by
  have hl : pc < 35 := (List.getElem?_eq_some_iff.mp h).1
  exact ckM_use ck26_0 (by omega) (by omega) h
theorem ck27_0 : ckM 27 0 60 = true := by decide +kernel
theorem cke27 (pc : Nat) (e : In_) (h : (codeOf 27)[pc]? = some e) : ckE 27 (ownOf 27) (codeOf 27) (byOf 27) pc e = true := by
  have hl : pc < 13 := (List.getElem?_eq_some_iff.mp h).1
  exact ckM_use ck27_0 (by omega) (by omega) h
theorem ck28_0 : ckM 28 0 60 = true := by decide +kernel
theorem cke28 (pc : Nat) (e : In_) (h : (codeOf 28)[pc]? = some e) : ckE 28 (ownOf 28) (codeOf 28) (byOf 28) pc e = true := by
  have hl : pc < 14 := (List.getElem?_eq_some_iff.mp h).1
  exact ckM_use ck28_0 (by omega) (by omega) h
theorem ck29_0 : ckM 29 0 60 = true := by decide +kernel
theorem cke29 (pc : Nat) (e : In_) (h : (codeOf 29)[pc]? = some e) : ckE 29 (ownOf 29) (codeOf 29) (byOf 29) pc e = true := by
  have hl : pc < 15 := (List.getElem?_eq_some_iff.mp h).1
  exact ckM_use ck29_0 (by omega) (by omega) h
theorem ck30_0 : ckM 30 0 60 = true := by decide +kernel
theorem cke30 (pc : Nat) (e : In_) (h : (codeOf 30)[pc]? = some e) : ckE 30 (ownOf 30) (codeOf 30) (byOf 30) pc e = true := by
  have hl : pc < 49 := (List.getElem?_eq_some_iff.mp h).1
  exact ckM_use ck30_0 (by omega) (by omega) h
theorem ck31_0 : ckM 31 0 60 = true := by decide +kernel
theorem cke31 (pc : Nat) (e : In_) (h : (codeOf 31)[pc]? = some e) : ckE 31 (ownOf 31) (codeOf 31) (byOf 31) pc e = true := by
  have hl : pc < 27 := (List.getElem?_eq_some_iff.mp h).1
  exact ckM_use ck31_0 (by omega) (by omega) h
theorem ck32_0 : ckM 32 0 60 = true := by decide +kernel
theorem cke32 (pc : Nat) (e : In_) (h : (codeOf 32)[pc]? = some e) : ckE 32 (ownOf 32) (codeOf 32) (byOf 32) pc e = true := by
  have hl : pc < 29 := (List.getElem?_eq_some_iff.mp h).1
  exact ckM_use ck32_0 (by omega) (by omega) h
theorem ck33_0 : ckM 33 0 60 = true := by decide +kernel
theorem cke33 (pc : Nat) (e : In_) (h : (codeOf 33)[pc]? = some e) : ckE 33 (ownOf 33) (codeOf 33) (byOf 33) pc e = true := by
  have hl : pc < 45 := (List.getElem?_eq_some_iff.mp h).1
  exact ckM_use ck33_0 (by omega) (by omega) h
theorem ck34_0 : ckM 34 0 60 = true := by decide +kernel
theorem cke34 (pc : Nat) (e : In_) (h : (codeOf 34)[pc]? = some e) : ckE 34 (ownOf 34) (codeOf 34) (byOf 34) pc e = true := by
  have hl : pc < 13 := (List.getElem?_eq_some_iff.mp h).1
  exact ckM_use ck34_0 (by omega) (by omega) h
theorem ck35_0 : ckM 35 0 60 = true := by decide +kernel
theorem ck35_60 : ckM 35 60 60 = true := by decide +kernel
theorem cke35 (pc : Nat) (e : In_) (h : (codeOf 35)[pc]? = some e) : ckE 35 (ownOf 35) (codeOf 35) (byOf 35) pc e = true := by
  have hl : pc < 65 := (List.getElem?_eq_some_iff.mp h).1
  by_cases h0 : pc < 60
  · exact ckM_use ck35_0 (by omega) (by omega) h
  exact ckM_use ck35_60 (by omega) (by omega) h
theorem ck36_0 : ckM 36 0 60 = true := by decide +kernel
theorem cke36 (pc : Nat) (e : In_) (h : (codeOf 36)[pc]? = some e) : ckE 36 (ownOf 36) (codeOf 36) (byOf 36) pc e = true := by
  have hl : pc < 9 := (List.getElem?_eq_some_iff.mp h).1
  exact ckM_use ck36_0 (by omega) (by omega) h
theorem ck37_0 : ckM 37 0 60 = true := by decide +kernel
theorem ck37_60 : ckM 37 60 60 = true := by decide +kernel
theorem cke37 (pc : Nat) (e : In_) (h : (codeOf 37)[pc]? = some e) : ckE 37 (ownOf 37) (codeOf 37) (byOf 37) pc e = true := by
  have hl : pc < 75 := (List.getElem?_eq_some_iff.mp h).1
  by_cases h0 : pc < 60
  · exact ckM_use ck37_0 (by omega) (by omega) h
  exact ckM_use ck37_60 (by omega) (by omega) h
theorem ck38_0 : ckM 38 0 60 = true := by decide +kernel
theorem cke38 (pc : Nat) (e : In_) (h : (codeOf 38)[pc]? = some e) : ckE 38 (ownOf 38) (codeOf 38) (byOf 38) pc e = true := by
  have hl : pc < 16 := (List.getElem?_eq_some_iff.mp h).1
  exact ckM_use ck38_0 (by omega) (by omega) h
theorem ck39_0 : ckM 39 0 60 = true := by decide +kernel
theorem cke39 (pc : Nat) (e : In_) (h : (codeOf 39)[pc]? = some e) : ckE 39 (ownOf 39) (codeOf 39) (byOf 39) pc e = true := by
  have hl : pc < 23 := (List.getElem?_eq_some_iff.mp h).1
  exact ckM_use ck39_0 (by omega) (by omega) h
theorem ck40_0 : ckM 40 0 60 = true := by decide +kernel
theorem cke40 (pc : Nat) (e : In_) (h : (codeOf 40)[pc]? = some e) : ckE 40 (ownOf 40) (codeOf 40) (byOf 40) pc e = true := by
  have hl : pc < 38 := (List.getElem?_eq_some_iff.mp h).1
  exact ckM_use ck40_0 (by omega) (by omega) h
theorem ck41_0 : ckM 41 0 60 = true := by decide +kernel
theorem cke41 (pc : Nat) (e : In_) (h : (codeOf 41)[pc]? = some e) : ckE 41 (ownOf 41) (codeOf 41) (byOf 41) pc e = true := by
  have hl : pc < 23 := (List.getElem?_eq_some_iff.mp h).1
  exact ckM_use ck41_0 (by omega) (by omega) h
theorem ck42_0 : ckM 42 0 60 = true := by decide +kernel
theorem cke42 (pc : Nat) (e : In_) (h : (codeOf 42)[pc]? = some e) : ckE 42 (ownOf 42) (codeOf 42) (byOf 42) pc e = true := by
  have hl : pc < 47 := (List.getElem?_eq_some_iff.mp h).1
  exact ckM_use ck42_0 (by omega) (by omega) h
theorem ck43_0 : ckM 43 0 60 = true := by decide +kernel
theorem cke43 (pc : Nat) (e : In_) (h : (codeOf 43)[pc]? = some e) : ckE 43 (ownOf 43) (codeOf 43) (byOf 43) pc e = true := by
  have hl : pc < 24 := (List.getElem?_eq_some_iff.mp h).1
  exact ckM_use ck43_0 (by omega) (by omega) h
theorem ck44_0 : ckM 44 0 60 = true := by decide +kernel
theorem cke44 (pc : Nat) (e : In_) (h : (codeOf 44)[pc]? = some e) : ckE 44 (ownOf 44) (codeOf 44) (byOf 44) pc e = true := by
  have hl : pc < 47 := (List.getElem?_eq_some_iff.mp h).1
  exact ckM_use ck44_0 (by omega) (by omega) h
theorem ck45_0 : ckM 45 0 60 = true := by decide +kernel
theorem cke45 (pc : Nat) (e : In_) (h : (codeOf 45)[pc]? = some e) : ckE 45 (ownOf 45) (codeOf 45) (byOf 45) pc e = true := by
  have hl : pc < 33 := (List.getElem?_eq_some_iff.mp h).1
  exact ckM_use ck45_0 (by omega) (by omega) h
theorem ck46_0 : ckM 46 0 60 = true := by decide +kernel
theorem cke46 (pc : Nat) (e : In_) (h : (codeOf 46)[pc]? = some e) : ckE 46 (ownOf 46) (codeOf 46) (byOf 46) pc e = true := by
  have hl : pc < 25 := (List.getElem?_eq_some_iff.mp h).1
  exact ckM_use ck46_0 (by omega) (by omega) h
theorem ck47_0 : ckM 47 0 60 = true := by decide +kernel
theorem cke47 (pc : Nat) (e : In_) (h : (codeOf 47)[pc]? = some e) : ckE 47 (ownOf 47) (codeOf 47) (byOf 47) pc e = true := by
  have hl : pc < 41 := (List.getElem?_eq_some_iff.mp h).1
  exact ckM_use ck47_0 (by omega) (by omega) h
theorem ck48_0 : ckM 48 0 60 = true := by decide +kernel
theorem cke48 (pc : Nat) (e : In_) (h : (codeOf 48)[pc]? = some e) : ckE 48 (ownOf 48) (codeOf 48) (byOf 48) pc e = true := by
  have hl : pc < 41 := (List.getElem?_eq_some_iff.mp h).1
  exact ckM_use ck48_0 (by omega) (by omega) h
theorem ck49_0 : ckM 49 0 60 = true := by decide +kernel
theorem cke49 (pc : Nat) (e : In_) (h : (codeOf 49)[pc]? = some e) : ckE 49 (ownOf 49) (codeOf 49) (byOf 49) pc e = true := by
  have hl : pc < 29 := (List.getElem?_eq_some_iff.mp h).1
  exact ckM_use ck49_0 (by omega) (by omega) h
theorem ck50_0 : ckM 50 0 60 = true := by decide +kernel
theorem cke50 (pc : Nat) (e : In_) (h : (codeOf 50)[pc]? = some e) : ckE 50 (ownOf 50) (codeOf 50) (byOf 50) pc e = true := by
  have hl : pc < 36 := (List.getElem?_eq_some_iff.mp h).1
  exact ckM_use ck50_0 (by omega) (by omega) h
theorem ck51_0 : ckM 51 0 60 = true := by decide +kernel
theorem cke51 (pc : Nat) (e : In_) (h : (codeOf 51)[pc]? = some e) : ckE 51 (ownOf 51) (codeOf 51) (byOf 51) pc e = true := by
  have hl : pc < 10 := (List.getElem?_eq_some_iff.mp h).1
  exact ckM_use ck51_0 (by omega) (by omega) h
theorem ck52_0 : ckM 52 0 60 = true := by decide +kernel
theorem cke52 (pc : Nat) (e : In_) (h : (codeOf 52)[pc]? = some e) : ckE 52 (ownOf 52) (codeOf 52) (byOf 52) pc e = true := by
  have hl : pc < 24 := (List.getElem?_eq_some_iff.mp h).1
  exact ckM_use ck52_0 (by omega) (by omega) h
theorem ck53_0 : ckM 53 0 60 = true := by decide +kernel
theorem cke53 (pc : Nat) (e : In_) (h : (codeOf 53)[pc]? = some e) : ckE 53 (ownOf 53) (codeOf 53) (byOf 53) pc e = true := by
  have hl : pc < 25 := (List.getElem?_eq_some_iff.mp h).1
  exact ckM_use ck53_0 (by omega) (by omega) h
theorem ck54_0 : ckM 54 0 60 = true := by decide +kernel
theorem cke54 (pc : Nat) (e : In_) (h : (codeOf 54)[pc]? = some e) : ckE 54 (ownOf 54) (codeOf 54) (byOf 54) pc e = true := by
  have hl : pc < 44 := (List.getElem?_eq_some_iff.mp h).1
  exact ckM_use ck54_0 (by omega) (by omega) h
theorem ck55_0 : ckM 55 0 60 = true := by decide +kernel
theorem cke55 (pc : Nat) (e : In_) (h : (codeOf 55)[pc]? = some e) : ckE 55 (ownOf 55) (codeOf 55) (byOf 55) pc e = true := by
  have hl : pc < 29 := (List.getElem?_eq_some_iff.mp h).1
  exact ckM_use ck55_0 (by omega) (by omega) h
theorem ck56_0 : ckM 56 0 60 = true := by decide +kernel
theorem cke56 (pc : Nat) (e : In_) (h : (codeOf 56)[pc]? = some e) : ckE 56 (ownOf 56) (codeOf 56) (byOf 56) pc e = true := by
  have hl : pc < 23 := (List.getElem?_eq_some_iff.mp h).1
  exact ckM_use ck56_0 (by omega) (by omega) h
theorem ck57_0 : ckM 57 0 60 = true := by decide +kernel
theorem ck57_60 : ckM 57 60 60 = true := by decide +kernel
theorem cke57 (pc : Nat) (e : In_) (h : (codeOf 57)[pc]? = some e) : ckE 57 (ownOf 57) (codeOf 57) (byOf 57) pc e = true := by
  have hl : pc < 72 := (List.getElem?_eq_some_iff.mp h).1
  by_cases h0 : pc < 60
  · exact ckM_use ck57_0 (by omega) (by omega) h
  exact ckM_use ck57_60 (by omega) (by omega) h
theorem ck58_0 : ckM 58 0 60 = true := by decide +kernel
theorem cke58 (pc : Nat) (e : In_) (h : (codeOf 58)[pc]? = some e) : ckE 58 (ownOf 58) (codeOf 58) (byOf 58) pc e = true := by
  have hl : pc < 25 := (List.getElem?_eq_some_iff.mp h).1
  exact ckM_use ck58_0 (by omega) (by omega) h
theorem ck59_0 : ckM 59 0 60 = true := by decide +kernel
theorem cke59 (pc : Nat) (e : In_) (h : (codeOf 59)[pc]? = some e) : ckE 59 (ownOf 59) (codeOf 59) (byOf 59) pc e = true := by
  have hl : pc < 27 := (List.getElem?_eq_some_iff.mp h).1
  exact ckM_use ck59_0 (by omega) (by omega) h
theorem ck60_0 : ckM 60 0 60 = true := by decide +kernel
theorem cke60 (pc : Nat) (e : In_) (h : (codeOf 60)[pc]? = some e) : ckE 60 (ownOf 60) (codeOf 60) (byOf 60) pc e = true := by
  have hl : pc < 41 := (List.getElem?_eq_some_iff.mp h).1
  exact ckM_use ck60_0 (by omega) (by omega) h
theorem ck61_0 : ckM 61 0 60 = true := by decide +kernel
theorem cke61 (pc : Nat) (e : In_) (h : (codeOf 61)[pc]? = some e) : ckE 61 (ownOf 61) (codeOf 61) (byOf 61) pc e = true := by
  have hl : pc < 44 := (List.getElem?_eq_some_iff.mp h).1
  exact ckM_use ck61_0 (by omega) (by omega) h
theorem ck62_0 : ckM 62 0 60 = true := by decide +kernel
theorem ck62_60 : ckM 62 60 60 = true := by decide +kernel
theorem cke62 (pc : Nat) (e : In_) (h : (codeOf 62)[pc]? = some e) : ckE 62 (ownOf 62) (codeOf 62) (byOf 62) pc e = true := by
  have hl : pc < 78 := (List.getElem?_eq_some_iff.mp h).1
  by_cases h0 : pc < 60
  · exact ckM_use ck62_0 (by omega) (by omega) h
  exact ckM_use ck62_60 (by omega) (by omega) h
theorem ck63_0 : ckM 63 0 60 = true := by decide +kernel
theorem cke63 (pc : Nat) (e : In_) (h : (codeOf 63)[pc]? = some e) : ckE 63 (ownOf 63) (codeOf 63) (byOf 63) pc e = true := by
  have hl : pc < 10 := (List.getElem?_eq_some_iff.mp h).1
  exact ckM_use ck63_0 (by omega) (by omega) h
theorem ck64_0 : ckM 64 0 60 = true := by decide +kernel
theorem cke64 (pc : Nat) (e : In_) (h : (codeOf 64)[pc]? = some e) : ckE 64 (ownOf 64) (codeOf 64) (byOf 64) pc e = true := by
  have hl : pc < 12 := (List.getElem?_eq_some_iff.mp h).1
  exact ckM_use ck64_0 (by omega) (by omega) h
theorem ck65_0 : ckM 65 0 60 = true := by decide +kernel
theorem cke65 (pc : Nat) (e : In_) (h : (codeOf 65)[pc]? = some e) : ckE 65 (ownOf 65) (codeOf 65) (byOf 65) pc e = true := by
  have hl : pc < 16 := (List.getElem?_eq_some_iff.mp h).1
  exact ckM_use ck65_0 (by omega) (by omega) h
theorem ck66_0 : ckM 66 0 60 = true := by decide +kernel
theorem cke66 (pc : Nat) (e : In_) (h : (codeOf 66)[pc]? = some e) : ckE 66 (ownOf 66) (codeOf 66) (byOf 66) pc e = true := by
  have hl : pc < 20 := (List.getElem?_eq_some_iff.mp h).1
  exact ckM_use ck66_0 (by omega) (by omega) h
theorem ck67_0 : ckM 67 0 60 = true := by decide +kernel
theorem cke67 (pc : Nat) (e : In_) (h : (codeOf 67)[pc]? = some e) : ckE 67 (ownOf 67) (codeOf 67) (byOf 67) pc e = true := by
  have hl : pc < 21 := (List.getElem?_eq_some_iff.mp h).1
  exact ckM_use ck67_0 (by omega) (by omega) h
theorem ck68_0 : ckM 68 0 60 = true := by decide +kernel
theorem cke68 (pc : Nat) (e : In_) (h : (codeOf 68)[pc]? = some e) : ckE 68 (ownOf 68) (codeOf 68) (byOf 68) pc e = true := by
  have hl : pc < 17 := (List.getElem?_eq_some_iff.mp h).1
  exact ckM_use ck68_0 (by omega) (by omega) h
theorem ck69_0 : ckM 69 0 60 = true := by decide +kernel
theorem cke69 (pc : Nat) (e : In_) (h : (codeOf 69)[pc]? = some e) : ckE 69 (ownOf 69) (codeOf 69) (byOf 69) pc e = true := by
  have hl : pc < 32 := (List.getElem?_eq_some_iff.mp h).1
  exact ckM_use ck69_0 (by omega) (by omega) h
theorem ck70_0 : ckM 70 0 60 = true := by decide +kernel
theorem ck70_60 : ckM 70 60 60 = true := by decide +kernel
theorem cke70 (pc : Nat) (e : In_) (h : (codeOf 70)[pc]? = some e) : ckE 70 (ownOf 70) (codeOf 70) (byOf 70) pc e = true := by
  have hl : pc < 75 := (List.getElem?_eq_some_iff.mp h).1
  by_cases h0 : pc < 60
  · exact ckM_use ck70_0 (by omega) (by omega) h
  exact ckM_use ck70_60 (by omega) (by omega) h
theorem ck71_0 : ckM 71 0 60 = true := by decide +kernel
theorem cke71 (pc : Nat) (e : In_) (h : (codeOf 71)[pc]? = some e) : ckE 71 (ownOf 71) (codeOf 71) (byOf 71) pc e = true := by
  have hl : pc < 18 := (List.getElem?_eq_some_iff.mp h).1
  exact ckM_use ck71_0 (by omega) (by omega) h
theorem ck72_0 : ckM 72 0 60 = true := by decide +kernel
theorem cke72 (pc : Nat) (e : In_) (h : (codeOf 72)[pc]? = some e) : ckE 72 (ownOf 72) (codeOf 72) (byOf 72) pc e = true := by
  have hl : pc < 40 := (List.getElem?_eq_some_iff.mp h).1
  exact ckM_use ck72_0 (by omega) (by omega) h
theorem ck73_0 : ckM 73 0 60 = true := by decide +kernel
theorem cke73 (pc : Nat) (e : In_) (h : (codeOf 73)[pc]? = some e) : ckE 73 (ownOf 73) (codeOf 73) (byOf 73) pc e = true := by
  have hl : pc < 46 := (List.getElem?_eq_some_iff.mp h).1
  exact ckM_use ck73_0 (by omega) (by omega) h
theorem ck74_0 : ckM 74 0 60 = true := by decide +kernel
theorem cke74 (pc : Nat) (e : In_) (h : (codeOf 74)[pc]? = some e) : ckE 74 (ownOf 74) (codeOf 74) (byOf 74) pc e = true := by
  have hl : pc < 20 := (List.getElem?_eq_some_iff.mp h).1
  exact ckM_use ck74_0 (by omega) (by omega) h
theorem ck75_0 : ckM 75 0 60 = true := by decide +kernel
theorem cke75 (pc : Nat) (e : In_) (h : (codeOf 75)[pc]? = some e) : ckE 75 (ownOf 75) (codeOf 75) (byOf 75) pc e = true := by
  have hl : pc < 22 := (List.getElem?_eq_some_iff.mp h).1
  exact ckM_use ck75_0 (by omega) (by omega) h
theorem ck76_0 : ckM 76 0 60 = true := by decide +kernel
theorem cke76 (pc : Nat) (e : In_) (h : (codeOf 76)[pc]? = some e) : ckE 76 (ownOf 76) (codeOf 76) (byOf 76) pc e = true := by
  have hl : pc < 7 := (List.getElem?_eq_some_iff.mp h).1
  exact ckM_use ck76_0 (by omega) (by omega) h
theorem ck77_0 : ckM 77 0 60 = true := by decide +kernel
theorem cke77 (pc : Nat) (e : In_) (h : (codeOf 77)[pc]? = some e) : ckE 77 (ownOf 77) (codeOf 77) (byOf 77) pc e = true := by
  have hl : pc < 7 := (List.getElem?_eq_some_iff.mp h).1
  exact ckM_use ck77_0 (by omega) (by omega) h
theorem ck78_0 : ckM 78 0 60 = true := by decide +kernel
theorem cke78 (pc : Nat) (e : In_) (h : (codeOf 78)[pc]? = some e) : ckE 78 (ownOf 78) (codeOf 78) (byOf 78) pc e = true := by
  have hl : pc < 9 := (List.getElem?_eq_some_iff.mp h).1
  exact ckM_use ck78_0 (by omega) (by omega) h
theorem ck79_0 : ckM 79 0 60 = true := by decide +kernel
theorem cke79 (pc : Nat) (e : In_) (h : (codeOf 79)[pc]? = some e) : ckE 79 (ownOf 79) (codeOf 79) (byOf 79) pc e = true := by
  have hl : pc < 12 := (List.getElem?_eq_some_iff.mp h).1
  exact ckM_use ck79_0 (by omega) (by omega) h
theorem ck80_0 : ckM 80 0 60 = true := by decide +kernel
theorem cke80 (pc : Nat) (e : In_) (h : (codeOf 80)[pc]? = some e) : ckE 80 (ownOf 80) (codeOf 80) (byOf 80) pc e = true := by
  have hl : pc < 6 := (List.getElem?_eq_some_iff.mp h).1
  exact ckM_use ck80_0 (by omega) (by omega) h
theorem ck81_0 : ckM 81 0 60 = true := by decide +kernel
theorem cke81 (pc : Nat) (e : In_) (h : (codeOf 81)[pc]? = some e) : ckE 81 (ownOf 81) (codeOf 81) (byOf 81) pc e = true := by
  have hl : pc < 11 := (List.getElem?_eq_some_iff.mp h).1
  exact ckM_use ck81_0 (by omega) (by omega) h
theorem ck82_0 : ckM 82 0 60 = true := by decide +kernel
theorem cke82 (pc : Nat) (e : In_) (h : (codeOf 82)[pc]? = some e) : ckE 82 (ownOf 82) (codeOf 82) (byOf 82) pc e = true := by
  have hl : pc < 13 := (List.getElem?_eq_some_iff.mp h).1
  exact ckM_use ck82_0 (by omega) (by omega) h
theorem ck83_0 : ckM 83 0 60 = true := by decide +kernel
theorem cke83 (pc : Nat) (e : In_) (h : (codeOf 83)[pc]? = some e) : ckE 83 (ownOf 83) (codeOf 83) (byOf 83) pc e = true := by
  have hl : pc < 30 := (List.getElem?_eq_some_iff.mp h).1
  exact ckM_use ck83_0 (by omega) (by omega) h
theorem ck84_0 : ckM 84 0 60 = true := by decide +kernel
theorem ck84_60 : ckM 84 60 60 = true := by decide +kernel
theorem cke84 (pc : Nat) (e : In_) (h : (codeOf 84)[pc]? = some e) : ckE 84 (ownOf 84) (codeOf 84) (byOf 84) pc e = true := by
  have hl : pc < 66 := (List.getElem?_eq_some_iff.mp h).1
  by_cases h0 : pc < 60
  · exact ckM_use ck84_0 (by omega) (by omega) h
  exact ckM_use ck84_60 (by omega) (by omega) h
theorem ck85_0 : ckM 85 0 60 = true := by decide +kernel
theorem cke85 (pc : Nat) (e : In_) (h : (codeOf 85)[pc]? = some e) : ckE 85 (ownOf 85) (codeOf 85) (byOf 85) pc e = true := by
  have hl : pc < 7 := (List.getElem?_eq_some_iff.mp h).1
  exact ckM_use ck85_0 (by omega) (by omega) h
theorem ck86_0 : ckM 86 0 60 = true := by decide +kernel
theorem ck86_60 : ckM 86 60 60 = true := by decide +kernel
theorem cke86 (pc : Nat) (e : In_) (h : (codeOf 86)[pc]? = some e) : ckE 86 (ownOf 86) (codeOf 86) (byOf 86) pc e = true := by
  have hl : pc < 70 := (List.getElem?_eq_some_iff.mp h).1
  by_cases h0 : pc < 60
  · exact ckM_use ck86_0 (by omega) (by omega) h
  exact ckM_use ck86_60 (by omega) (by omega) h
theorem ck87_0 : ckM 87 0 60 = true := by decide +kernel
theorem cke87 (pc : Nat) (e : In_) (h : (codeOf 87)[pc]? = some e) : ckE 87 (ownOf 87) (codeOf 87) (byOf 87) pc e = true := by
  have hl : pc < 27 := (List.getElem?_eq_some_iff.mp h).1
  exact ckM_use ck87_0 (by omega) (by omega) h
theorem ck88_0 : ckM 88 0 60 = true := by decide +kernel
theorem cke88 (pc : Nat) (e : In_) (h : (codeOf 88)[pc]? = some e) : ckE 88 (ownOf 88) (codeOf 88) (byOf 88) pc e = true := by
  have hl : pc < 39 := (List.getElem?_eq_some_iff.mp h).1
  exact ckM_use ck88_0 (by omega) (by omega) h
theorem ck89_0 : ckM 89 0 60 = true := by decide +kernel
theorem cke89 (pc : Nat) (e : In_) (h : (codeOf 89)[pc]? = some e) : ckE 89 (ownOf 89) (codeOf 89) (byOf 89) pc e = true := by
  have hl : pc < 31 := (List.getElem?_eq_some_iff.mp h).1
  exact ckM_use ck89_0 (by omega) (by omega) h
theorem ck90_0 : ckM 90 0 60 = true := by decide +kernel
theorem ck90_60 : ckM 90 60 60 = true := by decide +kernel
theorem cke90 (pc : Nat) (e : In_) (h : (codeOf 90)[pc]? = some e) : ckE 90 (ownOf 90) (codeOf 90) (byOf 90) pc e = true := by
  have hl : pc < 84 := (List.getElem?_eq_some_iff.mp h).1
  by_cases h0 : pc < 60
  · exact ckM_use ck90_0 (by omega) (by omega) h
  exact ckM_use ck90_60 (by omega) (by omega) h
theorem ck91_0 : ckM 91 0 60 = true := by decide +kernel
theorem cke91 (pc : Nat) (e : In_) (h : (codeOf 91)[pc]? = some e) : ckE 91 (ownOf 91) (codeOf 91) (byOf 91) pc e = true := by
  have hl : pc < 53 := (List.getElem?_eq_some_iff.mp h).1
  exact ckM_use ck91_0 (by omega) (by omega) h
theorem ck92_0 : ckM 92 0 60 = true := by decide +kernel
theorem cke92 (pc : Nat) (e : In_) (h : (codeOf 92)[pc]? = some e) : ckE 92 (ownOf 92) (codeOf 92) (byOf 92) pc e = true := by
  have hl : pc < 46 := (List.getElem?_eq_some_iff.mp h).1
  exact ckM_use ck92_0 (by omega) (by omega) h
theorem ck93_0 : ckM 93 0 60 = true := by decide +kernel
theorem cke93 (pc : Nat) (e : In_) (h : (codeOf 93)[pc]? = some e) : ckE 93 (ownOf 93) (codeOf 93) (byOf 93) pc e = true := by
  have hl : pc < 38 := (List.getElem?_eq_some_iff.mp h).1
  exact ckM_use ck93_0 (by omega) (by omega) h
theorem ck94_0 : ckM 94 0 60 = true := by decide +kernel
theorem cke94 (pc : Nat) (e : In_) (h : (codeOf 94)[pc]? = some e) : ckE 94 (ownOf 94) (codeOf 94) (byOf 94) pc e = true := by
  have hl : pc < 32 := (List.getElem?_eq_some_iff.mp h).1
  exact ckM_use ck94_0 (by omega) (by omega) h
theorem ck95_0 : ckM 95 0 60 = true := by decide +kernel
theorem cke95 (pc : Nat) (e : In_) (h : (codeOf 95)[pc]? = some e) : ckE 95 (ownOf 95) (codeOf 95) (byOf 95) pc e = true := by
  have hl : pc < 55 := (List.getElem?_eq_some_iff.mp h).1
  exact ckM_use ck95_0 (by omega) (by omega) h
theorem ck96_0 : ckM 96 0 60 = true := by decide +kernel
theorem ck96_60 : ckM 96 60 60 = true := by decide +kernel
theorem cke96 (pc : Nat) (e : In_) (h : (codeOf 96)[pc]? = some e) : ckE 96 (ownOf 96) (codeOf 96) (byOf 96) pc e = true := by
  have hl : pc < 64 := (List.getElem?_eq_some_iff.mp h).1
  by_cases h0 : pc < 60
  · exact ckM_use ck96_0 (by omega) (by omega) h
  exact ckM_use ck96_60 (by omega) (by omega) h
theorem ck97_0 : ckM 97 0 60 = true := by decide +kernel
theorem ck97_60 : ckM 97 60 60 = true := by decide +kernel
theorem cke97 (pc : Nat) (e : In_) (h : (codeOf 97)[pc]? = some e) : ckE 97 (ownOf 97) (codeOf 97) (byOf 97) pc e = true := by
  have hl : pc < 114 := (List.getElem?_eq_some_iff.mp h).1
  by_cases h0 : pc < 60
  · exact ckM_use ck97_0 (by omega) (by omega) h
  exact ckM_use ck97_60 (by omega) (by omega) h
theorem ck98_0 : ckM 98 0 60 = true := by decide +kernel
theorem cke98 (pc : Nat) (e : In_) (h : (codeOf 98)[pc]? = some e) : ckE 98 (ownOf 98) (codeOf 98) (byOf 98) pc e = true := by
  have hl : pc < 5 := (List.getElem?_eq_some_iff.mp h).1
  exact ckM_use ck98_0 (by omega) (by omega) h
theorem ck99_0 : ckM 99 0 60 = true := by decide +kernel
theorem cke99 (pc : Nat) (e : In_) (h : (codeOf 99)[pc]? = some e) : ckE 99 (ownOf 99) (codeOf 99) (byOf 99) pc e = true := by
  have hl : pc < 46 := (List.getElem?_eq_some_iff.mp h).1
  exact ckM_use ck99_0 (by omega) (by omega) h
theorem ck100_0 : ckM 100 0 60 = true := by decide +kernel
theorem ck100_60 : ckM 100 60 60 = true := by decide +kernel
theorem cke100 (pc : Nat) (e : In_) (h : (codeOf 100)[pc]? = some e) : ckE 100 (ownOf 100) (codeOf 100) (byOf 100) pc e = true := by
  have hl : pc < 91 := (List.getElem?_eq_some_iff.mp h).1
  by_cases h0 : pc < 60
  · exact ckM_use ck100_0 (by omega) (by omega) h
  exact ckM_use ck100_60 (by omega) (by omega) h
theorem ck101_0 : ckM 101 0 60 = true := by decide +kernel
theorem cke101 (pc : Nat) (e : In_) (h : (codeOf 101)[pc]? = some e) : ckE 101 (ownOf 101) (codeOf 101) (byOf 101) pc e = true := by
  have hl : pc < 16 := (List.getElem?_eq_some_iff.mp h).1
  exact ckM_use ck101_0 (by omega) (by omega) h
theorem ck102_0 : ckM 102 0 60 = true := by decide +kernel
theorem ck102_60 : ckM 102 60 60 = true := by decide +kernel
theorem cke102 (pc : Nat) (e : In_) (h : (codeOf 102)[pc]? = some e) : ckE 102 (ownOf 102) (codeOf 102) (byOf 102) pc e = true := by
  have hl : pc < 88 := (List.getElem?_eq_some_iff.mp h).1
  by_cases h0 : pc < 60
  · exact ckM_use ck102_0 (by omega) (by omega) h
  exact ckM_use ck102_60 (by omega) (by omega) h
theorem ck103_0 : ckM 103 0 60 = true := by decide +kernel
theorem ck103_60 : ckM 103 60 60 = true := by decide +kernel
theorem cke103 (pc : Nat) (e : In_) (h : (codeOf 103)[pc]? = some e) : ckE 103 (ownOf 103) (codeOf 103) (byOf 103) pc e = true := by
  have hl : pc < 100 := (List.getElem?_eq_some_iff.mp h).1
  by_cases h0 : pc < 60
  · exact ckM_use ck103_0 (by omega) (by omega) h
  exact ckM_use ck103_60 (by omega) (by omega) h
theorem ck104_0 : ckM 104 0 60 = true := by decide +kernel
theorem cke104 (pc : Nat) (e : In_) (h : (codeOf 104)[pc]? = some e) : ckE 104 (ownOf 104) (codeOf 104) (byOf 104) pc e = true := by
  have hl : pc < 4 := (List.getElem?_eq_some_iff.mp h).1
  exact ckM_use ck104_0 (by omega) (by omega) h
theorem ck105_0 : ckM 105 0 60 = true := by decide +kernel
theorem cke105 (pc : Nat) (e : In_) (h : (codeOf 105)[pc]? = some e) : ckE 105 (ownOf 105) (codeOf 105) (byOf 105) pc e = true := by
  have hl : pc < 3 := (List.getElem?_eq_some_iff.mp h).1
  exact ckM_use ck105_0 (by omega) (by omega) h
theorem ck106_0 : ckM 106 0 60 = true := by decide +kernel
theorem cke106 (pc : Nat) (e : In_) (h : (codeOf 106)[pc]? = some e) : ckE 106 (ownOf 106) (codeOf 106) (byOf 106) pc e = true := by
  have hl : pc < 40 := (List.getElem?_eq_some_iff.mp h).1
  exact ckM_use ck106_0 (by omega) (by omega) h
theorem ck107_0 : ckM 107 0 60 = true := by decide +kernel
theorem cke107 (pc : Nat) (e : In_) (h : (codeOf 107)[pc]? = some e) : ckE 107 (ownOf 107) (codeOf 107) (byOf 107) pc e = true := by
  have hl : pc < 52 := (List.getElem?_eq_some_iff.mp h).1
  exact ckM_use ck107_0 (by omega) (by omega) h
theorem ck108_0 : ckM 108 0 60 = true := by decide +kernel
theorem cke108 (pc : Nat) (e : In_) (h : (codeOf 108)[pc]? = some e) : ckE 108 (ownOf 108) (codeOf 108) (byOf 108) pc e = true := by
  have hl : pc < 16 := (List.getElem?_eq_some_iff.mp h).1
  exact ckM_use ck108_0 (by omega) (by omega) h
theorem ck109_0 : ckM 109 0 60 = true := by decide +kernel
theorem cke109 (pc : Nat) (e : In_) (h : (codeOf 109)[pc]? = some e) : ckE 109 (ownOf 109) (codeOf 109) (byOf 109) pc e = true := by
  have hl : pc < 37 := (List.getElem?_eq_some_iff.mp h).1
  exact ckM_use ck109_0 (by omega) (by omega) h
theorem ck110_0 : ckM 110 0 60 = true := by decide +kernel
theorem ck110_60 : ckM 110 60 60 = true := by decide +kernel
theorem ck110_120 : ckM 110 120 60 = true := by decide +kernel
theorem cke110 (pc : Nat) (e : In_) (h : (codeOf 110)[pc]? = some e) : ckE 110 (ownOf 110) (codeOf 110) (byOf 110) pc e = true := by
  have hl : pc < 180 := (List.getElem?_eq_some_iff.mp h).1
  by_cases h0 : pc < 60
  · exact ckM_use ck110_0 (by omega) (by omega) h
  by_cases h60 : pc < 120
  · exact ckM_use ck110_60 (by omega) (by omega) h
  exact ckM_use ck110_120 (by omega) (by omega) h
theorem ck111_0 : ckM 111 0 60 = true := by decide +kernel
theorem cke111 (pc : Nat) (e : In_) (h : (codeOf 111)[pc]? = some e) : ckE 111 (ownOf 111) (codeOf 111) (byOf 111) pc e = true := by
  have hl : pc < 22 := (List.getElem?_eq_some_iff.mp h).1
  exact ckM_use ck111_0 (by omega) (by omega) h
theorem ck112_0 : ckM 112 0 60 = true := by decide +kernel
theorem cke112 (pc : Nat) (e : In_) (h : (codeOf 112)[pc]? = some e) : ckE 112 (ownOf 112) (codeOf 112) (byOf 112) pc e = true := by
  have hl : pc < 18 := (List.getElem?_eq_some_iff.mp h).1
  exact ckM_use ck112_0 (by omega) (by omega) h
theorem ck113_0 : ckM 113 0 60 = true := by decide +kernel
theorem cke113 (pc : Nat) (e : In_) (h : (codeOf 113)[pc]? = some e) : ckE 113 (ownOf 113) (codeOf 113) (byOf 113) pc e = true := by
  have hl : pc < 51 := (List.getElem?_eq_some_iff.mp h).1
  exact ckM_use ck113_0 (by omega) (by omega) h
theorem ck114_0 : ckM 114 0 60 = true := by decide +kernel
theorem cke114 (pc : Nat) (e : In_) (h : (codeOf 114)[pc]? = some e) : ckE 114 (ownOf 114) (codeOf 114) (byOf 114) pc e = true := by
  have hl : pc < 15 := (List.getElem?_eq_some_iff.mp h).1
  exact ckM_use ck114_0 (by omega) (by omega) h
theorem ck115_0 : ckM 115 0 60 = true := by decide +kernel
theorem cke115 (pc : Nat) (e : In_) (h : (codeOf 115)[pc]? = some e) : ckE 115 (ownOf 115) (codeOf 115) (byOf 115) pc e = true := by
  have hl : pc < 8 := (List.getElem?_eq_some_iff.mp h).1
  exact ckM_use ck115_0 (by omega) (by omega) h
theorem ck116_0 : ckM 116 0 60 = true := by decide +kernel
theorem cke116 (pc : Nat) (e : In_) (h : (codeOf 116)[pc]? = some e) : ckE 116 (ownOf 116) (codeOf 116) (byOf 116) pc e = true := by
  have hl : pc < 41 := (List.getElem?_eq_some_iff.mp h).1
  exact ckM_use ck116_0 (by omega) (by omega) h
theorem ck117_0 : ckM 117 0 60 = true := by decide +kernel
theorem cke117 (pc : Nat) (e : In_) (h : (codeOf 117)[pc]? = some e) : ckE 117 (ownOf 117) (codeOf 117) (byOf 117) pc e = true := by
  have hl : pc < 23 := (List.getElem?_eq_some_iff.mp h).1
  exact ckM_use ck117_0 (by omega) (by omega) h
theorem ck118_0 : ckM 118 0 60 = true := by decide +kernel
theorem cke118 (pc : Nat) (e : In_) (h : (codeOf 118)[pc]? = some e) : ckE 118 (ownOf 118) (codeOf 118) (byOf 118) pc e = true := by
  have hl : pc < 11 := (List.getElem?_eq_some_iff.mp h).1
  exact ckM_use ck118_0 (by omega) (by omega) h
theorem ck119_0 : ckM 119 0 60 = true := by decide +kernel
theorem ck119_60 : ckM 119 60 60 = true := by decide +kernel
theorem cke119 (pc : Nat) (e : In_) (h : (codeOf 119)[pc]? = some e) : ckE 119 (ownOf 119) (codeOf 119) (byOf 119) pc e = true := by
  have hl : pc < 98 := (List.getElem?_eq_some_iff.mp h).1
  by_cases h0 : pc < 60
  · exact ckM_use ck119_0 (by omega) (by omega) h
  exact ckM_use ck119_60 (by omega) (by omega) h
theorem ck120_0 : ckM 120 0 60 = true := by decide +kernel
theorem ck120_60 : ckM 120 60 60 = true := by decide +kernel
theorem cke120 (pc : Nat) (e : In_) (h : (codeOf 120)[pc]? = some e) : ckE 120 (ownOf 120) (codeOf 120) (byOf 120) pc e = true := by
  have hl : pc < 65 := (List.getElem?_eq_some_iff.mp h).1
  by_cases h0 : pc < 60
  · exact ckM_use ck120_0 (by omega) (by omega) h
  exact ckM_use ck120_60 (by omega) (by omega) h
theorem ck121_0 : ckM 121 0 60 = true := by decide +kernel
theorem cke121 (pc : Nat) (e : In_) (h : (codeOf 121)[pc]? = some e) : ckE 121 (ownOf 121) (codeOf 121) (byOf 121) pc e = true := by
  have hl : pc < 21 := (List.getElem?_eq_some_iff.mp h).1
  exact ckM_use ck121_0 (by omega) (by omega) h
theorem ck122_0 : ckM 122 0 60 = true := by decide +kernel
theorem cke122 (pc : Nat) (e : In_) (h : (codeOf 122)[pc]? = some e) : ckE 122 (ownOf 122) (codeOf 122) (byOf 122) pc e = true := by
  have hl : pc < 26 := (List.getElem?_eq_some_iff.mp h).1
  exact ckM_use ck122_0 (by omega) (by omega) h
theorem ck123_0 : ckM 123 0 60 = true := by decide +kernel
theorem cke123 (pc : Nat) (e : In_) (h : (codeOf 123)[pc]? = some e) : ckE 123 (ownOf 123) (codeOf 123) (byOf 123) pc e = true := by
  have hl : pc < 57 := (List.getElem?_eq_some_iff.mp h).1
  exact ckM_use ck123_0 (by omega) (by omega) h
theorem ck124_0 : ckM 124 0 60 = true := by decide +kernel
theorem cke124 (pc : Nat) (e : In_) (h : (codeOf 124)[pc]? = some e) : ckE 124 (ownOf 124) (codeOf 124) (byOf 124) pc e = true := by
  have hl : pc < 22 := (List.getElem?_eq_some_iff.mp h).1
  exact ckM_use ck124_0 (by omega) (by omega) h
theorem ck125_0 : ckM 125 0 60 = true := by decide +kernel
theorem cke125 (pc : Nat) (e : In_) (h : (codeOf 125)[pc]? = some e) : ckE 125 (ownOf 125) (codeOf 125) (byOf 125) pc e = true := by
  have hl : pc < 42 := (List.getElem?_eq_some_iff.mp h).1
  exact ckM_use ck125_0 (by omega) (by omega) h
theorem ck126_0 : ckM 126 0 60 = true := by decide +kernel
theorem ck126_60 : ckM 126 60 60 = true := by decide +kernel
theorem cke126 (pc : Nat) (e : In_) (h : (codeOf 126)[pc]? = some e) : ckE 126 (ownOf 126) (codeOf 126) (byOf 126) pc e = true := by
  have hl : pc < 64 := (List.getElem?_eq_some_iff.mp h).1
  by_cases h0 : pc < 60
  · exact ckM_use ck126_0 (by omega) (by omega) h
  exact ckM_use ck126_60 (by omega) (by omega) h
theorem ck127_0 : ckM 127 0 60 = true := by decide +kernel
theorem cke127 (pc : Nat) (e : In_) (h : (codeOf 127)[pc]? = some e) : ckE 127 (ownOf 127) (codeOf 127) (byOf 127) pc e = true := by
  have hl : pc < 10 := (List.getElem?_eq_some_iff.mp h).1
  exact ckM_use ck127_0 (by omega) (by omega) h
theorem ck128_0 : ckM 128 0 60 = true := by decide +kernel
theorem cke128 (pc : Nat) (e : In_) (h : (codeOf 128)[pc]? = some e) : ckE 128 (ownOf 128) (codeOf 128) (byOf 128) pc e = true := by
  have hl : pc < 28 := (List.getElem?_eq_some_iff.mp h).1
  exact ckM_use ck128_0 (by omega) (by omega) h
theorem ck129_0 : ckM 129 0 60 = true := by decide +kernel
theorem cke129 (pc : Nat) (e : In_) (h : (codeOf 129)[pc]? = some e) : ckE 129 (ownOf 129) (codeOf 129) (byOf 129) pc e = true := by
  have hl : pc < 26 := (List.getElem?_eq_some_iff.mp h).1
  exact ckM_use ck129_0 (by omega) (by omega) h
theorem ck130_0 : ckM 130 0 60 = true := by decide +kernel
theorem cke130 (pc : Nat) (e : In_) (h : (codeOf 130)[pc]? = some e) : ckE 130 (ownOf 130) (codeOf 130) (byOf 130) pc e = true := by
  have hl : pc < 32 := (List.getElem?_eq_some_iff.mp h).1
  exact ckM_use ck130_0 (by omega) (by omega) h
theorem ck131_0 : ckM 131 0 60 = true := by decide +kernel
theorem cke131 (pc : Nat) (e : In_) (h : (codeOf 131)[pc]? = some e) : ckE 131 (ownOf 131) (codeOf 131) (byOf 131) pc e = true := by
  have hl : pc < 51 := (List.getElem?_eq_some_iff.mp h).1
  exact ckM_use ck131_0 (by omega) (by omega) h
theorem ck132_0 : ckM 132 0 60 = true := by decide +kernel
theorem ck132_60 : ckM 132 60 60 = true := by decide +kernel
theorem cke132 (pc : Nat) (e : In_) (h : (codeOf 132)[pc]? = some e) : ckE 132 (ownOf 132) (codeOf 132) (byOf 132) pc e = true := by
  have hl : pc < 62 := (List.getElem?_eq_some_iff.mp h).1
  by_cases h0 : pc < 60
  · exact ckM_use ck132_0 (by omega) (by omega) h
  exact ckM_use ck132_60 (by omega) (by omega) h
theorem ck133_0 : ckM 133 0 60 = true := by decide +kernel
theorem cke133 (pc : Nat) (e : In_) (h : (codeOf 133)[pc]? = some e) : ckE 133 (ownOf 133) (codeOf 133) (byOf 133) pc e = true := by
  have hl : pc < 22 := (List.getElem?_eq_some_iff.mp h).1
  exact ckM_use ck133_0 (by omega) (by omega) h
theorem ck134_0 : ckM 134 0 60 = true := by decide +kernel
theorem ck134_60 : ckM 134 60 60 = true := by decide +kernel
theorem ck134_120 : ckM 134 120 60 = true := by decide +kernel
theorem cke134 (pc : Nat) (e : In_) (h : (codeOf 134)[pc]? = some e) : ckE 134 (ownOf 134) (codeOf 134) (byOf 134) pc e = true := by
  have hl : pc < 134 := (List.getElem?_eq_some_iff.mp h).1
  by_cases h0 : pc < 60
  · exact ckM_use ck134_0 (by omega) (by omega) h
  by_cases h60 : pc < 120
  · exact ckM_use ck134_60 (by omega) (by omega) h
  exact ckM_use ck134_120 (by omega) (by omega) h
theorem ck135_0 : ckM 135 0 60 = true := by decide +kernel
theorem ck135_60 : ckM 135 60 60 = true := by decide +kernel
theorem cke135 (pc : Nat) (e : In_) (h : (codeOf 135)[pc]? = some e) : ckE 135 (ownOf 135) (codeOf 135) (byOf 135) pc e = true := by
  have hl : pc < 99 := (List.getElem?_eq_some_iff.mp h).1
  by_cases h0 : pc < 60
  · exact ckM_use ck135_0 (by omega) (by omega) h
  exact ckM_use ck135_60 (by omega) (by omega) h
theorem ck136_0 : ckM 136 0 60 = true := by decide +kernel
theorem ck136_60 : ckM 136 60 60 = true := by decide +kernel
theorem cke136 (pc : Nat) (e : In_) (h : (codeOf 136)[pc]? = some e) : ckE 136 (ownOf 136) (codeOf 136) (byOf 136) pc e = true := by
  have hl : pc < 109 := (List.getElem?_eq_some_iff.mp h).1
  by_cases h0 : pc < 60
  · exact ckM_use ck136_0 (by omega) (by omega) h
  exact ckM_use ck136_60 (by omega) (by omega) h
theorem ck137_0 : ckM 137 0 60 = true := by decide +kernel
theorem cke137 (pc : Nat) (e : In_) (h : (codeOf 137)[pc]? = some e) : ckE 137 (ownOf 137) (codeOf 137) (byOf 137) pc e = true := by
  have hl : pc < 37 := (List.getElem?_eq_some_iff.mp h).1
  exact ckM_use ck137_0 (by omega) (by omega) h
theorem ck138_0 : ckM 138 0 60 = true := by decide +kernel
theorem ck138_60 : ckM 138 60 60 = true := by decide +kernel
theorem cke138 (pc : Nat) (e : In_) (h : (codeOf 138)[pc]? = some e) : ckE 138 (ownOf 138) (codeOf 138) (byOf 138) pc e = true := by
  have hl : pc < 69 := (List.getElem?_eq_some_iff.mp h).1
  by_cases h0 : pc < 60
  · exact ckM_use ck138_0 (by omega) (by omega) h
  exact ckM_use ck138_60 (by omega) (by omega) h
theorem ck139_0 : ckM 139 0 60 = true := by decide +kernel
theorem ck139_60 : ckM 139 60 60 = true := by decide +kernel
theorem cke139 (pc : Nat) (e : In_) (h : (codeOf 139)[pc]? = some e) : ckE 139 (ownOf 139) (codeOf 139) (byOf 139) pc e = true := by
  have hl : pc < 84 := (List.getElem?_eq_some_iff.mp h).1
  by_cases h0 : pc < 60
  · exact ckM_use ck139_0 (by omega) (by omega) h
  exact ckM_use ck139_60 (by omega) (by omega) h
theorem ck140_0 : ckM 140 0 60 = true := by decide +kernel
theorem ck140_60 : ckM 140 60 60 = true := by decide +kernel
theorem cke140 (pc : Nat) (e : In_) (h : (codeOf 140)[pc]? = some e) : ckE 140 (ownOf 140) (codeOf 140) (byOf 140) pc e = true := by
  have hl : pc < 68 := (List.getElem?_eq_some_iff.mp h).1
  by_cases h0 : pc < 60
  · exact ckM_use ck140_0 (by omega) (by omega) h
  exact ckM_use ck140_60 (by omega) (by omega) h
theorem ck141_0 : ckM 141 0 60 = true := by decide +kernel
theorem ck141_60 : ckM 141 60 60 = true := by decide +kernel
theorem ck141_120 : ckM 141 120 60 = true := by decide +kernel
theorem cke141 (pc : Nat) (e : In_) (h : (codeOf 141)[pc]? = some e) : ckE 141 (ownOf 141) (codeOf 141) (byOf 141) pc e = true := by
  have hl : pc < 146 := (List.getElem?_eq_some_iff.mp h).1
  by_cases h0 : pc < 60
  · exact ckM_use ck141_0 (by omega) (by omega) h
  by_cases h60 : pc < 120
  · exact ckM_use ck141_60 (by omega) (by omega) h
  exact ckM_use ck141_120 (by omega) (by omega) h
theorem ck142_0 : ckM 142 0 60 = true := by decide +kernel
theorem cke142 (pc : Nat) (e : In_) (h : (codeOf 142)[pc]? = some e) : ckE 142 (ownOf 142) (codeOf 142) (byOf 142) pc e = true := by
  have hl : pc < 21 := (List.getElem?_eq_some_iff.mp h).1
  exact ckM_use ck142_0 (by omega) (by omega) h
theorem ck143_0 : ckM 143 0 60 = true := by decide +kernel
theorem ck143_60 : ckM 143 60 60 = true := by decide +kernel
theorem cke143 (pc : Nat) (e : In_) (h : (codeOf 143)[pc]? = some e) : ckE 143 (ownOf 143) (codeOf 143) (byOf 143) pc e = true := by
  have hl : pc < 109 := (List.getElem?_eq_some_iff.mp h).1
  by_cases h0 : pc < 60
  · exact ckM_use ck143_0 (by omega) (by omega) h
  exact ckM_use ck143_60 (by omega) (by omega) h
theorem ck144_0 : ckM 144 0 60 = true := by decide +kernel
theorem cke144 (pc : Nat) (e : In_) (h : (codeOf 144)[pc]? = some e) : ckE 144 (ownOf 144) (codeOf 144) (byOf 144) pc e = true := by
  have hl : pc < 14 := (List.getElem?_eq_some_iff.mp h).1
  exact ckM_use ck144_0 (by omega) (by omega) h
theorem ck145_0 : ckM 145 0 60 = true := by decide +kernel
theorem ck145_60 : ckM 145 60 60 = true := by decide +kernel
theorem cke145 (pc : Nat) (e : In_) (h : (codeOf 145)[pc]? = some e) : ckE 145 (ownOf 145) (codeOf 145) (byOf 145) pc e = true := by
  have hl : pc < 107 := (List.getElem?_eq_some_iff.mp h).1
  by_cases h0 : pc < 60
  · exact ckM_use ck145_0 (by omega) (by omega) h
  exact ckM_use ck145_60 (by omega) (by omega) h
theorem ck146_0 : ckM 146 0 60 = true := by decide +kernel
theorem cke146 (pc : Nat) (e : In_) (h : (codeOf 146)[pc]? = some e) : ckE 146 (ownOf 146) (codeOf 146) (byOf 146) pc e = true := by
  have hl : pc < 5 := (List.getElem?_eq_some_iff.mp h).1
  exact ckM_use ck146_0 (by omega) (by omega) h
theorem ck147_0 : ckM 147 0 60 = true := by decide +kernel
theorem cke147 (pc : Nat) (e : In_) (h : (codeOf 147)[pc]? = some e) : ckE 147 (ownOf 147) (codeOf 147) (byOf 147) pc e = true := by
  have hl : pc < 41 := (List.getElem?_eq_some_iff.mp h).1
  exact ckM_use ck147_0 (by omega) (by omega) h
theorem ck148_0 : ckM 148 0 60 = true := by decide +kernel
theorem cke148 (pc : Nat) (e : In_) (h : (codeOf 148)[pc]? = some e) : ckE 148 (ownOf 148) (codeOf 148) (byOf 148) pc e = true := by
  have hl : pc < 12 := (List.getElem?_eq_some_iff.mp h).1
  exact ckM_use ck148_0 (by omega) (by omega) h
theorem ck149_0 : ckM 149 0 60 = true := by decide +kernel
theorem cke149 (pc : Nat) (e : In_) (h : (codeOf 149)[pc]? = some e) : ckE 149 (ownOf 149) (codeOf 149) (byOf 149) pc e = true := by
  have hl : pc < 17 := (List.getElem?_eq_some_iff.mp h).1
  exact ckM_use ck149_0 (by omega) (by omega) h
theorem ck150_0 : ckM 150 0 60 = true := by decide +kernel
theorem cke150 (pc : Nat) (e : In_) (h : (codeOf 150)[pc]? = some e) : ckE 150 (ownOf 150) (codeOf 150) (byOf 150) pc e = true := by
  have hl : pc < 45 := (List.getElem?_eq_some_iff.mp h).1
  exact ckM_use ck150_0 (by omega) (by omega) h
theorem ck151_0 : ckM 151 0 60 = true := by decide +kernel
theorem cke151 (pc : Nat) (e : In_) (h : (codeOf 151)[pc]? = some e) : ckE 151 (ownOf 151) (codeOf 151) (byOf 151) pc e = true := by
  have hl : pc < 43 := (List.getElem?_eq_some_iff.mp h).1
  exact ckM_use ck151_0 (by omega) (by omega) h
theorem ck152_0 : ckM 152 0 60 = true := by decide +kernel
theorem cke152 (pc : Nat) (e : In_) (h : (codeOf 152)[pc]? = some e) : ckE 152 (ownOf 152) (codeOf 152) (byOf 152) pc e = true := by
  have hl : pc < 42 := (List.getElem?_eq_some_iff.mp h).1
  exact ckM_use ck152_0 (by omega) (by omega) h
theorem ck153_0 : ckM 153 0 60 = true := by decide +kernel
theorem cke153 (pc : Nat) (e : In_) (h : (codeOf 153)[pc]? = some e) : ckE 153 (ownOf 153) (codeOf 153) (byOf 153) pc e = true := by
  have hl : pc < 47 := (List.getElem?_eq_some_iff.mp h).1
  exact ckM_use ck153_0 (by omega) (by omega) h
theorem ck154_0 : ckM 154 0 60 = true := by decide +kernel
theorem cke154 (pc : Nat) (e : In_) (h : (codeOf 154)[pc]? = some e) : ckE 154 (ownOf 154) (codeOf 154) (byOf 154) pc e = true := by
  have hl : pc < 18 := (List.getElem?_eq_some_iff.mp h).1
  exact ckM_use ck154_0 (by omega) (by omega) h
theorem ck155_0 : ckM 155 0 60 = true := by decide +kernel
theorem cke155 (pc : Nat) (e : In_) (h : (codeOf 155)[pc]? = some e) : ckE 155 (ownOf 155) (codeOf 155) (byOf 155) pc e = true := by
  have hl : pc < 35 := (List.getElem?_eq_some_iff.mp h).1
  exact ckM_use ck155_0 (by omega) (by omega) h
theorem ck156_0 : ckM 156 0 60 = true := by decide +kernel
theorem cke156 (pc : Nat) (e : In_) (h : (codeOf 156)[pc]? = some e) : ckE 156 (ownOf 156) (codeOf 156) (byOf 156) pc e = true := by
  have hl : pc < 52 := (List.getElem?_eq_some_iff.mp h).1
  exact ckM_use ck156_0 (by omega) (by omega) h
theorem ck157_0 : ckM 157 0 60 = true := by decide +kernel
theorem cke157 (pc : Nat) (e : In_) (h : (codeOf 157)[pc]? = some e) : ckE 157 (ownOf 157) (codeOf 157) (byOf 157) pc e = true := by
  have hl : pc < 42 := (List.getElem?_eq_some_iff.mp h).1
  exact ckM_use ck157_0 (by omega) (by omega) h
theorem ck158_0 : ckM 158 0 60 = true := by decide +kernel
theorem cke158 (pc : Nat) (e : In_) (h : (codeOf 158)[pc]? = some e) : ckE 158 (ownOf 158) (codeOf 158) (byOf 158) pc e = true := by
  have hl : pc < 42 := (List.getElem?_eq_some_iff.mp h).1
  exact ckM_use ck158_0 (by omega) (by omega) h
theorem ck159_0 : ckM 159 0 60 = true := by decide +kernel
theorem cke159 (pc : Nat) (e : In_) (h : (codeOf 159)[pc]? = some e) : ckE 159 (ownOf 159) (codeOf 159) (byOf 159) pc e = true := by
  have hl : pc < 51 := (List.getElem?_eq_some_iff.mp h).1
  exact ckM_use ck159_0 (by omega) (by omega) h
theorem ck160_0 : ckM 160 0 60 = true := by decide +kernel
theorem cke160 (pc : Nat) (e : In_) (h : (codeOf 160)[pc]? = some e) : ckE 160 (ownOf 160) (codeOf 160) (byOf 160) pc e = true := by
  have hl : pc < 17 := (List.getElem?_eq_some_iff.mp h).1
  exact ckM_use ck160_0 (by omega) (by omega) h
theorem ck161_0 : ckM 161 0 60 = true := by decide +kernel
theorem cke161 (pc : Nat) (e : In_) (h : (codeOf 161)[pc]? = some e) : ckE 161 (ownOf 161) (codeOf 161) (byOf 161) pc e = true := by
  have hl : pc < 19 := (List.getElem?_eq_some_iff.mp h).1
  exact ckM_use ck161_0 (by omega) (by omega) h
theorem ck162_0 : ckM 162 0 60 = true := by decide +kernel
theorem ck162_60 : ckM 162 60 60 = true := by decide +kernel
theorem cke162 (pc : Nat) (e : In_) (h : (codeOf 162)[pc]? = some e) : ckE 162 (ownOf 162) (codeOf 162) (byOf 162) pc e = true := by
  have hl : pc < 87 := (List.getElem?_eq_some_iff.mp h).1
  by_cases h0 : pc < 60
  · exact ckM_use ck162_0 (by omega) (by omega) h
  exact ckM_use ck162_60 (by omega) (by omega) h
theorem ck163_0 : ckM 163 0 60 = true := by decide +kernel
theorem ck163_60 : ckM 163 60 60 = true := by decide +kernel
theorem cke163 (pc : Nat) (e : In_) (h : (codeOf 163)[pc]? = some e) : ckE 163 (ownOf 163) (codeOf 163) (byOf 163) pc e = true := by
  have hl : pc < 62 := (List.getElem?_eq_some_iff.mp h).1
  by_cases h0 : pc < 60
  · exact ckM_use ck163_0 (by omega) (by omega) h
  exact ckM_use ck163_60 (by omega) (by omega) h
theorem ck164_0 : ckM 164 0 60 = true := by decide +kernel
theorem ck164_60 : ckM 164 60 60 = true := by decide +kernel
theorem cke164 (pc : Nat) (e : In_) (h : (codeOf 164)[pc]? = some e) : ckE 164 (ownOf 164) (codeOf 164) (byOf 164) pc e = true := by
  have hl : pc < 68 := (List.getElem?_eq_some_iff.mp h).1
  by_cases h0 : pc < 60
  · exact ckM_use ck164_0 (by omega) (by omega) h
  exact ckM_use ck164_60 (by omega) (by omega) h
theorem ck165_0 : ckM 165 0 60 = true := by decide +kernel
theorem ck165_60 : ckM 165 60 60 = true := by decide +kernel
theorem cke165 (pc : Nat) (e : In_) (h : (codeOf 165)[pc]? = some e) : ckE 165 (ownOf 165) (codeOf 165) (byOf 165) pc e = true := by
  have hl : pc < 98 := (List.getElem?_eq_some_iff.mp h).1
  by_cases h0 : pc < 60
  · exact ckM_use ck165_0 (by omega) (by omega) h
  exact ckM_use ck165_60 (by omega) (by omega) h
theorem ck166_0 : ckM 166 0 60 = true := by decide +kernel
theorem cke166 (pc : Nat) (e : In_) (h : (codeOf 166)[pc]? = some e) : ckE 166 (ownOf 166) (codeOf 166) (byOf 166) pc e = true := by
  have hl : pc < 20 := (List.getElem?_eq_some_iff.mp h).1
  exact ckM_use ck166_0 (by omega) (by omega) h
theorem ck167_0 : ckM 167 0 60 = true := by decide +kernel
theorem ck167_60 : ckM 167 60 60 = true := by decide +kernel
theorem cke167 (pc : Nat) (e : In_) (h : (codeOf 167)[pc]? = some e) : ckE 167 (ownOf 167) (codeOf 167) (byOf 167) pc e = true := by
  have hl : pc < 64 := (List.getElem?_eq_some_iff.mp h).1
  by_cases h0 : pc < 60
  · exact ckM_use ck167_0 (by omega) (by omega) h
  exact ckM_use ck167_60 (by omega) (by omega) h
theorem ck168_0 : ckM 168 0 60 = true := by decide +kernel
theorem cke168 (pc : Nat) (e : In_) (h : (codeOf 168)[pc]? = some e) : ckE 168 (ownOf 168) (codeOf 168) (byOf 168) pc e = true := by
  have hl : pc < 47 := (List.getElem?_eq_some_iff.mp h).1
  exact ckM_use ck168_0 (by omega) (by omega) h
theorem ck169_0 : ckM 169 0 60 = true := by decide +kernel
theorem ck169_60 : ckM 169 60 60 = true := by decide +kernel
theorem cke169 (pc : Nat) (e : In_) (h : (codeOf 169)[pc]? = some e) : ckE 169 (ownOf 169) (codeOf 169) (byOf 169) pc e = true := by
  have hl : pc < 105 := (List.getElem?_eq_some_iff.mp h).1
  by_cases h0 : pc < 60
  · exact ckM_use ck169_0 (by omega) (by omega) h
  exact ckM_use ck169_60 (by omega) (by omega) h
theorem ck170_0 : ckM 170 0 60 = true := by decide +kernel
theorem ck170_60 : ckM 170 60 60 = true := by decide +kernel
theorem cke170 (pc : Nat) (e : In_) (h : (codeOf 170)[pc]? = some e) : ckE 170 (ownOf 170) (codeOf 170) (byOf 170) pc e = true := by
  have hl : pc < 63 := (List.getElem?_eq_some_iff.mp h).1
  by_cases h0 : pc < 60
  · exact ckM_use ck170_0 (by omega) (by omega) h
  exact ckM_use ck170_60 (by omega) (by omega) h
theorem ck171_0 : ckM 171 0 60 = true := by decide +kernel
theorem cke171 (pc : Nat) (e : In_) (h : (codeOf 171)[pc]? = some e) : ckE 171 (ownOf 171) (codeOf 171) (byOf 171) pc e = true := by
  have hl : pc < 29 := (List.getElem?_eq_some_iff.mp h).1
  exact ckM_use ck171_0 (by omega) (by omega) h
theorem ck172_0 : ckM 172 0 60 = true := by decide +kernel
theorem cke172 (pc : Nat) (e : In_) (h : (codeOf 172)[pc]? = some e) : ckE 172 (ownOf 172) (codeOf 172) (byOf 172) pc e = true := by
  have hl : pc < 26 := (List.getElem?_eq_some_iff.mp h).1
  exact ckM_use ck172_0 (by omega) (by omega) h
theorem ck173_0 : ckM 173 0 60 = true := by decide +kernel
theorem ck173_60 : ckM 173 60 60 = true := by decide +kernel
theorem cke173 (pc : Nat) (e : In_) (h : (codeOf 173)[pc]? = some e) : ckE 173 (ownOf 173) (codeOf 173) (byOf 173) pc e = true := by
  have hl : pc < 61 := (List.getElem?_eq_some_iff.mp h).1
  by_cases h0 : pc < 60
  · exact ckM_use ck173_0 (by omega) (by omega) h
  exact ckM_use ck173_60 (by omega) (by omega) h
theorem ck174_0 : ckM 174 0 60 = true := by decide +kernel
theorem cke174 (pc : Nat) (e : In_) (h : (codeOf 174)[pc]? = some e) : ckE 174 (ownOf 174) (codeOf 174) (byOf 174) pc e = true := by
  have hl : pc < 34 := (List.getElem?_eq_some_iff.mp h).1
  exact ckM_use ck174_0 (by omega) (by omega) h
theorem ck175_0 : ckM 175 0 60 = true := by decide +kernel
theorem cke175 (pc : Nat) (e : In_) (h : (codeOf 175)[pc]? = some e) : ckE 175 (ownOf 175) (codeOf 175) (byOf 175) pc e = true := by
  have hl : pc < 15 := (List.getElem?_eq_some_iff.mp h).1
  exact ckM_use ck175_0 (by omega) (by omega) h
theorem ck176_0 : ckM 176 0 60 = true := by decide +kernel
theorem cke176 (pc : Nat) (e : In_) (h : (codeOf 176)[pc]? = some e) : ckE 176 (ownOf 176) (codeOf 176) (byOf 176) pc e = true := by
  have hl : pc < 15 := (List.getElem?_eq_some_iff.mp h).1
  exact ckM_use ck176_0 (by omega) (by omega) h
theorem ck177_0 : ckM 177 0 60 = true := by decide +kernel
theorem cke177 (pc : Nat) (e : In_) (h : (codeOf 177)[pc]? = some e) : ckE 177 (ownOf 177) (codeOf 177) (byOf 177) pc e = true := by
  have hl : pc < 47 := (List.getElem?_eq_some_iff.mp h).1
  exact ckM_use ck177_0 (by omega) (by omega) h
theorem ck178_0 : ckM 178 0 60 = true := by decide +kernel
theorem cke178 (pc : Nat) (e : In_) (h : (codeOf 178)[pc]? = some e) : ckE 178 (ownOf 178) (codeOf 178) (byOf 178) pc e = true := by
  have hl : pc < 10 := (List.getElem?_eq_some_iff.mp h).1
  exact ckM_use ck178_0 (by omega) (by omega) h
theorem ck179_0 : ckM 179 0 60 = true := by decide +kernel
theorem ck179_60 : ckM 179 60 60 = true := by decide +kernel
theorem cke179 (pc : Nat) (e : In_) (h : (codeOf 179)[pc]? = some e) : ckE 179 (ownOf 179) (codeOf 179) (byOf 179) pc e = true := by
  have hl : pc < 76 := (List.getElem?_eq_some_iff.mp h).1
  by_cases h0 : pc < 60
  · exact ckM_use ck179_0 (by omega) (by omega) h
  exact ckM_use ck179_60 (by omega) (by omega) h
theorem ck180_0 : ckM 180 0 60 = true := by decide +kernel
theorem cke180 (pc : Nat) (e : In_) (h : (codeOf 180)[pc]? = some e) : ckE 180 (ownOf 180) (codeOf 180) (byOf 180) pc e = true := by
  have hl : pc < 47 := (List.getElem?_eq_some_iff.mp h).1
  exact ckM_use ck180_0 (by omega) (by omega) h
theorem ck181_0 : ckM 181 0 60 = true := by decide +kernel
theorem cke181 (pc : Nat) (e : In_) (h : (codeOf 181)[pc]? = some e) : ckE 181 (ownOf 181) (codeOf 181) (byOf 181) pc e = true := by
  have hl : pc < 23 := (List.getElem?_eq_some_iff.mp h).1
  exact ckM_use ck181_0 (by omega) (by omega) h
theorem ck182_0 : ckM 182 0 60 = true := by decide +kernel
theorem cke182 (pc : Nat) (e : In_) (h : (codeOf 182)[pc]? = some e) : ckE 182 (ownOf 182) (codeOf 182) (byOf 182) pc e = true := by
  have hl : pc < 30 := (List.getElem?_eq_some_iff.mp h).1
  exact ckM_use ck182_0 (by omega) (by omega) h
theorem ck183_0 : ckM 183 0 60 = true := by decide +kernel
theorem cke183 (pc : Nat) (e : In_) (h : (codeOf 183)[pc]? = some e) : ckE 183 (ownOf 183) (codeOf 183) (byOf 183) pc e = true := by
  have hl : pc < 29 := (List.getElem?_eq_some_iff.mp h).1
  exact ckM_use ck183_0 (by omega) (by omega) h
theorem ck184_0 : ckM 184 0 60 = true := by decide +kernel
theorem cke184 (pc : Nat) (e : In_) (h : (codeOf 184)[pc]? = some e) : ckE 184 (ownOf 184) (codeOf 184) (byOf 184) pc e = true := by
  have hl : pc < 30 := (List.getElem?_eq_some_iff.mp h).1
  exact ckM_use ck184_0 (by omega) (by omega) h
theorem ck185_0 : ckM 185 0 60 = true := by decide +kernel
theorem cke185 (pc : Nat) (e : In_) (h : (codeOf 185)[pc]? = some e) : ckE 185 (ownOf 185) (codeOf 185) (byOf 185) pc e = true := by
  have hl : pc < 19 := (List.getElem?_eq_some_iff.mp h).1
  exact ckM_use ck185_0 (by omega) (by omega) h
theorem ck186_0 : ckM 186 0 60 = true := by decide +kernel
theorem cke186 (pc : Nat) (e : In_) (h : (codeOf 186)[pc]? = some e) : ckE 186 (ownOf 186) (codeOf 186) (byOf 186) pc e = true := by
  have hl : pc < 59 := (List.getElem?_eq_some_iff.mp h).1
  exact ckM_use ck186_0 (by omega) (by omega) h
theorem ck187_0 : ckM 187 0 60 = true := by decide +kernel
theorem cke187 (pc : Nat) (e : In_) (h : (codeOf 187)[pc]? = some e) : ckE 187 (ownOf 187) (codeOf 187) (byOf 187) pc e = true := by
  have hl : pc < 23 := (List.getElem?_eq_some_iff.mp h).1
  exact ckM_use ck187_0 (by omega) (by omega) h
theorem ck188_0 : ckM 188 0 60 = true := by decide +kernel
theorem cke188 (pc : Nat) (e : In_) (h : (codeOf 188)[pc]? = some e) : ckE 188 (ownOf 188) (codeOf 188) (byOf 188) pc e = true := by
  have hl : pc < 40 := (List.getElem?_eq_some_iff.mp h).1
  exact ckM_use ck188_0 (by omega) (by omega) h
theorem ck189_0 : ckM 189 0 60 = true := by decide +kernel
theorem cke189 (pc : Nat) (e : In_) (h : (codeOf 189)[pc]? = some e) : ckE 189 (ownOf 189) (codeOf 189) (byOf 189) pc e = true := by
  have hl : pc < 47 := (List.getElem?_eq_some_iff.mp h).1
  exact ckM_use ck189_0 (by omega) (by omega) h
theorem ck190_0 : ckM 190 0 60 = true := by decide +kernel
theorem cke190 (pc : Nat) (e : In_) (h : (codeOf 190)[pc]? = some e) : ckE 190 (ownOf 190) (codeOf 190) (byOf 190) pc e = true := by
  have hl : pc < 38 := (List.getElem?_eq_some_iff.mp h).1
  exact ckM_use ck190_0 (by omega) (by omega) h
theorem ck191_0 : ckM 191 0 60 = true := by decide +kernel
theorem cke191 (pc : Nat) (e : In_) (h : (codeOf 191)[pc]? = some e) : ckE 191 (ownOf 191) (codeOf 191) (byOf 191) pc e = true := by
  have hl : pc < 31 := (List.getElem?_eq_some_iff.mp h).1
  exact ckM_use ck191_0 (by omega) (by omega) h
theorem ck192_0 : ckM 192 0 60 = true := by decide +kernel
theorem cke192 (pc : Nat) (e : In_) (h : (codeOf 192)[pc]? = some e) : ckE 192 (ownOf 192) (codeOf 192) (byOf 192) pc e = true := by
  have hl : pc < 17 := (List.getElem?_eq_some_iff.mp h).1
  exact ckM_use ck192_0 (by omega) (by omega) h
theorem ck193_0 : ckM 193 0 60 = true := by decide +kernel
theorem cke193 (pc : Nat) (e : In_) (h : (codeOf 193)[pc]? = some e) : ckE 193 (ownOf 193) (codeOf 193) (byOf 193) pc e = true := by
  have hl : pc < 47 := (List.getElem?_eq_some_iff.mp h).1
  exact ckM_use ck193_0 (by omega) (by omega) h
theorem ck194_0 : ckM 194 0 60 = true := by decide +kernel
theorem cke194 (pc : Nat) (e : In_) (h : (codeOf 194)[pc]? = some e) : ckE 194 (ownOf 194) (codeOf 194) (byOf 194) pc e = true := by
  have hl : pc < 14 := (List.getElem?_eq_some_iff.mp h).1
  exact ckM_use ck194_0 (by omega) (by omega) h
theorem ck195_0 : ckM 195 0 60 = true := by decide +kernel
theorem cke195 (pc : Nat) (e : In_) (h : (codeOf 195)[pc]? = some e) : ckE 195 (ownOf 195) (codeOf 195) (byOf 195) pc e = true := by
  have hl : pc < 48 := (List.getElem?_eq_some_iff.mp h).1
  exact ckM_use ck195_0 (by omega) (by omega) h
theorem ck196_0 : ckM 196 0 60 = true := by decide +kernel
theorem cke196 (pc : Nat) (e : In_) (h : (codeOf 196)[pc]? = some e) : ckE 196 (ownOf 196) (codeOf 196) (byOf 196) pc e = true := by
  have hl : pc < 18 := (List.getElem?_eq_some_iff.mp h).1
  exact ckM_use ck196_0 (by omega) (by omega) h
theorem ck197_0 : ckM 197 0 60 = true := by decide +kernel
theorem cke197 (pc : Nat) (e : In_) (h : (codeOf 197)[pc]? = some e) : ckE 197 (ownOf 197) (codeOf 197) (byOf 197) pc e = true := by
  have hl : pc < 57 := (List.getElem?_eq_some_iff.mp h).1
  exact ckM_use ck197_0 (by omega) (by omega) h
theorem ck198_0 : ckM 198 0 60 = true := by decide +kernel
theorem cke198 (pc : Nat) (e : In_) (h : (codeOf 198)[pc]? = some e) : ckE 198 (ownOf 198) (codeOf 198) (byOf 198) pc e = true := by
  have hl : pc < 29 := (List.getElem?_eq_some_iff.mp h).1
  exact ckM_use ck198_0 (by omega) (by omega) h
theorem ck199_0 : ckM 199 0 60 = true := by decide +kernel
theorem ck199_60 : ckM 199 60 60 = true := by decide +kernel
theorem cke199 (pc : Nat) (e : In_) (h : (codeOf 199)[pc]? = some e) : ckE 199 (ownOf 199) (codeOf 199) (byOf 199) pc e = true := by
  have hl : pc < 61 := (List.getElem?_eq_some_iff.mp h).1
  by_cases h0 : pc < 60
  · exact ckM_use ck199_0 (by omega) (by omega) h
  exact ckM_use ck199_60 (by omega) (by omega) h
theorem ck200_0 : ckM 200 0 60 = true := by decide +kernel
theorem cke200 (pc : Nat) (e : In_) (h : (codeOf 200)[pc]? = some e) : ckE 200 (ownOf 200) (codeOf 200) (byOf 200) pc e = true := by
  have hl : pc < 24 := (List.getElem?_eq_some_iff.mp h).1
  exact ckM_use ck200_0 (by omega) (by omega) h
theorem ck201_0 : ckM 201 0 60 = true := by decide +kernel
theorem ck201_60 : ckM 201 60 60 = true := by decide +kernel
theorem cke201 (pc : Nat) (e : In_) (h : (codeOf 201)[pc]? = some e) : ckE 201 (ownOf 201) (codeOf 201) (byOf 201) pc e = true := by
  have hl : pc < 118 := (List.getElem?_eq_some_iff.mp h).1
  by_cases h0 : pc < 60
  · exact ckM_use ck201_0 (by omega) (by omega) h
  exact ckM_use ck201_60 (by omega) (by omega) h
theorem ck202_0 : ckM 202 0 60 = true := by decide +kernel
theorem cke202 (pc : Nat) (e : In_) (h : (codeOf 202)[pc]? = some e) : ckE 202 (ownOf 202) (codeOf 202) (byOf 202) pc e = true := by
  have hl : pc < 29 := (List.getElem?_eq_some_iff.mp h).1
  exact ckM_use ck202_0 (by omega) (by omega) h
theorem ck203_0 : ckM 203 0 60 = true := by decide +kernel
theorem cke203 (pc : Nat) (e : In_) (h : (codeOf 203)[pc]? = some e) : ckE 203 (ownOf 203) (codeOf 203) (byOf 203) pc e = true := by
  have hl : pc < 49 := (List.getElem?_eq_some_iff.mp h).1
  exact ckM_use ck203_0 (by omega) (by omega) h
theorem ck204_0 : ckM 204 0 60 = true := by decide +kernel
theorem ck204_60 : ckM 204 60 60 = true := by decide +kernel
theorem cke204 (pc : Nat) (e : In_) (h : (codeOf 204)[pc]? = some e) : ckE 204 (ownOf 204) (codeOf 204) (byOf 204) pc e = true := by
  have hl : pc < 75 := (List.getElem?_eq_some_iff.mp h).1
  by_cases h0 : pc < 60
  · exact ckM_use ck204_0 (by omega) (by omega) h
  exact ckM_use ck204_60 (by omega) (by omega) h
theorem ck205_0 : ckM 205 0 60 = true := by decide +kernel
theorem cke205 (pc : Nat) (e : In_) (h : (codeOf 205)[pc]? = some e) : ckE 205 (ownOf 205) (codeOf 205) (byOf 205) pc e = true := by
  have hl : pc < 55 := (List.getElem?_eq_some_iff.mp h).1
  exact ckM_use ck205_0 (by omega) (by omega) h
theorem ck206_0 : ckM 206 0 60 = true := by decide +kernel
theorem cke206 (pc : Nat) (e : In_) (h : (codeOf 206)[pc]? = some e) : ckE 206 (ownOf 206) (codeOf 206) (byOf 206) pc e = true := by
  have hl : pc < 57 := (List.getElem?_eq_some_iff.mp h).1
  exact ckM_use ck206_0 (by omega) (by omega) h
theorem ck207_0 : ckM 207 0 60 = true := by decide +kernel
theorem cke207 (pc : Nat) (e : In_) (h : (codeOf 207)[pc]? = some e) : ckE 207 (ownOf 207) (codeOf 207) (byOf 207) pc e = true := by
  have hl : pc < 52 := (List.getElem?_eq_some_iff.mp h).1
  exact ckM_use ck207_0 (by omega) (by omega) h
theorem ck208_0 : ckM 208 0 60 = true := by decide +kernel
theorem cke208 (pc : Nat) (e : In_) (h : (codeOf 208)[pc]? = some e) : ckE 208 (ownOf 208) (codeOf 208) (byOf 208) pc e = true := by
  have hl : pc < 43 := (List.getElem?_eq_some_iff.mp h).1
  exact ckM_use ck208_0 (by omega) (by omega) h
theorem ck209_0 : ckM 209 0 60 = true := by decide +kernel
theorem ck209_60 : ckM 209 60 60 = true := by decide +kernel
theorem ck209_120 : ckM 209 120 60 = true := by decide +kernel
theorem cke209 (pc : Nat) (e : In_) (h : (codeOf 209)[pc]? = some e) : ckE 209 (ownOf 209) (codeOf 209) (byOf 209) pc e = true := by
  have hl : pc < 162 := (List.getElem?_eq_some_iff.mp h).1
  by_cases h0 : pc < 60
  · exact ckM_use ck209_0 (by omega) (by omega) h
  by_cases h60 : pc < 120
  · exact ckM_use ck209_60 (by omega) (by omega) h
  exact ckM_use ck209_120 (by omega) (by omega) h
theorem ck210_0 : ckM 210 0 60 = true := by decide +kernel
theorem ck210_60 : ckM 210 60 60 = true := by decide +kernel
theorem ck210_120 : ckM 210 120 60 = true := by decide +kernel
theorem ck210_180 : ckM 210 180 60 = true := by decide +kernel
theorem ck210_240 : ckM 210 240 60 = true := by decide +kernel
theorem ck210_300 : ckM 210 300 60 = true := by decide +kernel
theorem ck210_360 : ckM 210 360 60 = true := by decide +kernel
theorem ck210_420 : ckM 210 420 60 = true := by decide +kernel
theorem ck210_480 : ckM 210 480 60 = true := by decide +kernel
theorem ck210_540 : ckM 210 540 60 = true := by decide +kernel
theorem ck210_600 : ckM 210 600 60 = true := by decide +kernel
theorem ck210_660 : ckM 210 660 60 = true := by decide +kernel
theorem ck210_720 : ckM 210 720 60 = true := by decide +kernel
theorem ck210_780 : ckM 210 780 60 = true := by decide +kernel
theorem ck210_840 : ckM 210 840 60 = true := by decide +kernel
theorem ck210_900 : ckM 210 900 60 = true := by decide +kernel
set_option maxRecDepth 100000 in
theorem cke210 (pc : Nat) (e : In_) (h : (codeOf 210)[pc]? = some e) : ckE 210 (ownOf 210) (codeOf 210) (byOf 210) pc e = true := by
  have hl : pc < 911 := (List.getElem?_eq_some_iff.mp h).1
  by_cases h0 : pc < 60
  · exact ckM_use ck210_0 (by omega) (by omega) h
  by_cases h60 : pc < 120
  · exact ckM_use ck210_60 (by omega) (by omega) h
  by_cases h120 : pc < 180
  · exact ckM_use ck210_120 (by omega) (by omega) h
  by_cases h180 : pc < 240
  · exact ckM_use ck210_180 (by omega) (by omega) h
  by_cases h240 : pc < 300
  · exact ckM_use ck210_240 (by omega) (by omega) h
  by_cases h300 : pc < 360
  · exact ckM_use ck210_300 (by omega) (by omega) h
  by_cases h360 : pc < 420
  · exact ckM_use ck210_360 (by omega) (by omega) h
  by_cases h420 : pc < 480
  · exact ckM_use ck210_420 (by omega) (by omega) h
  by_cases h480 : pc < 540
  · exact ckM_use ck210_480 (by omega) (by omega) h
  by_cases h540 : pc < 600
  · exact ckM_use ck210_540 (by omega) (by omega) h
  by_cases h600 : pc < 660
  · exact ckM_use ck210_600 (by omega) (by omega) h
  by_cases h660 : pc < 720
  · exact ckM_use ck210_660 (by omega) (by omega) h
  by_cases h720 : pc < 780
  · exact ckM_use ck210_720 (by omega) (by omega) h
  by_cases h780 : pc < 840
  · exact ckM_use ck210_780 (by omega) (by omega) h
  by_cases h840 : pc < 900
  · exact ckM_use ck210_840 (by omega) (by omega) h
  exact ckM_use ck210_900 (by omega) (by omega) h
end
section
theorem getD_out {α : Type} (l : List α) (n : Nat) (d : α) (h : l.length ≤ n) : l.getD n d = d := by rw [List.getD_eq_getElem?_getD, List.getElem?_eq_none h]; rfl
def CkId (id : Nat) : Prop := ∀ (pc : Nat) (e : In_), (codeOf id)[pc]? = some e → ckE id (ownOf id) (codeOf id) (byOf id) pc e = true
def idL0 : List Nat := [0, 1, 2, 3, 4, 5, 6, 7, 8, 9, 10, 11, 12, 13, 14, 15, 16, 17, 18, 19, 20, 21, 22, 23, 24, 25, 26, 27, 28, 29, 30, 31]
theorem idL0_ok : ∀ q ∈ idL0, CkId q := List.forall_mem_cons.mpr ⟨cke0,
  List.forall_mem_cons.mpr ⟨cke1,
  List.forall_mem_cons.mpr ⟨cke2,
  List.forall_mem_cons.mpr ⟨cke3,
  List.forall_mem_cons.mpr ⟨cke4,
  List.forall_mem_cons.mpr ⟨cke5,
  List.forall_mem_cons.mpr ⟨cke6,
  List.forall_mem_cons.mpr ⟨cke7,
  List.forall_mem_cons.mpr ⟨cke8,
  List.forall_mem_cons.mpr ⟨cke9,
  List.forall_mem_cons.mpr ⟨cke10,
  List.forall_mem_cons.mpr ⟨cke11,
  List.forall_mem_cons.mpr ⟨cke12,
  List.forall_mem_cons.mpr ⟨cke13,
  List.forall_mem_cons.mpr ⟨cke14,
  List.forall_mem_cons.mpr ⟨cke15,
  List.forall_mem_cons.mpr ⟨cke16,
  List.forall_mem_cons.mpr ⟨cke17,
  List.forall_mem_cons.mpr ⟨cke18,
  List.forall_mem_cons.mpr ⟨cke19,
  List.forall_mem_cons.mpr ⟨cke20,
  List.forall_mem_cons.mpr ⟨cke21,
  List.forall_mem_cons.mpr ⟨cke22,
  List.forall_mem_cons.mpr ⟨cke23,
  List.forall_mem_cons.mpr ⟨cke24,
  List.forall_mem_cons.mpr ⟨cke25,
  List.forall_mem_cons.mpr ⟨cke26,
  List.forall_mem_cons.mpr ⟨cke27,
  List.forall_mem_cons.mpr ⟨cke28,
  List.forall_mem_cons.mpr ⟨cke29,
  List.forall_mem_cons.mpr ⟨cke30,
  List.forall_mem_cons.mpr ⟨cke31,
  fun _ h => absurd h List.not_mem_nil⟩⟩⟩⟩⟩⟩⟩⟩⟩⟩⟩⟩⟩⟩⟩⟩⟩⟩⟩⟩⟩⟩⟩⟩⟩⟩⟩⟩⟩⟩⟩⟩
def idL1 : List Nat := [32, 33, 34, 35, 36, 37, 38, 39, 40, 41, 42, 43, 44, 45, 46, 47, 48, 49, 50, 51, 52, 53, 54, 55, 56, 57, 58, 59, 60, 61, 62, 63]
theorem idL1_ok : ∀ q ∈ idL1, CkId q := List.forall_mem_cons.mpr ⟨cke32,
  List.forall_mem_cons.mpr ⟨cke33,
  List.forall_mem_cons.mpr ⟨cke34,
  List.forall_mem_cons.mpr ⟨cke35,
  List.forall_mem_cons.mpr ⟨cke36,
  List.forall_mem_cons.mpr ⟨cke37,
  List.forall_mem_cons.mpr ⟨cke38,
  List.forall_mem_cons.mpr ⟨cke39,
  List.forall_mem_cons.mpr ⟨cke40,
  List.forall_mem_cons.mpr ⟨cke41,
  List.forall_mem_cons.mpr ⟨cke42,
  List.forall_mem_cons.mpr ⟨cke43,
  List.forall_mem_cons.mpr ⟨cke44,
  List.forall_mem_cons.mpr ⟨cke45,
  List.forall_mem_cons.mpr ⟨cke46,
  List.forall_mem_cons.mpr ⟨cke47,
  List.forall_mem_cons.mpr ⟨cke48,
  List.forall_mem_cons.mpr ⟨cke49,
  List.forall_mem_cons.mpr ⟨cke50,
  List.forall_mem_cons.mpr ⟨cke51,
  List.forall_mem_cons.mpr ⟨cke52,
  List.forall_mem_cons.mpr ⟨cke53,
  List.forall_mem_cons.mpr ⟨cke54,
  List.forall_mem_cons.mpr ⟨cke55,
  List.forall_mem_cons.mpr ⟨cke56,
  List.forall_mem_cons.mpr ⟨cke57,
  List.forall_mem_cons.mpr ⟨cke58,
  List.forall_mem_cons.mpr ⟨cke59,
  List.forall_mem_cons.mpr ⟨cke60,
  List.forall_mem_cons.mpr ⟨cke61,
  List.forall_mem_cons.mpr ⟨cke62,
  List.forall_mem_cons.mpr ⟨cke63,
  fun _ h => absurd h List.not_mem_nil⟩⟩⟩⟩⟩⟩⟩⟩⟩⟩⟩⟩⟩⟩⟩⟩⟩⟩⟩⟩⟩⟩⟩⟩⟩⟩⟩⟩⟩⟩⟩⟩
def idL2 : List Nat := [64, 65, 66, 67, 68, 69, 70, 71, 72, 73, 74, 75, 76, 77, 78, 79, 80, 81, 82, 83, 84, 85, 86, 87, 88, 89, 90, 91, 92, 93, 94, 95]
theorem idL2_ok : ∀ q ∈ idL2, CkId q := List.forall_mem_cons.mpr ⟨cke64,
  List.forall_mem_cons.mpr ⟨cke65,
  List.forall_mem_cons.mpr ⟨cke66,
  List.forall_mem_cons.mpr ⟨cke67,
  List.forall_mem_cons.mpr ⟨cke68,
  List.forall_mem_cons.mpr ⟨cke69,
  List.forall_mem_cons.mpr ⟨cke70,
  List.forall_mem_cons.mpr ⟨cke71,
  List.forall_mem_cons.mpr ⟨cke72,
  List.forall_mem_cons.mpr ⟨cke73,
  List.forall_mem_cons.mpr ⟨cke74,
  List.forall_mem_cons.mpr ⟨cke75,
  List.forall_mem_cons.mpr ⟨cke76,
  List.forall_mem_cons.mpr ⟨cke77,
  List.forall_mem_cons.mpr ⟨cke78,
  List.forall_mem_cons.mpr ⟨cke79,
  List.forall_mem_cons.mpr ⟨cke80,
  List.forall_mem_cons.mpr ⟨cke81,
  List.forall_mem_cons.mpr ⟨cke82,
  List.forall_mem_cons.mpr ⟨cke83,
  List.forall_mem_cons.mpr ⟨cke84,
  List.forall_mem_cons.mpr ⟨cke85,
  List.forall_mem_cons.mpr ⟨cke86,
  List.forall_mem_cons.mpr ⟨cke87,
  List.forall_mem_cons.mpr ⟨cke88,
  List.forall_mem_cons.mpr ⟨cke89,
  List.forall_mem_cons.mpr ⟨cke90,
  List.forall_mem_cons.mpr ⟨cke91,
  List.forall_mem_cons.mpr ⟨cke92,
  List.forall_mem_cons.mpr ⟨cke93,
  List.forall_mem_cons.mpr ⟨cke94,
  List.forall_mem_cons.mpr ⟨cke95,
  fun _ h => absurd h List.not_mem_nil⟩⟩⟩⟩⟩⟩⟩⟩⟩⟩⟩⟩⟩⟩⟩⟩⟩⟩⟩⟩⟩⟩⟩⟩⟩⟩⟩⟩⟩⟩⟩⟩
def idL3 : List Nat := [96, 97, 98, 99, 100, 101, 102, 103, 104, 105, 106, 107, 108, 109, 110, 111, 112, 113, 114, 115, 116, 117, 118, 119, 120, 121, 122, 123, 124, 125, 126, 127]
theorem idL3_ok : ∀ q ∈ idL3, CkId q := List.forall_mem_cons.mpr ⟨cke96,
  List.forall_mem_cons.mpr ⟨cke97,
  List.forall_mem_cons.mpr ⟨cke98,
  List.forall_mem_cons.mpr ⟨cke99,
  List.forall_mem_cons.mpr ⟨cke100,
  List.forall_mem_cons.mpr ⟨cke101,
  List.forall_mem_cons.mpr ⟨cke102,
  List.forall_mem_cons.mpr ⟨cke103,
  List.forall_mem_cons.mpr ⟨cke104,
  List.forall_mem_cons.mpr ⟨cke105,
  List.forall_mem_cons.mpr ⟨cke106,
  List.forall_mem_cons.mpr ⟨cke107,
  List.forall_mem_cons.mpr ⟨cke108,
  List.forall_mem_cons.mpr ⟨cke109,
  List.forall_mem_cons.mpr ⟨cke110,
  List.forall_mem_cons.mpr ⟨cke111,
  List.forall_mem_cons.mpr ⟨cke112,
  List.forall_mem_cons.mpr ⟨cke113,
  List.forall_mem_cons.mpr ⟨cke114,
  List.forall_mem_cons.mpr ⟨cke115,
  List.forall_mem_cons.mpr ⟨cke116,
  List.forall_mem_cons.mpr ⟨cke117,
  List.forall_mem_cons.mpr ⟨cke118,
  List.forall_mem_cons.mpr ⟨cke119,
  List.forall_mem_cons.mpr ⟨cke120,
  List.forall_mem_cons.mpr ⟨cke121,
  List.forall_mem_cons.mpr ⟨cke122,
  List.forall_mem_cons.mpr ⟨cke123,
  List.forall_mem_cons.mpr ⟨cke124,
  List.forall_mem_cons.mpr ⟨cke125,
  List.forall_mem_cons.mpr ⟨cke126,
  List.forall_mem_cons.mpr ⟨cke127,
  fun _ h => absurd h List.not_mem_nil⟩⟩⟩⟩⟩⟩⟩⟩⟩⟩⟩⟩⟩⟩⟩⟩⟩⟩⟩⟩⟩⟩⟩⟩⟩⟩⟩⟩⟩⟩⟩⟩
def idL4 : List Nat := [128, 129, 130, 131, 132, 133, 134, 135, 136, 137, 138, 139, 140, 141, 142, 143, 144, 145, 146, 147, 148, 149, 150, 151, 152, 153, 154, 155, 156, 157, 158, 159]
theorem idL4_ok : ∀ q ∈ idL4, CkId q := List.forall_mem_cons.mpr ⟨cke128,
  List.forall_mem_cons.mpr ⟨cke129,
  List.forall_mem_cons.mpr ⟨cke130,
  List.forall_mem_cons.mpr ⟨cke131,
  List.forall_mem_cons.mpr ⟨cke132,
  List.forall_mem_cons.mpr ⟨cke133,
  List.forall_mem_cons.mpr ⟨cke134,
  List.forall_mem_cons.mpr ⟨cke135,
  List.forall_mem_cons.mpr ⟨cke136,
  List.forall_mem_cons.mpr ⟨cke137,
  List.forall_mem_cons.mpr ⟨cke138,
  List.forall_mem_cons.mpr ⟨cke139,
  List.forall_mem_cons.mpr ⟨cke140,
  List.forall_mem_cons.mpr ⟨cke141,
  List.forall_mem_cons.mpr ⟨cke142,
  List.forall_mem_cons.mpr ⟨cke143,
  List.forall_mem_cons.mpr ⟨cke144,
  List.forall_mem_cons.mpr ⟨cke145,
  List.forall_mem_cons.mpr ⟨cke146,
  List.forall_mem_cons.mpr ⟨cke147,
  List.forall_mem_cons.mpr ⟨cke148,
  List.forall_mem_cons.mpr ⟨cke149,
  List.forall_mem_cons.mpr ⟨cke150,
  List.forall_mem_cons.mpr ⟨cke151,
  List.forall_mem_cons.mpr ⟨cke152,
  List.forall_mem_cons.mpr ⟨cke153,
  List.forall_mem_cons.mpr ⟨cke154,
  List.forall_mem_cons.mpr ⟨cke155,
  List.forall_mem_cons.mpr ⟨cke156,
  List.forall_mem_cons.mpr ⟨cke157,
  List.forall_mem_cons.mpr ⟨cke158,
  List.forall_mem_cons.mpr ⟨cke159,
  fun _ h => absurd h List.not_mem_nil⟩⟩⟩⟩⟩⟩⟩⟩⟩⟩⟩⟩⟩⟩⟩⟩⟩⟩⟩⟩⟩⟩⟩⟩⟩⟩⟩⟩⟩⟩⟩⟩
def idL5 : List Nat := [160, 161, 162, 163, 164, 165, 166, 167, 168, 169, 170, 171, 172, 173, 174, 175, 176, 177, 178, 179, 180, 181, 182, 183, 184, 185, 186, 187, 188, 189, 190, 191]
theorem idL5_ok : ∀ q ∈ idL5, CkId q := List.forall_mem_cons.mpr ⟨cke160,
  List.forall_mem_cons.mpr ⟨cke161,
  List.forall_mem_cons.mpr ⟨cke162,
  List.forall_mem_cons.mpr ⟨cke163,
  List.forall_mem_cons.mpr ⟨cke164,
  List.forall_mem_cons.mpr ⟨cke165,
  List.forall_mem_cons.mpr ⟨cke166,
  List.forall_mem_cons.mpr ⟨cke167,
  List.forall_mem_cons.mpr ⟨cke168,
  List.forall_mem_cons.mpr ⟨cke169,
  List.forall_mem_cons.mpr ⟨cke170,
  List.forall_mem_cons.mpr ⟨cke171,
  List.forall_mem_cons.mpr ⟨cke172,
  List.forall_mem_cons.mpr ⟨cke173,
  List.forall_mem_cons.mpr ⟨cke174,
  List.forall_mem_cons.mpr ⟨cke175,
  List.forall_mem_cons.mpr ⟨cke176,
  List.forall_mem_cons.mpr ⟨cke177,
  List.forall_mem_cons.mpr ⟨cke178,
  List.forall_mem_cons.mpr ⟨cke179,
  List.forall_mem_cons.mpr ⟨cke180,
  List.forall_mem_cons.mpr ⟨cke181,
  List.forall_mem_cons.mpr ⟨cke182,
  List.forall_mem_cons.mpr ⟨cke183,
  List.forall_mem_cons.mpr ⟨cke184,
  List.forall_mem_cons.mpr ⟨cke185,
  List.forall_mem_cons.mpr ⟨cke186,
  List.forall_mem_cons.mpr ⟨cke187,
  List.forall_mem_cons.mpr ⟨cke188,
  List.forall_mem_cons.mpr ⟨cke189,
  List.forall_mem_cons.mpr ⟨cke190,
  List.forall_mem_cons.mpr ⟨cke191,
  fun _ h => absurd h List.not_mem_nil⟩⟩⟩⟩⟩⟩⟩⟩⟩⟩⟩⟩⟩⟩⟩⟩⟩⟩⟩⟩⟩⟩⟩⟩⟩⟩⟩⟩⟩⟩⟩⟩
def idL6 : List Nat := [192, 193, 194, 195, 196, 197, 198, 199, 200, 201, 202, 203, 204, 205, 206, 207, 208, 209, 210]
theorem idL6_ok : ∀ q ∈ idL6, CkId q := List.forall_mem_cons.mpr ⟨cke192,
  List.forall_mem_cons.mpr ⟨cke193,
  List.forall_mem_cons.mpr ⟨cke194,
  List.forall_mem_cons.mpr ⟨cke195,
  List.forall_mem_cons.mpr ⟨cke196,
  List.forall_mem_cons.mpr ⟨cke197,
  List.forall_mem_cons.mpr ⟨cke198,
  List.forall_mem_cons.mpr ⟨cke199,
  List.forall_mem_cons.mpr ⟨cke200,
  List.forall_mem_cons.mpr ⟨cke201,
  List.forall_mem_cons.mpr ⟨cke202,
  List.forall_mem_cons.mpr ⟨cke203,
  List.forall_mem_cons.mpr ⟨cke204,
  List.forall_mem_cons.mpr ⟨cke205,
  List.forall_mem_cons.mpr ⟨cke206,
  List.forall_mem_cons.mpr ⟨cke207,
  List.forall_mem_cons.mpr ⟨cke208,
  List.forall_mem_cons.mpr ⟨cke209,
  List.forall_mem_cons.mpr ⟨cke210,
  fun _ h => absurd h List.not_mem_nil⟩⟩⟩⟩⟩⟩⟩⟩⟩⟩⟩⟩⟩⟩⟩⟩⟩⟩⟩
def idL : List Nat := idL0 ++ idL1 ++ idL2 ++ idL3 ++ idL4 ++ idL5 ++ idL6
theorem idL_ok : ∀ q ∈ idL, CkId q := fun q => fun h => (List.mem_append.mp h).elim (fun h => (List.mem_append.mp h).elim (fun h => (List.mem_append.mp h).elim (fun h => (List.mem_append.mp h).elim (fun h => (List.mem_append.mp h).elim (fun h => (List.mem_append.mp h).elim (idL0_ok q) (idL1_ok q)) (idL2_ok q)) (idL3_ok q)) (idL4_ok q)) (idL5_ok q)) (idL6_ok q)
theorem idL_range : idL = List.range 211 := by decide +kernel
theorem codeOf_out {id : Nat} (h : 211 ≤ id) : codeOf id = [] := by
  unfold codeOf
  by_cases h1 : 14 ≤ id / 16
  · rw [getD_out _ _ _ (show codeT.length ≤ id / 16 from h1)]
    rfl
  · rw [show id / 16 = 13 by omega]
    exact getD_out _ _ _ (show 3 ≤ id % 16 by omega)
theorem ck_all (id : Nat) : CkId id := by
  by_cases h : id < 211
  · exact idL_ok id (by rw [idL_range]; exact List.mem_range.mpr h)
  · intro pc e he
    rw [codeOf_out (by omega)] at he
    cases he
end
section
/-! THE PURE MACHINE IS SOUND: what it asks of an instruction suffices for the machine itself -/
def AOA (ty : FieldType) (U : State) : Prop := (Jvm.Cond.arrayOver (.array ty)).before #[] U = true
/-- the surroundings: nest links, strings, statics: nothing of it is ever written -/
def EN (ro : Int → Option Nat) (RM : Mm_) (A : Nat → Prop) (U : State) : Prop :=
  (∀ w ∈ NW, va_Nw w U) ∧ va_AO "BorrowedWords$Text" U ∧ AOA .int U ∧ AOA .long U ∧
  (∀ z : Int, -19 ≤ z → z ≤ -10 → ∃ ak av : Nat, ro z = some ak ∧ ro (z - 20) = some av ∧ va_O "java/lang/String" ak A U U.heap ∧ va_OF "java/lang/String" "coder" "B" (.int (Int32.ofInt (RM z 1))) ak A U U.heap ∧ va_OF "java/lang/String" "value" "[B" (.ref av) ak A U U.heap ∧ va_T .byte av (RM (z - 20) (-1)).toNat (fun j => .int (Int32.ofInt (RM (z - 20) j))) A U U.heap) ∧
  (∀ q ∈ srL, ∃ ak : Nat, ro (-(q.1 : Int) - 10) = some ak ∧ vk_R "BorrowedWords$RuleReader" q.2.1 q.2.2 ak U) ∧
  va_Z "java/lang/String" "COMPACT_STRINGS" "Z" (.int 1) A U U.heap ∧
  va_Z "jdk/internal/util/Preconditions" "SIOOBE_FORMATTER" "Ljava/util/function/BiFunction;" (va_rf (ro (-6))) A U U.heap ∧
  (∀ z : Int, -5 ≤ z → z ≤ -3 → ∃ t : Nat, ro z = some t ∧ va_Z "BorrowedWords" (stN_ z) "[I" (.ref t) A U U.heap) ∧
  (∀ z : Int, -5 ≤ z → z ≤ -2 → ∃ t : Nat, ro z = some t ∧ va_T .int t (RM z (-1)).toNat (fun j => .int (Int32.ofInt (RM z j))) A U U.heap)
theorem AOA_spec {U : State} {ty : FieldType} (h : AOA ty U) : ∃ comp c k, U.vm.findClass (FieldType.array ty).toString = some comp ∧ (U.vm.classes.findIdx? fun (x : Class) => match x.kind with | .array component _ => component == comp | _ => false) = some c ∧ U.vm.classes[c]? = some k ∧ k.kind = .array comp (.array ty) ∧ U.vm.findClass ("[" ++ (FieldType.array ty).toString) = some c := by
  unfold AOA Jvm.Cond.before at h
  simp only [Cond.holds, Cond.value, beq_iff_eq] at h
  cases hc : U.vm.findClass (FieldType.array ty).toString with
  | none => simp [hc] at h
  | some comp =>
    simp only [hc, Option.bind_some, Option.bind_eq_some_iff, Option.map_eq_some_iff] at h
    obtain ⟨c, hi, k, hk, hb⟩ := h
    obtain ⟨hlt, hp, -⟩ := Array.findIdx?_eq_some_iff_getElem.mp hi
    have hkk : U.vm.classes[c] = k := (Array.getElem?_eq_some_iff.mp hk).2
    rw [hkk] at hp
    cases hkind : k.kind with
    | array component ty2 =>
      simp only [hkind, Bool.and_eq_true, decide_eq_true_eq, beq_iff_eq] at hb hp
      subst hp
      exact ⟨component, c, k, rfl, hi, hk, by rw [hkind, hb.1], hb.2⟩
    | _ => simp [hkind] at hb
theorem idx_bare (vm : Vm) (comp : ClassId) : (vm.bare.classes.findIdx? fun (x : Class) => match x.kind with | .array component _ => component == comp | _ => false) = (vm.classes.findIdx? fun (x : Class) => match x.kind with | .array component _ => component == comp | _ => false) := by
  simp only [Vm.bare, Array.findIdx?_map]
  rfl
theorem AOA.moved {ty : FieldType} {u U : State} (hvm : u.vm.Alike U.vm) (h : AOA ty u) : AOA ty U := by
  obtain ⟨comp, c, k, h1, h2, h3, h4, h5⟩ := AOA_spec h
  obtain ⟨k', hk', he⟩ := hvm.2.2 _ _ h3
  have hi : (U.vm.classes.findIdx? fun (x : Class) => match x.kind with | .array component _ => component == comp | _ => false) = some c := by
    rw [← idx_bare]
    first | rw [hvm.bare_eq] | rw [← hvm.bare_eq]
    rw [idx_bare]
    exact h2
  have hkind : k'.kind = .array comp (.array ty) := by rw [he]; exact h4
  have f1 : U.vm.findClass (FieldType.array ty).toString = some comp := by rw [hvm.findClass]; exact h1
  have f2 : U.vm.findClass ("[" ++ (FieldType.array ty).toString) = some c := by rw [hvm.findClass]; exact h5
  unfold AOA Jvm.Cond.before Cond.holds
  simp only [Cond.value]
  rw [f1, Option.bind_some]
  refine (congrArg (fun o : Option Nat => (o.bind (fun c => (U.vm.classes[c]?).map fun (k : Class) => match k.kind with | .array _ ty2 => decide (ty2 = FieldType.array ty) && decide (U.vm.findClass ("[" ++ (FieldType.array ty).toString) = some c) | _ => false) == some true)) hi).trans ?_
  simp [hk', hkind, f2]
def isNst : Jvm.Cond → Bool
  | .fieldLinkNest _ _ _ _ _ _ => true
  | .methodLinkNest _ _ _ _ => true
  | _ => false
theorem NW_nst : NW.all isNst = true := rfl
theorem Nw_warm {w : Jvm.Cond} (hn : isNst w = true) {s U : State} (hW : s.WarmedH U.vm) (h : va_Nw w s) : va_Nw w U := by
  cases w <;> first | exact va_Nw.warmF hW h | exact va_Nw.warmM hW h | cases hn
theorem EN.move {ro : Int → Option Nat} {RM : Mm_} {A B : Nat → Prop} {s U : State} (h : EN ro RM A s) (hW : s.WarmedH U.vm) (hq : ∀ a : Nat, a < s.heap.size → ¬ A a → U.heap[a]? = s.heap[a]?) (hAB : ∀ q, B q → A q) : EN ro RM B U := by
  obtain ⟨h1, h2, h3, h4, h5, h6, h7, h8, h9, h10⟩ := h
  have ha := hW.alike
  refine ⟨fun w hw => Nw_warm (List.all_eq_true.mp NW_nst w hw) hW (h1 w hw), va_AO.moved ha h2, AOA.moved ha h3, AOA.moved ha h4, ?_, ?_, ((h7.kept hq).moved ha).narrow hAB, ((h8.kept hq).moved ha).narrow hAB, ?_, ?_⟩
  · intro z z1 z2
    obtain ⟨ak, av, e1, e2, f1, f2, f3, f4⟩ := h5 z z1 z2
    exact ⟨ak, av, e1, e2, ((f1.kept hq).moved ha).narrow hAB, ((f2.kept hq).moved ha).narrow hAB, ((f3.kept hq).moved ha).narrow hAB, ((f4.kept hq).moved ha).narrow hAB⟩
  · intro q hq
    obtain ⟨ak, e1, e2⟩ := h6 q hq
    exact ⟨ak, e1, e2.warm hW⟩
  · intro z z1 z2
    obtain ⟨t, e1, e2⟩ := h9 z z1 z2
    exact ⟨t, e1, ((e2.kept hq).moved ha).narrow hAB⟩
  · intro z z1 z2
    obtain ⟨t, e1, e2⟩ := h10 z z1 z2
    exact ⟨t, e1, ((e2.kept hq).moved ha).narrow hAB⟩
theorem EN.same {ro : Int → Option Nat} {RM : Mm_} {A : Nat → Prop} {s U : State} (h : EN ro RM A s) (hv : s.vm = U.vm) (hh : s.heap = U.heap) : EN ro RM A U :=
  h.move (by rw [← hv]; exact State.WarmedH.refl s) (fun a _ _ => by rw [hh]) (fun _ h => h)
section SND
variable {l : Launch} {D : va_G} {kA : Nat → ClassId} {ro : Int → Option Nat} {RM : Mm_}
def Cx (D : va_G) (kA : Nat → ClassId) (ro : Int → Option Nat) (RM : Mm_) (id : Nat) (A : Nat → Prop) (p : Program) (s : State) (m : MethodId) (args : Array Value) (meth : Method) (c : Code) : Prop :=
  p.tables.exec = Jvm.exec ∧ c.code = byOf id ∧ meth.sig.returnType = retOf id ∧ meth.locks = false ∧ c.maxLocals = mxL id ∧ s.vm.findClass (owN (ownOf id)) = some m.cls ∧ ((yOf id).name = "<init>" → meth.name = "<init>") ∧ (∀ w ∈ GW, w.before args s = true) ∧ EN ro RM A s ∧ va_K D cls_ (TY kA) s ∧ (∀ q : Nat, s.heap.size ≤ q → A q)
def Rl (D : va_G) (kA : Nat → ClassId) (ro : Int → Option Nat) (RM : Mm_) (A : Nat → Prop) (ad : Nat → Nat) (H0 : Heap) (w : Wd_) (M : Mm_) (H : Heap) (locs : List Loc) : Prop :=
  va_P D cls_ (cW kA ro ad w M) H ∧ va_D A (cW kA ro ad w M) ∧ va_S A H0 H locs ∧ WI RM w M
def QcP (D : va_G) (kA : Nat → ClassId) (ro : Int → Option Nat) (RM : Mm_) (A : Nat → Prop) (n0 : Nat) (ad0 : Nat → Nat) (Q : Qp_) : Array Value → State → Outcome → State → Prop := fun _ st o t =>
  (∃ (v : Option Vl_) (w : Wd_) (M : Mm_) (ad : Nat → Nat), o = .returned (v.map (cV ro ad)) ∧ Q v w M ∧ (∀ x, v = some x → okV w x) ∧ n0 ≤ w.length ∧ (∀ i, i < n0 → ad i = ad0 i) ∧ va_P D cls_ (cW kA ro ad w M) t.heap ∧ va_D A (cW kA ro ad w M) ∧ va_K D cls_ (TY kA) t ∧ WI RM w M) ∧ va_F A st t
def Wat (l : Launch) (D : va_G) (kA : Nat → ClassId) (ro : Int → Option Nat) (RM : Mm_) (id : Nat) (A : Nat → Prop) (p : Program) (e : Env) (s : State) (m : MethodId) (args : Array Value) (below : List Frame) (meth : Method) (c : Code) (n0 : Nat) (ad0 : Nat → Nat) (Z : State → Prop) (pc : Nat) (ls : Lc_) (st : List Vl_) (w : Wd_) (M : Mm_) (cn : Cn_) : Prop :=
  ∀ (ad : Nat → Nat) (H : Heap) (locs : List Loc) (lsA : Array Slot) (e0 : In_), n0 ≤ w.length → (∀ i, i < n0 → ad i = ad0 i) → Rl D kA ro RM A ad s.heap w M H locs → LH ro ad lsA (mxL id) ls → okL w ls → okS w st → cn.1 ≤ mcOf id ∧ cn.2 ≤ msOf id → (codeOf id)[pc]? = some e0 →
    W p l e (rmOf id) s m args below meth c H locs cn.1 cn.2 Z (F0 m e0.2.1 lsA (st.map (cV ro ad)))
def Pm (l : Launch) (D : va_G) (kA : Nat → ClassId) (ro : Int → Option Nat) (RM : Mm_) : Jg_ := fun id pc ls st w M cn Q =>
  ∀ (A : Nat → Prop) (p : Program) (e : Env) (s : State) (m : MethodId) (args : Array Value) (below : List Frame) (meth : Method) (c : Code) (n0 : Nat) (ad0 : Nat → Nat), Cx D kA ro RM id A p s m args meth c →
    Wat l D kA ro RM id A p e s m args below meth c n0 ad0 (MQ below (QcP D kA ro RM A n0 ad0 Q) args s (mcOf id) (msOf id) A) pc ls st w M cn
theorem g1_el {t : Nat} {st : List Vl_} {k : Int → List Vl_ → Prop} (h : g1 t st k) : ∃ x r, st = (t, x) :: r ∧ k x r := by
  unfold g1 at h
  split at h
  · rename_i v r
    split at h
    · rename_i e
      have e := Nat.eq_of_beq_eq_true e
      obtain ⟨a, b⟩ := v
      dsimp only at e
      subst e
      exact ⟨b, r, rfl, h⟩
    · exact h.elim
  · exact h.elim
theorem gl_el {t : Nat} {ls : Lc_} {i : Nat} {k : Int → Prop} (h : gl t ls i k) : ∃ x, ls[i]? = some (some (t, x)) ∧ k x := by
  unfold gl at h
  split at h
  · rename_i v hv
    split at h
    · rename_i e
      have e := Nat.eq_of_beq_eq_true e
      obtain ⟨a, b⟩ := v
      dsimp only at e
      subst e
      exact ⟨b, hv, h⟩
    · exact h.elim
  · exact h.elim
theorem nxt_el {cd : List In_} {pc t : Nat} (h : nxt cd pc t = true) : ∃ e1, cd[pc + 1]? = some e1 ∧ e1.2.1 = t := by
  unfold nxt at h
  split at h
  · rename_i e he
    exact ⟨e, he, of_decide_eq_true h⟩
  · cases h
theorem jmp_el {cd : List In_} {a : Nat} {t : Int} (h : jmp cd a t = true) : ∃ e1, cd[a]? = some e1 ∧ t = (e1.2.1 : Int) := by
  unfold jmp at h
  split at h
  · rename_i e he
    exact ⟨e, he, of_decide_eq_true h⟩
  · cases h
theorem dk_el {bs : ByteArray} {bp : Nat} {ins : Instr} {n : Nat} (h : dk bs bp ins n = true) : decode bs bp = .ok (ins, n) := of_decide_eq_true h
theorem rgI_el {z : Int} (h : rgI z = true) : inI z := by
  unfold rgI at h
  simp only [Bool.and_eq_true, decide_eq_true_eq] at h
  exact h
theorem rgL_el {z : Int} (h : rgL z = true) : inL z := by
  unfold rgL at h
  simp only [Bool.and_eq_true, decide_eq_true_eq] at h
  exact h
theorem okS_cons {w : Wd_} {v : Vl_} {st : List Vl_} (h1 : okV w v) (h2 : okS w st) : okS w (v :: st) := fun x hx => by
  rcases List.mem_cons.mp hx with h | h
  · rw [h]; exact h1
  · exact h2 x h
theorem okS_tl {w : Wd_} {v : Vl_} {st : List Vl_} (h : okS w (v :: st)) : okS w st := fun x hx => h x (List.mem_cons_of_mem _ hx)
theorem okS_hd {w : Wd_} {v : Vl_} {st : List Vl_} (h : okS w (v :: st)) : okV w v := h v List.mem_cons_self
theorem lth_set (ls : Lc_) (i : Nat) (v : Vl_) : (setL ls i v).length = ls.length := by
  unfold setL kilL
  split
  · simp
  · split <;> simp
theorem lth_set2 (ls : Lc_) (i : Nat) (v : Vl_) : (setL2 ls i v).length = ls.length := by
  unfold setL2 kilL
  split
  · simp
  · split <;> simp
theorem kil_at {ls : Lc_} {i j : Nat} {v : Vl_} (h : (kilL ls i)[j]? = some (some v)) : ls[j]? = some (some v) ∧ ¬ (j + 1 = i ∧ v.1 = 1) := by
  unfold kilL at h
  split at h
  · exact ⟨h, fun q => by omega⟩
  · rename_i i0
    split at h
    · rename_i y hy
      rw [List.getElem?_set] at h
      split at h
      · split at h <;> simp at h
      · rename_i hne
        exact ⟨h, fun q => hne (by omega)⟩
    · rename_i hn
      refine ⟨h, fun q => ?_⟩
      have e : j = i0 := by omega
      subst e
      obtain ⟨a, b⟩ := v
      obtain ⟨-, q⟩ := q
      dsimp only at q
      subst q
      exact hn b h
theorem set_at {ls : Lc_} {i j : Nat} {v y : Vl_} (h : (setL ls i v)[j]? = some (some y)) : (j = i ∧ y = v) ∨ (j ≠ i ∧ ls[j]? = some (some y) ∧ ¬ (j + 1 = i ∧ y.1 = 1)) := by
  unfold setL at h
  rw [List.getElem?_set] at h
  split at h
  · rename_i e
    split at h
    · simp only [Option.some.injEq] at h
      exact Or.inl ⟨e.symm, h.symm⟩
    · cases h
  · rename_i e
    exact Or.inr ⟨fun q => e q.symm, kil_at h⟩
theorem set2_at {ls : Lc_} {i j : Nat} {v y : Vl_} (h : (setL2 ls i v)[j]? = some (some y)) : (j = i ∧ y = v) ∨ (j ≠ i ∧ j ≠ i + 1 ∧ ls[j]? = some (some y) ∧ ¬ (j + 1 = i ∧ y.1 = 1)) := by
  unfold setL2 at h
  rw [List.getElem?_set] at h
  split at h
  · split at h <;> simp at h
  · rename_i e1
    rw [List.getElem?_set] at h
    split at h
    · rename_i e
      split at h
      · simp only [Option.some.injEq] at h
        exact Or.inl ⟨e.symm, h.symm⟩
      · cases h
    · rename_i e
      exact Or.inr ⟨fun q => e q.symm, fun q => e1 q.symm, kil_at h⟩
theorem okL_set {w : Wd_} {ls : Lc_} {i : Nat} {v : Vl_} (h : okL w ls) (hv : okV w v) : okL w (setL ls i v) := fun j y hy => by
  rcases set_at hy with ⟨-, e⟩ | ⟨-, e, -⟩
  · rw [e]; exact hv
  · exact h j y e
theorem okL_set2 {w : Wd_} {ls : Lc_} {i : Nat} {v : Vl_} (h : okL w ls) (hv : okV w v) : okL w (setL2 ls i v) := fun j y hy => by
  rcases set2_at hy with ⟨-, e⟩ | ⟨-, -, e, -⟩
  · rw [e]; exact hv
  · exact h j y e
theorem cV_cat (ro : Int → Option Nat) (ad : Nat → Nat) (v : Vl_) : (cV ro ad v).category = catV v := by
  obtain ⟨t, x⟩ := v
  match t with
  | 0 => rfl
  | 1 => rfl
  | t + 2 =>
    show (va_rf (adr ro ad x)).category = catV (t + 2, x)
    unfold va_rf catV
    split <;> simp [Value.category]
end SND
end
section
section SN2
variable {l : Launch} {D : va_G} {kA : Nat → ClassId} {ro : Int → Option Nat} {RM : Mm_} {id : Nat} {A : Nat → Prop} {p : Program} {e : Env} {s : State} {m : MethodId} {args : Array Value} {below : List Frame} {meth : Method} {c : Code} {n0 : Nat} {ad0 : Nat → Nat} {Z : State → Prop}
/-- the judgement at a byte -/
def Wb (l : Launch) (D : va_G) (kA : Nat → ClassId) (ro : Int → Option Nat) (RM : Mm_) (id : Nat) (A : Nat → Prop) (p : Program) (e : Env) (s : State) (m : MethodId) (args : Array Value) (below : List Frame) (meth : Method) (c : Code) (n0 : Nat) (ad0 : Nat → Nat) (Z : State → Prop) (bp : Nat) (ls : Lc_) (st : List Vl_) (w : Wd_) (M : Mm_) (cn : Cn_) : Prop :=
  ∀ (ad : Nat → Nat) (H : Heap) (locs : List Loc) (lsA : Array Slot), n0 ≤ w.length → (∀ i, i < n0 → ad i = ad0 i) → Rl D kA ro RM A ad s.heap w M H locs → LH ro ad lsA (mxL id) ls → okL w ls → okS w st → cn.1 ≤ mcOf id ∧ cn.2 ≤ msOf id →
    W p l e (rmOf id) s m args below meth c H locs cn.1 cn.2 Z (F0 m bp lsA (st.map (cV ro ad)))
theorem Wat.b {pc : Nat} {ls : Lc_} {st : List Vl_} {w : Wd_} {M : Mm_} {cn : Cn_} (h : Wat l D kA ro RM id A p e s m args below meth c n0 ad0 Z pc ls st w M cn) {e1 : In_} {t : Nat} (h1 : (codeOf id)[pc]? = some e1) (h2 : e1.2.1 = t) : Wb l D kA ro RM id A p e s m args below meth c n0 ad0 Z t ls st w M cn :=
  fun ad H locs lsA a1 a2 a3 a4 a5 a6 a7 => by rw [← h2]; exact h ad H locs lsA e1 a1 a2 a3 a4 a5 a6 a7 h1
theorem Wat.of {pc : Nat} {ls : Lc_} {st : List Vl_} {w : Wd_} {M : Mm_} {cn : Cn_} (h : ∀ e1 : In_, (codeOf id)[pc]? = some e1 → Wb l D kA ro RM id A p e s m args below meth c n0 ad0 Z e1.2.1 ls st w M cn) : Wat l D kA ro RM id A p e s m args below meth c n0 ad0 Z pc ls st w M cn :=
  fun ad H locs lsA e1 a1 a2 a3 a4 a5 a6 a7 h1 => h e1 h1 ad H locs lsA a1 a2 a3 a4 a5 a6 a7
theorem of8 {z : Int} (h1 : -128 ≤ z) (h2 : z < 128) : (Int8.ofInt z).toInt32 = Int32.ofInt z := by
  apply Int32.toInt_inj.mp
  rw [Int8.toInt_toInt32, inI_of32 (by unfold inI; omega), Int8.toInt_ofInt]
  show Int.bmod z 256 = z
  rw [Int.bmod_def]
  split <;> omega
theorem of16 {z : Int} (h1 : -32768 ≤ z) (h2 : z < 32768) : (Int16.ofInt z).toInt32 = Int32.ofInt z := by
  apply Int32.toInt_inj.mp
  rw [Int16.toInt_toInt32, inI_of32 (by unfold inI; omega), Int16.toInt_ofInt]
  show Int.bmod z 65536 = z
  rw [Int.bmod_def]
  split <;> omega
theorem of_i2l {x : Int} (h : inI x) : (Int32.ofInt x).toInt64 = Int64.ofInt x := by
  apply Int64.toInt_inj.mp
  rw [Int32.toInt_toInt64, inI_of32 h, inL_of64 (inI_L h)]
theorem of_div {x y : Int} (hx : inI x) (hy : inI y) (h0 : 0 ≤ x ∧ 0 < y) : Int32.ofInt x / Int32.ofInt y = Int32.ofInt (x / y) := by
  apply Int32.toInt_inj.mp
  have hq : inI (x / y) := by
    have h1 := Int.ediv_nonneg h0.1 (Int.le_of_lt h0.2)
    have h2 := Int.ediv_le_self y h0.1
    unfold inI at hx ⊢
    omega
  rw [Int32.toInt_div, inI_of32 hx, inI_of32 hy, inI_of32 hq, Int.tdiv_eq_ediv_of_nonneg h0.1]
  unfold inI at hq
  show Int.bmod (x / y) 4294967296 = x / y
  rw [Int.bmod_def]
  generalize x / y = q at *
  split <;> omega
theorem of_div_in {x y : Int} (hx : inI x) (h0 : 0 ≤ x ∧ 0 < y) : inI (x / y) := by
  have h1 := Int.ediv_nonneg h0.1 (Int.le_of_lt h0.2)
  have h2 := Int.ediv_le_self y h0.1
  unfold inI at hx ⊢
  omega
theorem of_rem_in {x y : Int} (hy : inI y) (h0 : 0 ≤ x ∧ 0 < y) : inI (x % y) := by
  have h1 := Int.emod_nonneg x (show y ≠ 0 by omega)
  have h2 := Int.emod_lt_of_pos x h0.2
  unfold inI at hy ⊢
  omega
theorem of_rem {x y : Int} (hx : inI x) (hy : inI y) (h0 : 0 ≤ x ∧ 0 < y) : Int32.ofInt x - Int32.ofInt x / Int32.ofInt y * Int32.ofInt y = Int32.ofInt (x % y) := by
  rw [of_div hx hy h0, ← Int32.ofInt_mul, ← Int32.ofInt_sub, Int.emod_def, Int.mul_comm]
theorem of_ne0 {y : Int} (hy : inI y) (h0 : 0 < y) : ¬ Int32.ofInt y = 0 := fun h => by
  have := congrArg Int32.toInt h
  rw [inI_of32 hy] at this
  have e : (0 : Int32).toInt = 0 := rfl
  omega
theorem of_i2c {x : Int} : ((Int32.ofInt x).toUInt32 % 65536).toInt32 = Int32.ofInt (i2cI x) := by
  rw [pk_char]
  have e : (Int32.ofInt x).toBitVec.toNat = (x % 4294967296).toNat := by
    show (BitVec.ofInt 32 x).toNat = _
    rw [BitVec.toNat_ofInt]
    rfl
  rw [e]
  unfold i2cI nI
  rw [show (x % 65536) = (((x % 4294967296).toNat % 65536 : Nat) : Int) by omega]
  exact (Int32.ofInt_eq_ofNat).symm
theorem i2c_in (x : Int) : inI (i2cI x) := by unfold inI i2cI; omega
theorem of_cmp {x y : Int} (hx : inL x) (hy : inL y) : lg_cmp (Int64.ofInt x) (Int64.ofInt y) = Int32.ofInt (cmpL x y) := by
  have e1 : (Int64.ofInt x > Int64.ofInt y) ↔ y < x := by
    show Int64.ofInt y < Int64.ofInt x ↔ _
    rw [Int64.lt_iff_toInt_lt, inL_of64 hx, inL_of64 hy]
  have e2 : (Int64.ofInt x = Int64.ofInt y) ↔ x = y := by
    rw [← Int64.toInt_inj, inL_of64 hx, inL_of64 hy]
  unfold lg_cmp cmpL
  by_cases h1 : y < x
  · rw [if_pos (e1.mpr h1), if_neg (show ¬ x < y by omega), if_neg (show ¬ x = y by omega)]
    rfl
  · rw [if_neg (fun q => h1 (e1.mp q))]
    by_cases h2 : x = y
    · rw [if_pos (e2.mpr h2), if_neg (show ¬ x < y by omega), if_pos h2]
      rfl
    · rw [if_neg (fun q => h2 (e2.mp q)), if_pos (show x < y by omega)]
      rfl
theorem cmp_in (x y : Int) : inI (cmpL x y) := by
  unfold cmpL inI
  split
  · omega
  · split <;> omega
theorem i32_lt {x y : Int} (hx : inI x) (hy : inI y) : Int32.ofInt x < Int32.ofInt y ↔ x < y := by rw [Int32.lt_iff_toInt_lt, inI_of32 hx, inI_of32 hy]
theorem i32_le {x y : Int} (hx : inI x) (hy : inI y) : Int32.ofInt x ≤ Int32.ofInt y ↔ x ≤ y := by rw [Int32.le_iff_toInt_le, inI_of32 hx, inI_of32 hy]
theorem i32_eq {x y : Int} (hx : inI x) (hy : inI y) : Int32.ofInt x = Int32.ofInt y ↔ x = y := by rw [← Int32.toInt_inj, inI_of32 hx, inI_of32 hy]
theorem in0 : inI 0 := by unfold inI; omega
theorem so_iconst (C : Cx D kA ro RM id A p s m args meth c) {bp : Nat} {ls : Lc_} {st : List Vl_} {w : Wd_} {M : Mm_} {cn : Cn_} {z : Int} (hz : inI z) (hd : decode (byOf id) bp = .ok (.iconst z, 1)) (h : Wb l D kA ro RM id A p e s m args below meth c n0 ad0 Z (bp + 1) ls ((0, z) :: st) w M cn) : Wb l D kA ro RM id A p e s m args below meth c n0 ad0 Z bp ls st w M cn := by
  obtain ⟨hx, hb, hr, hlk, hml, hown, hnm, hts, hen, hK, hA⟩ := C
  intro ad H locs lsA a1 a2 a3 a4 a5 a6 a7
  exact lv_iconst hx hb hd rfl (h ad H locs lsA a1 a2 a3 a4 a5 (okS_cons hz a6) a7)
theorem so_bipush (C : Cx D kA ro RM id A p s m args meth c) {bp : Nat} {ls : Lc_} {st : List Vl_} {w : Wd_} {M : Mm_} {cn : Cn_} {z : Int} (z1 : -128 ≤ z) (z2 : z < 128) (hd : decode (byOf id) bp = .ok (.bipush z, 2)) (h : Wb l D kA ro RM id A p e s m args below meth c n0 ad0 Z (bp + 2) ls ((0, z) :: st) w M cn) : Wb l D kA ro RM id A p e s m args below meth c n0 ad0 Z bp ls st w M cn := by
  obtain ⟨hx, hb, hr, hlk, hml, hown, hnm, hts, hen, hK, hA⟩ := C
  intro ad H locs lsA a1 a2 a3 a4 a5 a6 a7
  exact lv_bipush hx hb hd (of8 z1 z2) (h ad H locs lsA a1 a2 a3 a4 a5 (okS_cons (show inI _ by unfold inI; omega) a6) a7)
theorem so_sipush (C : Cx D kA ro RM id A p s m args meth c) {bp : Nat} {ls : Lc_} {st : List Vl_} {w : Wd_} {M : Mm_} {cn : Cn_} {z : Int} (z1 : -32768 ≤ z) (z2 : z < 32768) (hd : decode (byOf id) bp = .ok (.sipush z, 3)) (h : Wb l D kA ro RM id A p e s m args below meth c n0 ad0 Z (bp + 3) ls ((0, z) :: st) w M cn) : Wb l D kA ro RM id A p e s m args below meth c n0 ad0 Z bp ls st w M cn := by
  obtain ⟨hx, hb, hr, hlk, hml, hown, hnm, hts, hen, hK, hA⟩ := C
  intro ad H locs lsA a1 a2 a3 a4 a5 a6 a7
  exact lv_sipush hx hb hd (of16 z1 z2) (h ad H locs lsA a1 a2 a3 a4 a5 (okS_cons (show inI _ by unfold inI; omega) a6) a7)
theorem so_lconst (C : Cx D kA ro RM id A p s m args meth c) {bp : Nat} {ls : Lc_} {st : List Vl_} {w : Wd_} {M : Mm_} {cn : Cn_} {i : Fin 2} (hd : decode (byOf id) bp = .ok (.lconst i, 1)) (h : Wb l D kA ro RM id A p e s m args below meth c n0 ad0 Z (bp + 1) ls ((1, (i.val : Int)) :: st) w M cn) : Wb l D kA ro RM id A p e s m args below meth c n0 ad0 Z bp ls st w M cn := by
  obtain ⟨hx, hb, hr, hlk, hml, hown, hnm, hts, hen, hK, hA⟩ := C
  intro ad H locs lsA a1 a2 a3 a4 a5 a6 a7
  exact lv_lconst hx hb hd (Int64.ofInt_eq_ofNat).symm (h ad H locs lsA a1 a2 a3 a4 a5 (okS_cons (show inL _ by unfold inL; omega) a6) a7)
theorem so_ldcw (C : Cx D kA ro RM id A p s m args meth c) {bp : Nat} {ls : Lc_} {st : List Vl_} {w : Wd_} {M : Mm_} {cn : Cn_} {i : Nat} {z : Int} (hc : (ownOf id, i, z) ∈ kiL) (hz : inI z) (hd : decode (byOf id) bp = .ok (.ldc_w i, 3)) (h : Wb l D kA ro RM id A p e s m args below meth c n0 ad0 Z (bp + 3) ls ((0, z) :: st) w M cn) : Wb l D kA ro RM id A p e s m args below meth c n0 ad0 Z bp ls st w M cn := by
  obtain ⟨hx, hb, hr, hlk, hml, hown, hnm, hts, hen, hK, hA⟩ := C
  intro ad H locs lsA a1 a2 a3 a4 a5 a6 a7
  exact lv_ldcw hx hb hown (hts _ (kiL_ok _ hc)) hd (h ad H locs lsA a1 a2 a3 a4 a5 (okS_cons hz a6) a7)
theorem so_ldc2 (C : Cx D kA ro RM id A p s m args meth c) {bp : Nat} {ls : Lc_} {st : List Vl_} {w : Wd_} {M : Mm_} {cn : Cn_} {i : Nat} {z : Int} (hc : (ownOf id, i, z) ∈ klL) (hz : inL z) (hd : decode (byOf id) bp = .ok (.ldc2_w i, 3)) (h : Wb l D kA ro RM id A p e s m args below meth c n0 ad0 Z (bp + 3) ls ((1, z) :: st) w M cn) : Wb l D kA ro RM id A p e s m args below meth c n0 ad0 Z bp ls st w M cn := by
  obtain ⟨hx, hb, hr, hlk, hml, hown, hnm, hts, hen, hK, hA⟩ := C
  intro ad H locs lsA a1 a2 a3 a4 a5 a6 a7
  exact lv_ldc2 hx hb hown (hts _ (klL_ok _ hc)) hd (h ad H locs lsA a1 a2 a3 a4 a5 (okS_cons hz a6) a7)
theorem so_iload (C : Cx D kA ro RM id A p s m args meth c) {bp : Nat} {ls : Lc_} {st : List Vl_} {w : Wd_} {M : Mm_} {cn : Cn_} {i : Nat} {x : Int} (hl : ls[i]? = some (some (0, x))) (hd : decode (byOf id) bp = .ok (.iload i, 2)) (h : Wb l D kA ro RM id A p e s m args below meth c n0 ad0 Z (bp + 2) ls ((0, x) :: st) w M cn) : Wb l D kA ro RM id A p e s m args below meth c n0 ad0 Z bp ls st w M cn := by
  obtain ⟨hx, hb, hr, hlk, hml, hown, hnm, hts, hen, hK, hA⟩ := C
  intro ad H locs lsA a1 a2 a3 a4 a5 a6 a7
  exact lv_iload hx hb hd (a4.2.2.2 _ _ hl) (h ad H locs lsA a1 a2 a3 a4 a5 (okS_cons (a5 _ _ hl) a6) a7)
theorem so_iloadn (C : Cx D kA ro RM id A p s m args meth c) {bp : Nat} {ls : Lc_} {st : List Vl_} {w : Wd_} {M : Mm_} {cn : Cn_} {i : Fin 4} {x : Int} (hl : ls[i.val]? = some (some (0, x))) (hd : decode (byOf id) bp = .ok (.iload_n i, 1)) (h : Wb l D kA ro RM id A p e s m args below meth c n0 ad0 Z (bp + 1) ls ((0, x) :: st) w M cn) : Wb l D kA ro RM id A p e s m args below meth c n0 ad0 Z bp ls st w M cn := by
  obtain ⟨hx, hb, hr, hlk, hml, hown, hnm, hts, hen, hK, hA⟩ := C
  intro ad H locs lsA a1 a2 a3 a4 a5 a6 a7
  exact lv_iload_n hx hb hd rfl (a4.2.2.2 _ _ hl) (h ad H locs lsA a1 a2 a3 a4 a5 (okS_cons (a5 _ _ hl) a6) a7)
theorem so_lload (C : Cx D kA ro RM id A p s m args meth c) {bp : Nat} {ls : Lc_} {st : List Vl_} {w : Wd_} {M : Mm_} {cn : Cn_} {i : Nat} {x : Int} (hl : ls[i]? = some (some (1, x))) (hd : decode (byOf id) bp = .ok (.lload i, 2)) (h : Wb l D kA ro RM id A p e s m args below meth c n0 ad0 Z (bp + 2) ls ((1, x) :: st) w M cn) : Wb l D kA ro RM id A p e s m args below meth c n0 ad0 Z bp ls st w M cn := by
  obtain ⟨hx, hb, hr, hlk, hml, hown, hnm, hts, hen, hK, hA⟩ := C
  intro ad H locs lsA a1 a2 a3 a4 a5 a6 a7
  exact lv_lload hx hb hd (a4.2.2.2 _ _ hl) (h ad H locs lsA a1 a2 a3 a4 a5 (okS_cons (a5 _ _ hl) a6) a7)
theorem so_lloadn (C : Cx D kA ro RM id A p s m args meth c) {bp : Nat} {ls : Lc_} {st : List Vl_} {w : Wd_} {M : Mm_} {cn : Cn_} {i : Fin 4} {x : Int} (hl : ls[i.val]? = some (some (1, x))) (hd : decode (byOf id) bp = .ok (.lload_n i, 1)) (h : Wb l D kA ro RM id A p e s m args below meth c n0 ad0 Z (bp + 1) ls ((1, x) :: st) w M cn) : Wb l D kA ro RM id A p e s m args below meth c n0 ad0 Z bp ls st w M cn := by
  obtain ⟨hx, hb, hr, hlk, hml, hown, hnm, hts, hen, hK, hA⟩ := C
  intro ad H locs lsA a1 a2 a3 a4 a5 a6 a7
  exact lv_lload_n hx hb hd rfl (a4.2.2.2 _ _ hl) (h ad H locs lsA a1 a2 a3 a4 a5 (okS_cons (a5 _ _ hl) a6) a7)
theorem so_aload (C : Cx D kA ro RM id A p s m args meth c) {bp : Nat} {ls : Lc_} {st : List Vl_} {w : Wd_} {M : Mm_} {cn : Cn_} {i : Nat} {x : Int} (hl : ls[i]? = some (some (2, x))) (hd : decode (byOf id) bp = .ok (.aload i, 2)) (h : Wb l D kA ro RM id A p e s m args below meth c n0 ad0 Z (bp + 2) ls ((2, x) :: st) w M cn) : Wb l D kA ro RM id A p e s m args below meth c n0 ad0 Z bp ls st w M cn := by
  obtain ⟨hx, hb, hr, hlk, hml, hown, hnm, hts, hen, hK, hA⟩ := C
  intro ad H locs lsA a1 a2 a3 a4 a5 a6 a7
  have hk := h ad H locs lsA a1 a2 a3 a4 a5 (okS_cons (a5 _ _ hl) a6) a7
  have hs := a4.2.2.2 _ _ hl
  change W _ _ _ _ _ _ _ _ _ _ _ _ _ _ _ (F0 m _ lsA (va_rf (adr ro ad x) :: st.map (cV ro ad))) at hk
  change lsA[_]? = some (Slot.val (va_rf (adr ro ad x))) at hs
  cases hv : adr ro ad x with
  | none => rw [hv] at hk hs; exact lv_aloadN hx hb hd hs hk
  | some q => rw [hv] at hk hs; exact lv_aload hx hb hd hs hk
theorem so_aloadn (C : Cx D kA ro RM id A p s m args meth c) {bp : Nat} {ls : Lc_} {st : List Vl_} {w : Wd_} {M : Mm_} {cn : Cn_} {i : Fin 4} {x : Int} (hl : ls[i.val]? = some (some (2, x))) (hd : decode (byOf id) bp = .ok (.aload_n i, 1)) (h : Wb l D kA ro RM id A p e s m args below meth c n0 ad0 Z (bp + 1) ls ((2, x) :: st) w M cn) : Wb l D kA ro RM id A p e s m args below meth c n0 ad0 Z bp ls st w M cn := by
  obtain ⟨hx, hb, hr, hlk, hml, hown, hnm, hts, hen, hK, hA⟩ := C
  intro ad H locs lsA a1 a2 a3 a4 a5 a6 a7
  have hk := h ad H locs lsA a1 a2 a3 a4 a5 (okS_cons (a5 _ _ hl) a6) a7
  have hs := a4.2.2.2 _ _ hl
  change W _ _ _ _ _ _ _ _ _ _ _ _ _ _ _ (F0 m _ lsA (va_rf (adr ro ad x) :: st.map (cV ro ad))) at hk
  change lsA[_]? = some (Slot.val (va_rf (adr ro ad x))) at hs
  cases hv : adr ro ad x with
  | none => rw [hv] at hk hs; exact lv_aload_nN hx hb hd rfl hs hk
  | some q => rw [hv] at hk hs; exact lv_aload_n hx hb hd rfl hs hk
theorem so_istore (C : Cx D kA ro RM id A p s m args meth c) {bp : Nat} {ls : Lc_} {st : List Vl_} {w : Wd_} {M : Mm_} {cn : Cn_} {i : Nat} {x : Int} (hn : i < mxL id) (hd : decode (byOf id) bp = .ok (.istore i, 2)) (h : Wb l D kA ro RM id A p e s m args below meth c n0 ad0 Z (bp + 2) (setL ls i (0, x)) st w M cn) : Wb l D kA ro RM id A p e s m args below meth c n0 ad0 Z bp ls ((0, x) :: st) w M cn := by
  obtain ⟨hx, hb, hr, hlk, hml, hown, hnm, hts, hen, hK, hA⟩ := C
  intro ad H locs lsA a1 a2 a3 a4 a5 a6 a7
  have hk : ∀ ls2 : Array Slot, LH ro ad ls2 (mxL id) (setL ls i (0, x)) → _ := fun ls2 hl2 => h ad H locs ls2 a1 a2 a3 hl2 (okL_set a5 (okS_hd a6)) (okS_tl a6) a7
  refine lv_istore hx hb hd a4.has hn rfl (fun ls2 hl2 => hk ls2 (LH.of hl2 (by rw [lth_set]; exact a4.2.1) (fun j v hv => ?_)))
  rcases set_at hv with ⟨e1, e2⟩ | ⟨e1, e2, e3⟩
  · rw [e1, e2]; exact List.mem_cons_self
  · refine List.mem_cons_of_mem _ (List.mem_filter.mpr ⟨mem_cL.mpr ⟨v, e2, rfl⟩, ?_⟩)
    have e5 : ¬ (j + 1 = i ∧ (cV ro ad v).category = 2) := fun q => e3 ⟨q.1, by have := q.2; rw [cV_cat] at this; unfold catV at this; split at this <;> omega⟩
    simp only [Bool.and_eq_true, Bool.not_eq_true', beq_eq_false_iff_ne, ne_eq, Bool.and_eq_false_imp, beq_iff_eq]
    exact ⟨e1, fun q1 q2 => e5 ⟨q1, q2⟩⟩
theorem so_lstore (C : Cx D kA ro RM id A p s m args meth c) {bp : Nat} {ls : Lc_} {st : List Vl_} {w : Wd_} {M : Mm_} {cn : Cn_} {i : Nat} {x : Int} (hn : i + 1 < mxL id) (hd : decode (byOf id) bp = .ok (.lstore i, 2)) (h : Wb l D kA ro RM id A p e s m args below meth c n0 ad0 Z (bp + 2) (setL2 ls i (1, x)) st w M cn) : Wb l D kA ro RM id A p e s m args below meth c n0 ad0 Z bp ls ((1, x) :: st) w M cn := by
  obtain ⟨hx, hb, hr, hlk, hml, hown, hnm, hts, hen, hK, hA⟩ := C
  intro ad H locs lsA a1 a2 a3 a4 a5 a6 a7
  have hk : ∀ ls2 : Array Slot, LH ro ad ls2 (mxL id) (setL2 ls i (1, x)) → _ := fun ls2 hl2 => h ad H locs ls2 a1 a2 a3 hl2 (okL_set2 a5 (okS_hd a6)) (okS_tl a6) a7
  refine lv_lstore hx hb hd a4.has hn rfl (fun ls2 hl2 => hk ls2 (LH.of hl2 (by rw [lth_set2]; exact a4.2.1) (fun j v hv => ?_)))
  rcases set2_at hv with ⟨e1, e2⟩ | ⟨e1, e4, e2, e3⟩
  · rw [e1, e2]; exact List.mem_cons_self
  · refine List.mem_cons_of_mem _ (List.mem_filter.mpr ⟨mem_cL.mpr ⟨v, e2, rfl⟩, ?_⟩)
    have e5 : ¬ (j + 1 = i ∧ (cV ro ad v).category = 2) := fun q => e3 ⟨q.1, by have := q.2; rw [cV_cat] at this; unfold catV at this; split at this <;> omega⟩
    simp only [Bool.and_eq_true, Bool.not_eq_true', beq_eq_false_iff_ne, ne_eq, Bool.and_eq_false_imp, beq_iff_eq]
    exact ⟨e1, ⟨e4, fun q1 q2 => e5 ⟨q1, q2⟩⟩⟩
theorem so_astore (C : Cx D kA ro RM id A p s m args meth c) {bp : Nat} {ls : Lc_} {st : List Vl_} {w : Wd_} {M : Mm_} {cn : Cn_} {i : Nat} {x : Int} (hn : i < mxL id) (hd : decode (byOf id) bp = .ok (.astore i, 2)) (h : Wb l D kA ro RM id A p e s m args below meth c n0 ad0 Z (bp + 2) (setL ls i (2, x)) st w M cn) : Wb l D kA ro RM id A p e s m args below meth c n0 ad0 Z bp ls ((2, x) :: st) w M cn := by
  obtain ⟨hx, hb, hr, hlk, hml, hown, hnm, hts, hen, hK, hA⟩ := C
  intro ad H locs lsA a1 a2 a3 a4 a5 a6 a7
  have hk : ∀ ls2 : Array Slot, LH ro ad ls2 (mxL id) (setL ls i (2, x)) → _ := fun ls2 hl2 => h ad H locs ls2 a1 a2 a3 hl2 (okL_set a5 (okS_hd a6)) (okS_tl a6) a7
  change W _ _ _ _ _ _ _ _ _ _ _ _ _ _ _ (F0 m _ lsA (va_rf (adr ro ad x) :: st.map (cV ro ad)))
  have ecv : cV ro ad (2, x) = va_rf (adr ro ad x) := rfl
  cases hv0 : adr ro ad x with
  | none =>
    rw [hv0] at ecv
    refine lv_astoreN hx hb hd a4.has hn rfl (fun ls2 hl2 => hk ls2 (LH.of hl2 (by rw [lth_set]; exact a4.2.1) (fun j v hv => ?_)))
    rcases set_at hv with ⟨e1, e2⟩ | ⟨e1, e2, e3⟩
    · rw [e1, e2, ecv]; exact List.mem_cons_self
    · refine List.mem_cons_of_mem _ (List.mem_filter.mpr ⟨mem_cL.mpr ⟨v, e2, rfl⟩, ?_⟩)
      have e5 : ¬ (j + 1 = i ∧ (cV ro ad v).category = 2) := fun q => e3 ⟨q.1, by have := q.2; rw [cV_cat] at this; unfold catV at this; split at this <;> omega⟩
      simp only [Bool.and_eq_true, Bool.not_eq_true', beq_eq_false_iff_ne, ne_eq, Bool.and_eq_false_imp, beq_iff_eq]
      exact ⟨e1, fun q1 q2 => e5 ⟨q1, q2⟩⟩
  | some q =>
    rw [hv0] at ecv
    refine lv_astore hx hb hd a4.has hn rfl (fun ls2 hl2 => hk ls2 (LH.of hl2 (by rw [lth_set]; exact a4.2.1) (fun j v hv => ?_)))
    rcases set_at hv with ⟨e1, e2⟩ | ⟨e1, e2, e3⟩
    · rw [e1, e2, ecv]; exact List.mem_cons_self
    · refine List.mem_cons_of_mem _ (List.mem_filter.mpr ⟨mem_cL.mpr ⟨v, e2, rfl⟩, ?_⟩)
      have e5 : ¬ (j + 1 = i ∧ (cV ro ad v).category = 2) := fun q => e3 ⟨q.1, by have := q.2; rw [cV_cat] at this; unfold catV at this; split at this <;> omega⟩
      simp only [Bool.and_eq_true, Bool.not_eq_true', beq_eq_false_iff_ne, ne_eq, Bool.and_eq_false_imp, beq_iff_eq]
      exact ⟨e1, fun q1 q2 => e5 ⟨q1, q2⟩⟩
theorem so_istoren (C : Cx D kA ro RM id A p s m args meth c) {bp : Nat} {ls : Lc_} {st : List Vl_} {w : Wd_} {M : Mm_} {cn : Cn_} {i : Fin 4} {x : Int} (hn : i.val < mxL id) (hd : decode (byOf id) bp = .ok (.istore_n i, 1)) (h : Wb l D kA ro RM id A p e s m args below meth c n0 ad0 Z (bp + 1) (setL ls i.val (0, x)) st w M cn) : Wb l D kA ro RM id A p e s m args below meth c n0 ad0 Z bp ls ((0, x) :: st) w M cn := by
  obtain ⟨hx, hb, hr, hlk, hml, hown, hnm, hts, hen, hK, hA⟩ := C
  intro ad H locs lsA a1 a2 a3 a4 a5 a6 a7
  have hk : ∀ ls2 : Array Slot, LH ro ad ls2 (mxL id) (setL ls i.val (0, x)) → _ := fun ls2 hl2 => h ad H locs ls2 a1 a2 a3 hl2 (okL_set a5 (okS_hd a6)) (okS_tl a6) a7
  refine lv_istore_n hx hb hd rfl a4.has hn rfl (fun ls2 hl2 => hk ls2 (LH.of hl2 (by rw [lth_set]; exact a4.2.1) (fun j v hv => ?_)))
  rcases set_at hv with ⟨e1, e2⟩ | ⟨e1, e2, e3⟩
  · rw [e1, e2]; exact List.mem_cons_self
  · refine List.mem_cons_of_mem _ (List.mem_filter.mpr ⟨mem_cL.mpr ⟨v, e2, rfl⟩, ?_⟩)
    have e5 : ¬ (j + 1 = i.val ∧ (cV ro ad v).category = 2) := fun q => e3 ⟨q.1, by have := q.2; rw [cV_cat] at this; unfold catV at this; split at this <;> omega⟩
    simp only [Bool.and_eq_true, Bool.not_eq_true', beq_eq_false_iff_ne, ne_eq, Bool.and_eq_false_imp, beq_iff_eq]
    exact ⟨e1, fun q1 q2 => e5 ⟨q1, q2⟩⟩
theorem so_lstoren (C : Cx D kA ro RM id A p s m args meth c) {bp : Nat} {ls : Lc_} {st : List Vl_} {w : Wd_} {M : Mm_} {cn : Cn_} {i : Fin 4} {x : Int} (hn : i.val + 1 < mxL id) (hd : decode (byOf id) bp = .ok (.lstore_n i, 1)) (h : Wb l D kA ro RM id A p e s m args below meth c n0 ad0 Z (bp + 1) (setL2 ls i.val (1, x)) st w M cn) : Wb l D kA ro RM id A p e s m args below meth c n0 ad0 Z bp ls ((1, x) :: st) w M cn := by
  obtain ⟨hx, hb, hr, hlk, hml, hown, hnm, hts, hen, hK, hA⟩ := C
  intro ad H locs lsA a1 a2 a3 a4 a5 a6 a7
  have hk : ∀ ls2 : Array Slot, LH ro ad ls2 (mxL id) (setL2 ls i.val (1, x)) → _ := fun ls2 hl2 => h ad H locs ls2 a1 a2 a3 hl2 (okL_set2 a5 (okS_hd a6)) (okS_tl a6) a7
  refine lv_lstore_n hx hb hd rfl a4.has hn rfl (fun ls2 hl2 => hk ls2 (LH.of hl2 (by rw [lth_set2]; exact a4.2.1) (fun j v hv => ?_)))
  rcases set2_at hv with ⟨e1, e2⟩ | ⟨e1, e4, e2, e3⟩
  · rw [e1, e2]; exact List.mem_cons_self
  · refine List.mem_cons_of_mem _ (List.mem_filter.mpr ⟨mem_cL.mpr ⟨v, e2, rfl⟩, ?_⟩)
    have e5 : ¬ (j + 1 = i.val ∧ (cV ro ad v).category = 2) := fun q => e3 ⟨q.1, by have := q.2; rw [cV_cat] at this; unfold catV at this; split at this <;> omega⟩
    simp only [Bool.and_eq_true, Bool.not_eq_true', beq_eq_false_iff_ne, ne_eq, Bool.and_eq_false_imp, beq_iff_eq]
    exact ⟨e1, ⟨e4, fun q1 q2 => e5 ⟨q1, q2⟩⟩⟩
theorem so_astoren (C : Cx D kA ro RM id A p s m args meth c) {bp : Nat} {ls : Lc_} {st : List Vl_} {w : Wd_} {M : Mm_} {cn : Cn_} {i : Fin 4} {x : Int} (hn : i.val < mxL id) (hd : decode (byOf id) bp = .ok (.astore_n i, 1)) (h : Wb l D kA ro RM id A p e s m args below meth c n0 ad0 Z (bp + 1) (setL ls i.val (2, x)) st w M cn) : Wb l D kA ro RM id A p e s m args below meth c n0 ad0 Z bp ls ((2, x) :: st) w M cn := by
  obtain ⟨hx, hb, hr, hlk, hml, hown, hnm, hts, hen, hK, hA⟩ := C
  intro ad H locs lsA a1 a2 a3 a4 a5 a6 a7
  have hk : ∀ ls2 : Array Slot, LH ro ad ls2 (mxL id) (setL ls i.val (2, x)) → _ := fun ls2 hl2 => h ad H locs ls2 a1 a2 a3 hl2 (okL_set a5 (okS_hd a6)) (okS_tl a6) a7
  change W _ _ _ _ _ _ _ _ _ _ _ _ _ _ _ (F0 m _ lsA (va_rf (adr ro ad x) :: st.map (cV ro ad)))
  have ecv : cV ro ad (2, x) = va_rf (adr ro ad x) := rfl
  cases hv0 : adr ro ad x with
  | none =>
    rw [hv0] at ecv
    refine lv_astore_nN hx hb hd rfl a4.has hn rfl (fun ls2 hl2 => hk ls2 (LH.of hl2 (by rw [lth_set]; exact a4.2.1) (fun j v hv => ?_)))
    rcases set_at hv with ⟨e1, e2⟩ | ⟨e1, e2, e3⟩
    · rw [e1, e2, ecv]; exact List.mem_cons_self
    · refine List.mem_cons_of_mem _ (List.mem_filter.mpr ⟨mem_cL.mpr ⟨v, e2, rfl⟩, ?_⟩)
      have e5 : ¬ (j + 1 = i.val ∧ (cV ro ad v).category = 2) := fun q => e3 ⟨q.1, by have := q.2; rw [cV_cat] at this; unfold catV at this; split at this <;> omega⟩
      simp only [Bool.and_eq_true, Bool.not_eq_true', beq_eq_false_iff_ne, ne_eq, Bool.and_eq_false_imp, beq_iff_eq]
      exact ⟨e1, fun q1 q2 => e5 ⟨q1, q2⟩⟩
  | some q =>
    rw [hv0] at ecv
    refine lv_astore_n hx hb hd rfl a4.has hn rfl (fun ls2 hl2 => hk ls2 (LH.of hl2 (by rw [lth_set]; exact a4.2.1) (fun j v hv => ?_)))
    rcases set_at hv with ⟨e1, e2⟩ | ⟨e1, e2, e3⟩
    · rw [e1, e2, ecv]; exact List.mem_cons_self
    · refine List.mem_cons_of_mem _ (List.mem_filter.mpr ⟨mem_cL.mpr ⟨v, e2, rfl⟩, ?_⟩)
      have e5 : ¬ (j + 1 = i.val ∧ (cV ro ad v).category = 2) := fun q => e3 ⟨q.1, by have := q.2; rw [cV_cat] at this; unfold catV at this; split at this <;> omega⟩
      simp only [Bool.and_eq_true, Bool.not_eq_true', beq_eq_false_iff_ne, ne_eq, Bool.and_eq_false_imp, beq_iff_eq]
      exact ⟨e1, fun q1 q2 => e5 ⟨q1, q2⟩⟩
end SN2
end
section
section SN3
variable {l : Launch} {D : va_G} {kA : Nat → ClassId} {ro : Int → Option Nat} {RM : Mm_} {id : Nat} {A : Nat → Prop} {p : Program} {e : Env} {s : State} {m : MethodId} {args : Array Value} {below : List Frame} {meth : Method} {c : Code} {n0 : Nat} {ad0 : Nat → Nat} {Z : State → Prop}
theorem so_iadd (C : Cx D kA ro RM id A p s m args meth c) {bp : Nat} {ls : Lc_} {st : List Vl_} {w : Wd_} {M : Mm_} {cn : Cn_} {x y : Int} (hi : inI (x + y)) (hd : decode (byOf id) bp = .ok (.iadd, 1)) (h : Wb l D kA ro RM id A p e s m args below meth c n0 ad0 Z (bp + 1) ls ((0, x + y) :: st) w M cn) : Wb l D kA ro RM id A p e s m args below meth c n0 ad0 Z bp ls ((0, y) :: (0, x) :: st) w M cn := by
  obtain ⟨hx, hb, hr, hlk, hml, hown, hnm, hts, hen, hK, hA⟩ := C
  intro ad H locs lsA a1 a2 a3 a4 a5 a6 a7
  have hk := h ad H locs lsA a1 a2 a3 a4 a5 (okS_cons (v := (0, x + y)) hi (okS_tl (okS_tl a6))) a7
  have ox : okV w (0, x) := okS_hd (okS_tl a6)
  have oy : okV w (0, y) := okS_hd a6
  change W _ _ _ _ _ _ _ _ _ _ _ _ _ _ _ (F0 m (bp + 1) lsA (.int (Int32.ofInt (x + y)) :: st.map (cV ro ad))) at hk
  rw [Int32.ofInt_add] at hk
  exact lv_iadd hx hb hd hk
theorem so_isub (C : Cx D kA ro RM id A p s m args meth c) {bp : Nat} {ls : Lc_} {st : List Vl_} {w : Wd_} {M : Mm_} {cn : Cn_} {x y : Int} (hi : inI (x - y)) (hd : decode (byOf id) bp = .ok (.isub, 1)) (h : Wb l D kA ro RM id A p e s m args below meth c n0 ad0 Z (bp + 1) ls ((0, x - y) :: st) w M cn) : Wb l D kA ro RM id A p e s m args below meth c n0 ad0 Z bp ls ((0, y) :: (0, x) :: st) w M cn := by
  obtain ⟨hx, hb, hr, hlk, hml, hown, hnm, hts, hen, hK, hA⟩ := C
  intro ad H locs lsA a1 a2 a3 a4 a5 a6 a7
  have hk := h ad H locs lsA a1 a2 a3 a4 a5 (okS_cons (v := (0, x - y)) hi (okS_tl (okS_tl a6))) a7
  have ox : okV w (0, x) := okS_hd (okS_tl a6)
  have oy : okV w (0, y) := okS_hd a6
  change W _ _ _ _ _ _ _ _ _ _ _ _ _ _ _ (F0 m (bp + 1) lsA (.int (Int32.ofInt (x - y)) :: st.map (cV ro ad))) at hk
  rw [Int32.ofInt_sub] at hk
  exact lv_isub hx hb hd hk
theorem so_imul (C : Cx D kA ro RM id A p s m args meth c) {bp : Nat} {ls : Lc_} {st : List Vl_} {w : Wd_} {M : Mm_} {cn : Cn_} {x y : Int} (hi : inI (x * y)) (hd : decode (byOf id) bp = .ok (.imul, 1)) (h : Wb l D kA ro RM id A p e s m args below meth c n0 ad0 Z (bp + 1) ls ((0, x * y) :: st) w M cn) : Wb l D kA ro RM id A p e s m args below meth c n0 ad0 Z bp ls ((0, y) :: (0, x) :: st) w M cn := by
  obtain ⟨hx, hb, hr, hlk, hml, hown, hnm, hts, hen, hK, hA⟩ := C
  intro ad H locs lsA a1 a2 a3 a4 a5 a6 a7
  have hk := h ad H locs lsA a1 a2 a3 a4 a5 (okS_cons (v := (0, x * y)) hi (okS_tl (okS_tl a6))) a7
  have ox : okV w (0, x) := okS_hd (okS_tl a6)
  have oy : okV w (0, y) := okS_hd a6
  change W _ _ _ _ _ _ _ _ _ _ _ _ _ _ _ (F0 m (bp + 1) lsA (.int (Int32.ofInt (x * y)) :: st.map (cV ro ad))) at hk
  rw [Int32.ofInt_mul] at hk
  exact lv_imul hx hb hd hk
theorem so_ladd (C : Cx D kA ro RM id A p s m args meth c) {bp : Nat} {ls : Lc_} {st : List Vl_} {w : Wd_} {M : Mm_} {cn : Cn_} {x y : Int} (hi : inL (x + y)) (hd : decode (byOf id) bp = .ok (.ladd, 1)) (h : Wb l D kA ro RM id A p e s m args below meth c n0 ad0 Z (bp + 1) ls ((1, x + y) :: st) w M cn) : Wb l D kA ro RM id A p e s m args below meth c n0 ad0 Z bp ls ((1, y) :: (1, x) :: st) w M cn := by
  obtain ⟨hx, hb, hr, hlk, hml, hown, hnm, hts, hen, hK, hA⟩ := C
  intro ad H locs lsA a1 a2 a3 a4 a5 a6 a7
  have hk := h ad H locs lsA a1 a2 a3 a4 a5 (okS_cons (v := (1, x + y)) hi (okS_tl (okS_tl a6))) a7
  have ox : okV w (1, x) := okS_hd (okS_tl a6)
  have oy : okV w (1, y) := okS_hd a6
  change W _ _ _ _ _ _ _ _ _ _ _ _ _ _ _ (F0 m (bp + 1) lsA (.long (Int64.ofInt (x + y)) :: st.map (cV ro ad))) at hk
  rw [Int64.ofInt_add] at hk
  exact lv_ladd hx hb hd hk
theorem so_lsub (C : Cx D kA ro RM id A p s m args meth c) {bp : Nat} {ls : Lc_} {st : List Vl_} {w : Wd_} {M : Mm_} {cn : Cn_} {x y : Int} (hi : inL (x - y)) (hd : decode (byOf id) bp = .ok (.lsub, 1)) (h : Wb l D kA ro RM id A p e s m args below meth c n0 ad0 Z (bp + 1) ls ((1, x - y) :: st) w M cn) : Wb l D kA ro RM id A p e s m args below meth c n0 ad0 Z bp ls ((1, y) :: (1, x) :: st) w M cn := by
  obtain ⟨hx, hb, hr, hlk, hml, hown, hnm, hts, hen, hK, hA⟩ := C
  intro ad H locs lsA a1 a2 a3 a4 a5 a6 a7
  have hk := h ad H locs lsA a1 a2 a3 a4 a5 (okS_cons (v := (1, x - y)) hi (okS_tl (okS_tl a6))) a7
  have ox : okV w (1, x) := okS_hd (okS_tl a6)
  have oy : okV w (1, y) := okS_hd a6
  change W _ _ _ _ _ _ _ _ _ _ _ _ _ _ _ (F0 m (bp + 1) lsA (.long (Int64.ofInt (x - y)) :: st.map (cV ro ad))) at hk
  rw [Int64.ofInt_sub] at hk
  exact lv_lsub hx hb hd hk
theorem so_lmul (C : Cx D kA ro RM id A p s m args meth c) {bp : Nat} {ls : Lc_} {st : List Vl_} {w : Wd_} {M : Mm_} {cn : Cn_} {x y : Int} (hi : inL (x * y)) (hd : decode (byOf id) bp = .ok (.lmul, 1)) (h : Wb l D kA ro RM id A p e s m args below meth c n0 ad0 Z (bp + 1) ls ((1, x * y) :: st) w M cn) : Wb l D kA ro RM id A p e s m args below meth c n0 ad0 Z bp ls ((1, y) :: (1, x) :: st) w M cn := by
  obtain ⟨hx, hb, hr, hlk, hml, hown, hnm, hts, hen, hK, hA⟩ := C
  intro ad H locs lsA a1 a2 a3 a4 a5 a6 a7
  have hk := h ad H locs lsA a1 a2 a3 a4 a5 (okS_cons (v := (1, x * y)) hi (okS_tl (okS_tl a6))) a7
  have ox : okV w (1, x) := okS_hd (okS_tl a6)
  have oy : okV w (1, y) := okS_hd a6
  change W _ _ _ _ _ _ _ _ _ _ _ _ _ _ _ (F0 m (bp + 1) lsA (.long (Int64.ofInt (x * y)) :: st.map (cV ro ad))) at hk
  rw [Int64.ofInt_mul] at hk
  exact lv_lmul hx hb hd hk
theorem so_idiv (C : Cx D kA ro RM id A p s m args meth c) {bp : Nat} {ls : Lc_} {st : List Vl_} {w : Wd_} {M : Mm_} {cn : Cn_} {x y : Int} (h0 : 0 ≤ x ∧ 0 < y) (hd : decode (byOf id) bp = .ok (.idiv, 1)) (h : Wb l D kA ro RM id A p e s m args below meth c n0 ad0 Z (bp + 1) ls ((0, x / y) :: st) w M cn) : Wb l D kA ro RM id A p e s m args below meth c n0 ad0 Z bp ls ((0, y) :: (0, x) :: st) w M cn := by
  obtain ⟨hx, hb, hr, hlk, hml, hown, hnm, hts, hen, hK, hA⟩ := C
  intro ad H locs lsA a1 a2 a3 a4 a5 a6 a7
  have hk := h ad H locs lsA a1 a2 a3 a4 a5 (okS_cons (v := (0, x / y)) (of_div_in (okS_hd (okS_tl a6)) h0) (okS_tl (okS_tl a6))) a7
  have ox : okV w (0, x) := okS_hd (okS_tl a6)
  have oy : okV w (0, y) := okS_hd a6
  change W _ _ _ _ _ _ _ _ _ _ _ _ _ _ _ (F0 m (bp + 1) lsA (.int (Int32.ofInt (x / y)) :: st.map (cV ro ad))) at hk
  rw [← of_div ox oy h0] at hk
  exact lv_idiv hx hb hd (of_ne0 oy h0.2) hk
theorem so_irem (C : Cx D kA ro RM id A p s m args meth c) {bp : Nat} {ls : Lc_} {st : List Vl_} {w : Wd_} {M : Mm_} {cn : Cn_} {x y : Int} (h0 : 0 ≤ x ∧ 0 < y) (hd : decode (byOf id) bp = .ok (.irem, 1)) (h : Wb l D kA ro RM id A p e s m args below meth c n0 ad0 Z (bp + 1) ls ((0, x % y) :: st) w M cn) : Wb l D kA ro RM id A p e s m args below meth c n0 ad0 Z bp ls ((0, y) :: (0, x) :: st) w M cn := by
  obtain ⟨hx, hb, hr, hlk, hml, hown, hnm, hts, hen, hK, hA⟩ := C
  intro ad H locs lsA a1 a2 a3 a4 a5 a6 a7
  have hk := h ad H locs lsA a1 a2 a3 a4 a5 (okS_cons (v := (0, x % y)) (of_rem_in (okS_hd a6) h0) (okS_tl (okS_tl a6))) a7
  have ox : okV w (0, x) := okS_hd (okS_tl a6)
  have oy : okV w (0, y) := okS_hd a6
  change W _ _ _ _ _ _ _ _ _ _ _ _ _ _ _ (F0 m (bp + 1) lsA (.int (Int32.ofInt (x % y)) :: st.map (cV ro ad))) at hk
  rw [← of_rem ox oy h0] at hk
  exact lv_irem hx hb hd (of_ne0 oy h0.2) hk
theorem so_iand (C : Cx D kA ro RM id A p s m args meth c) {bp : Nat} {ls : Lc_} {st : List Vl_} {w : Wd_} {M : Mm_} {cn : Cn_} {x y : Int} (hd : decode (byOf id) bp = .ok (.iand, 1)) (h : Wb l D kA ro RM id A p e s m args below meth c n0 ad0 Z (bp + 1) ls ((0, andI x y) :: st) w M cn) : Wb l D kA ro RM id A p e s m args below meth c n0 ad0 Z bp ls ((0, y) :: (0, x) :: st) w M cn := by
  obtain ⟨hx, hb, hr, hlk, hml, hown, hnm, hts, hen, hK, hA⟩ := C
  intro ad H locs lsA a1 a2 a3 a4 a5 a6 a7
  have hk := h ad H locs lsA a1 a2 a3 a4 a5 (okS_cons (v := (0, andI x y)) (inI_to _) (okS_tl (okS_tl a6))) a7
  have ox : okV w (0, x) := okS_hd (okS_tl a6)
  have oy : okV w (0, y) := okS_hd a6
  change W _ _ _ _ _ _ _ _ _ _ _ _ _ _ _ (F0 m (bp + 1) lsA (.int (Int32.ofInt (andI x y)) :: st.map (cV ro ad))) at hk
  rw [show Int32.ofInt (andI x y) = _ from of32_to _] at hk
  exact lv_iand hx hb hd hk
theorem so_ior (C : Cx D kA ro RM id A p s m args meth c) {bp : Nat} {ls : Lc_} {st : List Vl_} {w : Wd_} {M : Mm_} {cn : Cn_} {x y : Int} (hd : decode (byOf id) bp = .ok (.ior, 1)) (h : Wb l D kA ro RM id A p e s m args below meth c n0 ad0 Z (bp + 1) ls ((0, orI x y) :: st) w M cn) : Wb l D kA ro RM id A p e s m args below meth c n0 ad0 Z bp ls ((0, y) :: (0, x) :: st) w M cn := by
  obtain ⟨hx, hb, hr, hlk, hml, hown, hnm, hts, hen, hK, hA⟩ := C
  intro ad H locs lsA a1 a2 a3 a4 a5 a6 a7
  have hk := h ad H locs lsA a1 a2 a3 a4 a5 (okS_cons (v := (0, orI x y)) (inI_to _) (okS_tl (okS_tl a6))) a7
  have ox : okV w (0, x) := okS_hd (okS_tl a6)
  have oy : okV w (0, y) := okS_hd a6
  change W _ _ _ _ _ _ _ _ _ _ _ _ _ _ _ (F0 m (bp + 1) lsA (.int (Int32.ofInt (orI x y)) :: st.map (cV ro ad))) at hk
  rw [show Int32.ofInt (orI x y) = _ from of32_to _] at hk
  exact lv_ior hx hb hd hk
theorem so_ixor (C : Cx D kA ro RM id A p s m args meth c) {bp : Nat} {ls : Lc_} {st : List Vl_} {w : Wd_} {M : Mm_} {cn : Cn_} {x y : Int} (hd : decode (byOf id) bp = .ok (.ixor, 1)) (h : Wb l D kA ro RM id A p e s m args below meth c n0 ad0 Z (bp + 1) ls ((0, xorI x y) :: st) w M cn) : Wb l D kA ro RM id A p e s m args below meth c n0 ad0 Z bp ls ((0, y) :: (0, x) :: st) w M cn := by
  obtain ⟨hx, hb, hr, hlk, hml, hown, hnm, hts, hen, hK, hA⟩ := C
  intro ad H locs lsA a1 a2 a3 a4 a5 a6 a7
  have hk := h ad H locs lsA a1 a2 a3 a4 a5 (okS_cons (v := (0, xorI x y)) (inI_to _) (okS_tl (okS_tl a6))) a7
  have ox : okV w (0, x) := okS_hd (okS_tl a6)
  have oy : okV w (0, y) := okS_hd a6
  change W _ _ _ _ _ _ _ _ _ _ _ _ _ _ _ (F0 m (bp + 1) lsA (.int (Int32.ofInt (xorI x y)) :: st.map (cV ro ad))) at hk
  rw [show Int32.ofInt (xorI x y) = _ from of32_to _] at hk
  exact lv_ixor hx hb hd hk
theorem so_ishl (C : Cx D kA ro RM id A p s m args meth c) {bp : Nat} {ls : Lc_} {st : List Vl_} {w : Wd_} {M : Mm_} {cn : Cn_} {x y : Int} (hd : decode (byOf id) bp = .ok (.ishl, 1)) (h : Wb l D kA ro RM id A p e s m args below meth c n0 ad0 Z (bp + 1) ls ((0, shlI x y) :: st) w M cn) : Wb l D kA ro RM id A p e s m args below meth c n0 ad0 Z bp ls ((0, y) :: (0, x) :: st) w M cn := by
  obtain ⟨hx, hb, hr, hlk, hml, hown, hnm, hts, hen, hK, hA⟩ := C
  intro ad H locs lsA a1 a2 a3 a4 a5 a6 a7
  have hk := h ad H locs lsA a1 a2 a3 a4 a5 (okS_cons (v := (0, shlI x y)) (inI_to _) (okS_tl (okS_tl a6))) a7
  have ox : okV w (0, x) := okS_hd (okS_tl a6)
  have oy : okV w (0, y) := okS_hd a6
  change W _ _ _ _ _ _ _ _ _ _ _ _ _ _ _ (F0 m (bp + 1) lsA (.int (Int32.ofInt (shlI x y)) :: st.map (cV ro ad))) at hk
  rw [show Int32.ofInt (shlI x y) = _ from of32_to _] at hk
  exact lv_ishl hx hb hd hk
theorem so_ishr (C : Cx D kA ro RM id A p s m args meth c) {bp : Nat} {ls : Lc_} {st : List Vl_} {w : Wd_} {M : Mm_} {cn : Cn_} {x y : Int} (hd : decode (byOf id) bp = .ok (.ishr, 1)) (h : Wb l D kA ro RM id A p e s m args below meth c n0 ad0 Z (bp + 1) ls ((0, shrI x y) :: st) w M cn) : Wb l D kA ro RM id A p e s m args below meth c n0 ad0 Z bp ls ((0, y) :: (0, x) :: st) w M cn := by
  obtain ⟨hx, hb, hr, hlk, hml, hown, hnm, hts, hen, hK, hA⟩ := C
  intro ad H locs lsA a1 a2 a3 a4 a5 a6 a7
  have hk := h ad H locs lsA a1 a2 a3 a4 a5 (okS_cons (v := (0, shrI x y)) (inI_to _) (okS_tl (okS_tl a6))) a7
  have ox : okV w (0, x) := okS_hd (okS_tl a6)
  have oy : okV w (0, y) := okS_hd a6
  change W _ _ _ _ _ _ _ _ _ _ _ _ _ _ _ (F0 m (bp + 1) lsA (.int (Int32.ofInt (shrI x y)) :: st.map (cV ro ad))) at hk
  rw [show Int32.ofInt (shrI x y) = _ from of32_to _] at hk
  exact lv_ishr hx hb hd hk
theorem so_iushr (C : Cx D kA ro RM id A p s m args meth c) {bp : Nat} {ls : Lc_} {st : List Vl_} {w : Wd_} {M : Mm_} {cn : Cn_} {x y : Int} (hd : decode (byOf id) bp = .ok (.iushr, 1)) (h : Wb l D kA ro RM id A p e s m args below meth c n0 ad0 Z (bp + 1) ls ((0, ushrI x y) :: st) w M cn) : Wb l D kA ro RM id A p e s m args below meth c n0 ad0 Z bp ls ((0, y) :: (0, x) :: st) w M cn := by
  obtain ⟨hx, hb, hr, hlk, hml, hown, hnm, hts, hen, hK, hA⟩ := C
  intro ad H locs lsA a1 a2 a3 a4 a5 a6 a7
  have hk := h ad H locs lsA a1 a2 a3 a4 a5 (okS_cons (v := (0, ushrI x y)) (inI_to _) (okS_tl (okS_tl a6))) a7
  have ox : okV w (0, x) := okS_hd (okS_tl a6)
  have oy : okV w (0, y) := okS_hd a6
  exact lv_iushr hx hb hd (of32_to _).symm hk
theorem so_land (C : Cx D kA ro RM id A p s m args meth c) {bp : Nat} {ls : Lc_} {st : List Vl_} {w : Wd_} {M : Mm_} {cn : Cn_} {x y : Int} (hd : decode (byOf id) bp = .ok (.land, 1)) (h : Wb l D kA ro RM id A p e s m args below meth c n0 ad0 Z (bp + 1) ls ((1, andL x y) :: st) w M cn) : Wb l D kA ro RM id A p e s m args below meth c n0 ad0 Z bp ls ((1, y) :: (1, x) :: st) w M cn := by
  obtain ⟨hx, hb, hr, hlk, hml, hown, hnm, hts, hen, hK, hA⟩ := C
  intro ad H locs lsA a1 a2 a3 a4 a5 a6 a7
  have hk := h ad H locs lsA a1 a2 a3 a4 a5 (okS_cons (v := (1, andL x y)) (inL_to _) (okS_tl (okS_tl a6))) a7
  have ox : okV w (1, x) := okS_hd (okS_tl a6)
  have oy : okV w (1, y) := okS_hd a6
  change W _ _ _ _ _ _ _ _ _ _ _ _ _ _ _ (F0 m (bp + 1) lsA (.long (Int64.ofInt (andL x y)) :: st.map (cV ro ad))) at hk
  rw [show Int64.ofInt (andL x y) = _ from of64_to _] at hk
  exact lv_land hx hb hd hk
theorem so_lor (C : Cx D kA ro RM id A p s m args meth c) {bp : Nat} {ls : Lc_} {st : List Vl_} {w : Wd_} {M : Mm_} {cn : Cn_} {x y : Int} (hd : decode (byOf id) bp = .ok (.lor, 1)) (h : Wb l D kA ro RM id A p e s m args below meth c n0 ad0 Z (bp + 1) ls ((1, orL x y) :: st) w M cn) : Wb l D kA ro RM id A p e s m args below meth c n0 ad0 Z bp ls ((1, y) :: (1, x) :: st) w M cn := by
  obtain ⟨hx, hb, hr, hlk, hml, hown, hnm, hts, hen, hK, hA⟩ := C
  intro ad H locs lsA a1 a2 a3 a4 a5 a6 a7
  have hk := h ad H locs lsA a1 a2 a3 a4 a5 (okS_cons (v := (1, orL x y)) (inL_to _) (okS_tl (okS_tl a6))) a7
  have ox : okV w (1, x) := okS_hd (okS_tl a6)
  have oy : okV w (1, y) := okS_hd a6
  change W _ _ _ _ _ _ _ _ _ _ _ _ _ _ _ (F0 m (bp + 1) lsA (.long (Int64.ofInt (orL x y)) :: st.map (cV ro ad))) at hk
  rw [show Int64.ofInt (orL x y) = _ from of64_to _] at hk
  exact lv_lor hx hb hd hk
theorem so_lxor (C : Cx D kA ro RM id A p s m args meth c) {bp : Nat} {ls : Lc_} {st : List Vl_} {w : Wd_} {M : Mm_} {cn : Cn_} {x y : Int} (hd : decode (byOf id) bp = .ok (.lxor, 1)) (h : Wb l D kA ro RM id A p e s m args below meth c n0 ad0 Z (bp + 1) ls ((1, xorL x y) :: st) w M cn) : Wb l D kA ro RM id A p e s m args below meth c n0 ad0 Z bp ls ((1, y) :: (1, x) :: st) w M cn := by
  obtain ⟨hx, hb, hr, hlk, hml, hown, hnm, hts, hen, hK, hA⟩ := C
  intro ad H locs lsA a1 a2 a3 a4 a5 a6 a7
  have hk := h ad H locs lsA a1 a2 a3 a4 a5 (okS_cons (v := (1, xorL x y)) (inL_to _) (okS_tl (okS_tl a6))) a7
  have ox : okV w (1, x) := okS_hd (okS_tl a6)
  have oy : okV w (1, y) := okS_hd a6
  change W _ _ _ _ _ _ _ _ _ _ _ _ _ _ _ (F0 m (bp + 1) lsA (.long (Int64.ofInt (xorL x y)) :: st.map (cV ro ad))) at hk
  rw [show Int64.ofInt (xorL x y) = _ from of64_to _] at hk
  exact lv_lxor hx hb hd hk
theorem so_lshl (C : Cx D kA ro RM id A p s m args meth c) {bp : Nat} {ls : Lc_} {st : List Vl_} {w : Wd_} {M : Mm_} {cn : Cn_} {x y : Int} (hd : decode (byOf id) bp = .ok (.lshl, 1)) (h : Wb l D kA ro RM id A p e s m args below meth c n0 ad0 Z (bp + 1) ls ((1, shlL x y) :: st) w M cn) : Wb l D kA ro RM id A p e s m args below meth c n0 ad0 Z bp ls ((0, y) :: (1, x) :: st) w M cn := by
  obtain ⟨hx, hb, hr, hlk, hml, hown, hnm, hts, hen, hK, hA⟩ := C
  intro ad H locs lsA a1 a2 a3 a4 a5 a6 a7
  have hk := h ad H locs lsA a1 a2 a3 a4 a5 (okS_cons (v := (1, shlL x y)) (inL_to _) (okS_tl (okS_tl a6))) a7
  have ox : okV w (1, x) := okS_hd (okS_tl a6)
  have oy : okV w (0, y) := okS_hd a6
  exact lv_lshl hx hb hd (of64_to _).symm hk
theorem so_lshr (C : Cx D kA ro RM id A p s m args meth c) {bp : Nat} {ls : Lc_} {st : List Vl_} {w : Wd_} {M : Mm_} {cn : Cn_} {x y : Int} (hd : decode (byOf id) bp = .ok (.lshr, 1)) (h : Wb l D kA ro RM id A p e s m args below meth c n0 ad0 Z (bp + 1) ls ((1, shrL x y) :: st) w M cn) : Wb l D kA ro RM id A p e s m args below meth c n0 ad0 Z bp ls ((0, y) :: (1, x) :: st) w M cn := by
  obtain ⟨hx, hb, hr, hlk, hml, hown, hnm, hts, hen, hK, hA⟩ := C
  intro ad H locs lsA a1 a2 a3 a4 a5 a6 a7
  have hk := h ad H locs lsA a1 a2 a3 a4 a5 (okS_cons (v := (1, shrL x y)) (inL_to _) (okS_tl (okS_tl a6))) a7
  have ox : okV w (1, x) := okS_hd (okS_tl a6)
  have oy : okV w (0, y) := okS_hd a6
  exact lv_lshr hx hb hd (of64_to _).symm hk
theorem so_lushr (C : Cx D kA ro RM id A p s m args meth c) {bp : Nat} {ls : Lc_} {st : List Vl_} {w : Wd_} {M : Mm_} {cn : Cn_} {x y : Int} (hd : decode (byOf id) bp = .ok (.lushr, 1)) (h : Wb l D kA ro RM id A p e s m args below meth c n0 ad0 Z (bp + 1) ls ((1, ushrL x y) :: st) w M cn) : Wb l D kA ro RM id A p e s m args below meth c n0 ad0 Z bp ls ((0, y) :: (1, x) :: st) w M cn := by
  obtain ⟨hx, hb, hr, hlk, hml, hown, hnm, hts, hen, hK, hA⟩ := C
  intro ad H locs lsA a1 a2 a3 a4 a5 a6 a7
  have hk := h ad H locs lsA a1 a2 a3 a4 a5 (okS_cons (v := (1, ushrL x y)) (inL_to _) (okS_tl (okS_tl a6))) a7
  have ox : okV w (1, x) := okS_hd (okS_tl a6)
  have oy : okV w (0, y) := okS_hd a6
  exact lv_lushr hx hb hd (of64_to _).symm hk
theorem so_i2l (C : Cx D kA ro RM id A p s m args meth c) {bp : Nat} {ls : Lc_} {st : List Vl_} {w : Wd_} {M : Mm_} {cn : Cn_} {x : Int} (hd : decode (byOf id) bp = .ok (.i2l, 1)) (h : Wb l D kA ro RM id A p e s m args below meth c n0 ad0 Z (bp + 1) ls ((1, x) :: st) w M cn) : Wb l D kA ro RM id A p e s m args below meth c n0 ad0 Z bp ls ((0, x) :: st) w M cn := by
  obtain ⟨hx, hb, hr, hlk, hml, hown, hnm, hts, hen, hK, hA⟩ := C
  intro ad H locs lsA a1 a2 a3 a4 a5 a6 a7
  have ox : okV w (0, x) := okS_hd a6
  exact lv_i2l hx hb hd (of_i2l ox) (h ad H locs lsA a1 a2 a3 a4 a5 (okS_cons (v := (1, x)) (inI_L ox) (okS_tl a6)) a7)
theorem so_l2i (C : Cx D kA ro RM id A p s m args meth c) {bp : Nat} {ls : Lc_} {st : List Vl_} {w : Wd_} {M : Mm_} {cn : Cn_} {x : Int} (hd : decode (byOf id) bp = .ok (.l2i, 1)) (h : Wb l D kA ro RM id A p e s m args below meth c n0 ad0 Z (bp + 1) ls ((0, l2iI x) :: st) w M cn) : Wb l D kA ro RM id A p e s m args below meth c n0 ad0 Z bp ls ((1, x) :: st) w M cn := by
  obtain ⟨hx, hb, hr, hlk, hml, hown, hnm, hts, hen, hK, hA⟩ := C
  intro ad H locs lsA a1 a2 a3 a4 a5 a6 a7
  have ox : okV w (1, x) := okS_hd a6
  exact lv_l2i hx hb hd (of32_to _).symm (h ad H locs lsA a1 a2 a3 a4 a5 (okS_cons (v := (0, l2iI x)) (inI_to _) (okS_tl a6)) a7)
theorem so_i2c (C : Cx D kA ro RM id A p s m args meth c) {bp : Nat} {ls : Lc_} {st : List Vl_} {w : Wd_} {M : Mm_} {cn : Cn_} {x : Int} (hd : decode (byOf id) bp = .ok (.i2c, 1)) (h : Wb l D kA ro RM id A p e s m args below meth c n0 ad0 Z (bp + 1) ls ((0, i2cI x) :: st) w M cn) : Wb l D kA ro RM id A p e s m args below meth c n0 ad0 Z bp ls ((0, x) :: st) w M cn := by
  obtain ⟨hx, hb, hr, hlk, hml, hown, hnm, hts, hen, hK, hA⟩ := C
  intro ad H locs lsA a1 a2 a3 a4 a5 a6 a7
  have ox : okV w (0, x) := okS_hd a6
  exact lv_i2c hx hb hd of_i2c (h ad H locs lsA a1 a2 a3 a4 a5 (okS_cons (v := (0, i2cI x)) (i2c_in x) (okS_tl a6)) a7)
theorem so_lcmp (C : Cx D kA ro RM id A p s m args meth c) {bp : Nat} {ls : Lc_} {st : List Vl_} {w : Wd_} {M : Mm_} {cn : Cn_} {x y : Int} (hd : decode (byOf id) bp = .ok (.lcmp, 1)) (h : Wb l D kA ro RM id A p e s m args below meth c n0 ad0 Z (bp + 1) ls ((0, cmpL x y) :: st) w M cn) : Wb l D kA ro RM id A p e s m args below meth c n0 ad0 Z bp ls ((1, y) :: (1, x) :: st) w M cn := by
  obtain ⟨hx, hb, hr, hlk, hml, hown, hnm, hts, hen, hK, hA⟩ := C
  intro ad H locs lsA a1 a2 a3 a4 a5 a6 a7
  have hk := h ad H locs lsA a1 a2 a3 a4 a5 (okS_cons (v := (0, cmpL x y)) (cmp_in x y) (okS_tl (okS_tl a6))) a7
  have ox : okV w (1, x) := okS_hd (okS_tl a6)
  have oy : okV w (1, y) := okS_hd a6
  change W _ _ _ _ _ _ _ _ _ _ _ _ _ _ _ (F0 m (bp + 1) lsA (.int (Int32.ofInt (cmpL x y)) :: st.map (cV ro ad))) at hk
  rw [← of_cmp ox oy] at hk
  exact W.lcmp hx hb hd hk
theorem so_iinc (C : Cx D kA ro RM id A p s m args meth c) {bp : Nat} {ls : Lc_} {st : List Vl_} {w : Wd_} {M : Mm_} {cn : Cn_} {i : Nat} {x z : Int} (hl : ls[i]? = some (some (0, x))) (hn : i < mxL id) (hi : inI (x + z)) (hd : decode (byOf id) bp = .ok (.iinc i z, 3)) (h : Wb l D kA ro RM id A p e s m args below meth c n0 ad0 Z (bp + 3) (setL ls i (0, x + z)) st w M cn) : Wb l D kA ro RM id A p e s m args below meth c n0 ad0 Z bp ls st w M cn := by
  obtain ⟨hx, hb, hr, hlk, hml, hown, hnm, hts, hen, hK, hA⟩ := C
  intro ad H locs lsA a1 a2 a3 a4 a5 a6 a7
  have hmem : (i, cV ro ad (0, x)) ∈ cL ro ad ls := mem_cL.mpr ⟨(0, x), hl, rfl⟩
  obtain ⟨k0, hk0⟩ := List.getElem?_of_mem hmem
  refine lv_iinc (v := Int32.ofInt (x + z)) hx hb hd a4.has hk0 (Int32.ofInt_add x z).symm hn rfl (fun ls2 hl2 => h ad H locs ls2 a1 a2 a3 (LH.of hl2 (by rw [lth_set]; exact a4.2.1) (fun j v hv => ?_)) (okL_set a5 hi) a6 a7)
  rcases set_at hv with ⟨e1, e2⟩ | ⟨e1, e2, e3⟩
  · rw [e1, e2]; exact List.mem_cons_self
  · refine List.mem_cons_of_mem _ (List.mem_filter.mpr ⟨mem_cL.mpr ⟨v, e2, rfl⟩, ?_⟩)
    have e5 : ¬ (j + 1 = i ∧ (cV ro ad v).category = 2) := fun q => e3 ⟨q.1, by have := q.2; rw [cV_cat] at this; unfold catV at this; split at this <;> omega⟩
    simp only [Bool.and_eq_true, Bool.not_eq_true', beq_eq_false_iff_ne, ne_eq, Bool.and_eq_false_imp, beq_iff_eq]
    exact ⟨e1, fun q1 q2 => e5 ⟨q1, q2⟩⟩
theorem so_icmp_eq (C : Cx D kA ro RM id A p s m args meth c) {bp : Nat} {ls : Lc_} {st : List Vl_} {w : Wd_} {M : Mm_} {cn : Cn_} {x y f : Int} {t : Nat} (ht : (bp : Int) + f = (t : Int)) (hd : decode (byOf id) bp = .ok (.if_icmp .eq f, 3)) (h1 : cnd .eq x y → Wb l D kA ro RM id A p e s m args below meth c n0 ad0 Z t ls st w M cn) (h2 : ¬ cnd .eq x y → Wb l D kA ro RM id A p e s m args below meth c n0 ad0 Z (bp + 3) ls st w M cn) : Wb l D kA ro RM id A p e s m args below meth c n0 ad0 Z bp ls ((0, y) :: (0, x) :: st) w M cn := by
  obtain ⟨hx, hb, hr, hlk, hml, hown, hnm, hts, hen, hK, hA⟩ := C
  intro ad H locs lsA a1 a2 a3 a4 a5 a6 a7
  have ox : inI x := okS_hd (okS_tl a6)
  have oy : inI y := okS_hd a6
  have ht2 := fun q => h1 q ad H locs lsA a1 a2 a3 a4 a5 (okS_tl (okS_tl a6)) a7
  have hf2 := fun q => h2 q ad H locs lsA a1 a2 a3 a4 a5 (okS_tl (okS_tl a6)) a7
  exact lv_icmp_eq hx hb hd ht (fun q => ht2 ((i32_eq ox oy).mp q)) (fun q => hf2 (fun q2 => q ((i32_eq ox oy).mpr q2)))
theorem so_if_eq (C : Cx D kA ro RM id A p s m args meth c) {bp : Nat} {ls : Lc_} {st : List Vl_} {w : Wd_} {M : Mm_} {cn : Cn_} {x f : Int} {t : Nat} (ht : (bp : Int) + f = (t : Int)) (hd : decode (byOf id) bp = .ok (.ifCond .eq f, 3)) (h1 : cnd .eq x 0 → Wb l D kA ro RM id A p e s m args below meth c n0 ad0 Z t ls st w M cn) (h2 : ¬ cnd .eq x 0 → Wb l D kA ro RM id A p e s m args below meth c n0 ad0 Z (bp + 3) ls st w M cn) : Wb l D kA ro RM id A p e s m args below meth c n0 ad0 Z bp ls ((0, x) :: st) w M cn := by
  obtain ⟨hx, hb, hr, hlk, hml, hown, hnm, hts, hen, hK, hA⟩ := C
  intro ad H locs lsA a1 a2 a3 a4 a5 a6 a7
  have ox : inI x := okS_hd a6
  have ht2 := fun q => h1 q ad H locs lsA a1 a2 a3 a4 a5 (okS_tl a6) a7
  have hf2 := fun q => h2 q ad H locs lsA a1 a2 a3 a4 a5 (okS_tl a6) a7
  exact lv_if_eq hx hb hd ht (fun q => ht2 ((i32_eq ox in0).mp q)) (fun q => hf2 (fun q2 => q ((i32_eq ox in0).mpr q2)))
theorem so_icmp_ne (C : Cx D kA ro RM id A p s m args meth c) {bp : Nat} {ls : Lc_} {st : List Vl_} {w : Wd_} {M : Mm_} {cn : Cn_} {x y f : Int} {t : Nat} (ht : (bp : Int) + f = (t : Int)) (hd : decode (byOf id) bp = .ok (.if_icmp .ne f, 3)) (h1 : cnd .ne x y → Wb l D kA ro RM id A p e s m args below meth c n0 ad0 Z t ls st w M cn) (h2 : ¬ cnd .ne x y → Wb l D kA ro RM id A p e s m args below meth c n0 ad0 Z (bp + 3) ls st w M cn) : Wb l D kA ro RM id A p e s m args below meth c n0 ad0 Z bp ls ((0, y) :: (0, x) :: st) w M cn := by
  obtain ⟨hx, hb, hr, hlk, hml, hown, hnm, hts, hen, hK, hA⟩ := C
  intro ad H locs lsA a1 a2 a3 a4 a5 a6 a7
  have ox : inI x := okS_hd (okS_tl a6)
  have oy : inI y := okS_hd a6
  have ht2 := fun q => h1 q ad H locs lsA a1 a2 a3 a4 a5 (okS_tl (okS_tl a6)) a7
  have hf2 := fun q => h2 q ad H locs lsA a1 a2 a3 a4 a5 (okS_tl (okS_tl a6)) a7
  exact lv_icmp_ne hx hb hd ht (fun q => ht2 (fun q2 => q ((i32_eq ox oy).mpr q2))) (fun q => hf2 (fun q2 => q2 ((i32_eq ox oy).mp q)))
theorem so_if_ne (C : Cx D kA ro RM id A p s m args meth c) {bp : Nat} {ls : Lc_} {st : List Vl_} {w : Wd_} {M : Mm_} {cn : Cn_} {x f : Int} {t : Nat} (ht : (bp : Int) + f = (t : Int)) (hd : decode (byOf id) bp = .ok (.ifCond .ne f, 3)) (h1 : cnd .ne x 0 → Wb l D kA ro RM id A p e s m args below meth c n0 ad0 Z t ls st w M cn) (h2 : ¬ cnd .ne x 0 → Wb l D kA ro RM id A p e s m args below meth c n0 ad0 Z (bp + 3) ls st w M cn) : Wb l D kA ro RM id A p e s m args below meth c n0 ad0 Z bp ls ((0, x) :: st) w M cn := by
  obtain ⟨hx, hb, hr, hlk, hml, hown, hnm, hts, hen, hK, hA⟩ := C
  intro ad H locs lsA a1 a2 a3 a4 a5 a6 a7
  have ox : inI x := okS_hd a6
  have ht2 := fun q => h1 q ad H locs lsA a1 a2 a3 a4 a5 (okS_tl a6) a7
  have hf2 := fun q => h2 q ad H locs lsA a1 a2 a3 a4 a5 (okS_tl a6) a7
  exact lv_if_ne hx hb hd ht (fun q => ht2 (fun q2 => q ((i32_eq ox in0).mpr q2))) (fun q => hf2 (fun q2 => q2 ((i32_eq ox in0).mp q)))
theorem so_icmp_lt (C : Cx D kA ro RM id A p s m args meth c) {bp : Nat} {ls : Lc_} {st : List Vl_} {w : Wd_} {M : Mm_} {cn : Cn_} {x y f : Int} {t : Nat} (ht : (bp : Int) + f = (t : Int)) (hd : decode (byOf id) bp = .ok (.if_icmp .lt f, 3)) (h1 : cnd .lt x y → Wb l D kA ro RM id A p e s m args below meth c n0 ad0 Z t ls st w M cn) (h2 : ¬ cnd .lt x y → Wb l D kA ro RM id A p e s m args below meth c n0 ad0 Z (bp + 3) ls st w M cn) : Wb l D kA ro RM id A p e s m args below meth c n0 ad0 Z bp ls ((0, y) :: (0, x) :: st) w M cn := by
  obtain ⟨hx, hb, hr, hlk, hml, hown, hnm, hts, hen, hK, hA⟩ := C
  intro ad H locs lsA a1 a2 a3 a4 a5 a6 a7
  have ox : inI x := okS_hd (okS_tl a6)
  have oy : inI y := okS_hd a6
  have ht2 := fun q => h1 q ad H locs lsA a1 a2 a3 a4 a5 (okS_tl (okS_tl a6)) a7
  have hf2 := fun q => h2 q ad H locs lsA a1 a2 a3 a4 a5 (okS_tl (okS_tl a6)) a7
  exact lv_icmp_lt hx hb hd ht (fun q => ht2 ((i32_lt ox oy).mp q)) (fun q => hf2 (fun q2 => q ((i32_lt ox oy).mpr q2)))
theorem so_if_lt (C : Cx D kA ro RM id A p s m args meth c) {bp : Nat} {ls : Lc_} {st : List Vl_} {w : Wd_} {M : Mm_} {cn : Cn_} {x f : Int} {t : Nat} (ht : (bp : Int) + f = (t : Int)) (hd : decode (byOf id) bp = .ok (.ifCond .lt f, 3)) (h1 : cnd .lt x 0 → Wb l D kA ro RM id A p e s m args below meth c n0 ad0 Z t ls st w M cn) (h2 : ¬ cnd .lt x 0 → Wb l D kA ro RM id A p e s m args below meth c n0 ad0 Z (bp + 3) ls st w M cn) : Wb l D kA ro RM id A p e s m args below meth c n0 ad0 Z bp ls ((0, x) :: st) w M cn := by
  obtain ⟨hx, hb, hr, hlk, hml, hown, hnm, hts, hen, hK, hA⟩ := C
  intro ad H locs lsA a1 a2 a3 a4 a5 a6 a7
  have ox : inI x := okS_hd a6
  have ht2 := fun q => h1 q ad H locs lsA a1 a2 a3 a4 a5 (okS_tl a6) a7
  have hf2 := fun q => h2 q ad H locs lsA a1 a2 a3 a4 a5 (okS_tl a6) a7
  exact lv_if_lt hx hb hd ht (fun q => ht2 ((i32_lt ox in0).mp q)) (fun q => hf2 (fun q2 => q ((i32_lt ox in0).mpr q2)))
theorem so_icmp_ge (C : Cx D kA ro RM id A p s m args meth c) {bp : Nat} {ls : Lc_} {st : List Vl_} {w : Wd_} {M : Mm_} {cn : Cn_} {x y f : Int} {t : Nat} (ht : (bp : Int) + f = (t : Int)) (hd : decode (byOf id) bp = .ok (.if_icmp .ge f, 3)) (h1 : cnd .ge x y → Wb l D kA ro RM id A p e s m args below meth c n0 ad0 Z t ls st w M cn) (h2 : ¬ cnd .ge x y → Wb l D kA ro RM id A p e s m args below meth c n0 ad0 Z (bp + 3) ls st w M cn) : Wb l D kA ro RM id A p e s m args below meth c n0 ad0 Z bp ls ((0, y) :: (0, x) :: st) w M cn := by
  obtain ⟨hx, hb, hr, hlk, hml, hown, hnm, hts, hen, hK, hA⟩ := C
  intro ad H locs lsA a1 a2 a3 a4 a5 a6 a7
  have ox : inI x := okS_hd (okS_tl a6)
  have oy : inI y := okS_hd a6
  have ht2 := fun q => h1 q ad H locs lsA a1 a2 a3 a4 a5 (okS_tl (okS_tl a6)) a7
  have hf2 := fun q => h2 q ad H locs lsA a1 a2 a3 a4 a5 (okS_tl (okS_tl a6)) a7
  exact lv_icmp_ge hx hb hd ht (fun q => ht2 ((i32_le oy ox).mp q)) (fun q => hf2 (fun q2 => q ((i32_le oy ox).mpr q2)))
theorem so_if_ge (C : Cx D kA ro RM id A p s m args meth c) {bp : Nat} {ls : Lc_} {st : List Vl_} {w : Wd_} {M : Mm_} {cn : Cn_} {x f : Int} {t : Nat} (ht : (bp : Int) + f = (t : Int)) (hd : decode (byOf id) bp = .ok (.ifCond .ge f, 3)) (h1 : cnd .ge x 0 → Wb l D kA ro RM id A p e s m args below meth c n0 ad0 Z t ls st w M cn) (h2 : ¬ cnd .ge x 0 → Wb l D kA ro RM id A p e s m args below meth c n0 ad0 Z (bp + 3) ls st w M cn) : Wb l D kA ro RM id A p e s m args below meth c n0 ad0 Z bp ls ((0, x) :: st) w M cn := by
  obtain ⟨hx, hb, hr, hlk, hml, hown, hnm, hts, hen, hK, hA⟩ := C
  intro ad H locs lsA a1 a2 a3 a4 a5 a6 a7
  have ox : inI x := okS_hd a6
  have ht2 := fun q => h1 q ad H locs lsA a1 a2 a3 a4 a5 (okS_tl a6) a7
  have hf2 := fun q => h2 q ad H locs lsA a1 a2 a3 a4 a5 (okS_tl a6) a7
  exact lv_if_ge hx hb hd ht (fun q => ht2 ((i32_le in0 ox).mp q)) (fun q => hf2 (fun q2 => q ((i32_le in0 ox).mpr q2)))
theorem so_icmp_gt (C : Cx D kA ro RM id A p s m args meth c) {bp : Nat} {ls : Lc_} {st : List Vl_} {w : Wd_} {M : Mm_} {cn : Cn_} {x y f : Int} {t : Nat} (ht : (bp : Int) + f = (t : Int)) (hd : decode (byOf id) bp = .ok (.if_icmp .gt f, 3)) (h1 : cnd .gt x y → Wb l D kA ro RM id A p e s m args below meth c n0 ad0 Z t ls st w M cn) (h2 : ¬ cnd .gt x y → Wb l D kA ro RM id A p e s m args below meth c n0 ad0 Z (bp + 3) ls st w M cn) : Wb l D kA ro RM id A p e s m args below meth c n0 ad0 Z bp ls ((0, y) :: (0, x) :: st) w M cn := by
  obtain ⟨hx, hb, hr, hlk, hml, hown, hnm, hts, hen, hK, hA⟩ := C
  intro ad H locs lsA a1 a2 a3 a4 a5 a6 a7
  have ox : inI x := okS_hd (okS_tl a6)
  have oy : inI y := okS_hd a6
  have ht2 := fun q => h1 q ad H locs lsA a1 a2 a3 a4 a5 (okS_tl (okS_tl a6)) a7
  have hf2 := fun q => h2 q ad H locs lsA a1 a2 a3 a4 a5 (okS_tl (okS_tl a6)) a7
  exact lv_icmp_gt hx hb hd ht (fun q => ht2 ((i32_lt oy ox).mp q)) (fun q => hf2 (fun q2 => q ((i32_lt oy ox).mpr q2)))
theorem so_if_gt (C : Cx D kA ro RM id A p s m args meth c) {bp : Nat} {ls : Lc_} {st : List Vl_} {w : Wd_} {M : Mm_} {cn : Cn_} {x f : Int} {t : Nat} (ht : (bp : Int) + f = (t : Int)) (hd : decode (byOf id) bp = .ok (.ifCond .gt f, 3)) (h1 : cnd .gt x 0 → Wb l D kA ro RM id A p e s m args below meth c n0 ad0 Z t ls st w M cn) (h2 : ¬ cnd .gt x 0 → Wb l D kA ro RM id A p e s m args below meth c n0 ad0 Z (bp + 3) ls st w M cn) : Wb l D kA ro RM id A p e s m args below meth c n0 ad0 Z bp ls ((0, x) :: st) w M cn := by
  obtain ⟨hx, hb, hr, hlk, hml, hown, hnm, hts, hen, hK, hA⟩ := C
  intro ad H locs lsA a1 a2 a3 a4 a5 a6 a7
  have ox : inI x := okS_hd a6
  have ht2 := fun q => h1 q ad H locs lsA a1 a2 a3 a4 a5 (okS_tl a6) a7
  have hf2 := fun q => h2 q ad H locs lsA a1 a2 a3 a4 a5 (okS_tl a6) a7
  exact lv_if_gt hx hb hd ht (fun q => ht2 ((i32_lt in0 ox).mp q)) (fun q => hf2 (fun q2 => q ((i32_lt in0 ox).mpr q2)))
theorem so_icmp_le (C : Cx D kA ro RM id A p s m args meth c) {bp : Nat} {ls : Lc_} {st : List Vl_} {w : Wd_} {M : Mm_} {cn : Cn_} {x y f : Int} {t : Nat} (ht : (bp : Int) + f = (t : Int)) (hd : decode (byOf id) bp = .ok (.if_icmp .le f, 3)) (h1 : cnd .le x y → Wb l D kA ro RM id A p e s m args below meth c n0 ad0 Z t ls st w M cn) (h2 : ¬ cnd .le x y → Wb l D kA ro RM id A p e s m args below meth c n0 ad0 Z (bp + 3) ls st w M cn) : Wb l D kA ro RM id A p e s m args below meth c n0 ad0 Z bp ls ((0, y) :: (0, x) :: st) w M cn := by
  obtain ⟨hx, hb, hr, hlk, hml, hown, hnm, hts, hen, hK, hA⟩ := C
  intro ad H locs lsA a1 a2 a3 a4 a5 a6 a7
  have ox : inI x := okS_hd (okS_tl a6)
  have oy : inI y := okS_hd a6
  have ht2 := fun q => h1 q ad H locs lsA a1 a2 a3 a4 a5 (okS_tl (okS_tl a6)) a7
  have hf2 := fun q => h2 q ad H locs lsA a1 a2 a3 a4 a5 (okS_tl (okS_tl a6)) a7
  exact lv_icmp_le hx hb hd ht (fun q => ht2 ((i32_le ox oy).mp q)) (fun q => hf2 (fun q2 => q ((i32_le ox oy).mpr q2)))
theorem so_if_le (C : Cx D kA ro RM id A p s m args meth c) {bp : Nat} {ls : Lc_} {st : List Vl_} {w : Wd_} {M : Mm_} {cn : Cn_} {x f : Int} {t : Nat} (ht : (bp : Int) + f = (t : Int)) (hd : decode (byOf id) bp = .ok (.ifCond .le f, 3)) (h1 : cnd .le x 0 → Wb l D kA ro RM id A p e s m args below meth c n0 ad0 Z t ls st w M cn) (h2 : ¬ cnd .le x 0 → Wb l D kA ro RM id A p e s m args below meth c n0 ad0 Z (bp + 3) ls st w M cn) : Wb l D kA ro RM id A p e s m args below meth c n0 ad0 Z bp ls ((0, x) :: st) w M cn := by
  obtain ⟨hx, hb, hr, hlk, hml, hown, hnm, hts, hen, hK, hA⟩ := C
  intro ad H locs lsA a1 a2 a3 a4 a5 a6 a7
  have ox : inI x := okS_hd a6
  have ht2 := fun q => h1 q ad H locs lsA a1 a2 a3 a4 a5 (okS_tl a6) a7
  have hf2 := fun q => h2 q ad H locs lsA a1 a2 a3 a4 a5 (okS_tl a6) a7
  exact lv_if_le hx hb hd ht (fun q => ht2 ((i32_le ox in0).mp q)) (fun q => hf2 (fun q2 => q ((i32_le ox in0).mpr q2)))
theorem so_goto (C : Cx D kA ro RM id A p s m args meth c) {bp : Nat} {ls : Lc_} {st : List Vl_} {w : Wd_} {M : Mm_} {cn : Cn_} {f : Int} {t : Nat} (ht : (bp : Int) + f = (t : Int)) (hd : decode (byOf id) bp = .ok (.goto f, 3)) (h : Wb l D kA ro RM id A p e s m args below meth c n0 ad0 Z t ls st w M cn) : Wb l D kA ro RM id A p e s m args below meth c n0 ad0 Z bp ls st w M cn := by
  obtain ⟨hx, hb, hr, hlk, hml, hown, hnm, hts, hen, hK, hA⟩ := C
  intro ad H locs lsA a1 a2 a3 a4 a5 a6 a7
  exact lv_goto hx hb hd ht (h ad H locs lsA a1 a2 a3 a4 a5 a6 a7)
theorem so_tswOut (C : Cx D kA ro RM id A p s m args meth c) {bp : Nat} {ls : Lc_} {st : List Vl_} {w : Wd_} {M : Mm_} {cn : Cn_} {x d lo hi : Int} {fs : Array Int} {len t : Nat} (ht : (bp : Int) + d = (t : Int)) (ho : x < lo ∨ hi < x) (hd : decode (byOf id) bp = .ok (.tableswitch d lo hi fs, len)) (h : Wb l D kA ro RM id A p e s m args below meth c n0 ad0 Z t ls st w M cn) : Wb l D kA ro RM id A p e s m args below meth c n0 ad0 Z bp ls ((0, x) :: st) w M cn := by
  obtain ⟨hx, hb, hr, hlk, hml, hown, hnm, hts, hen, hK, hA⟩ := C
  intro ad H locs lsA a1 a2 a3 a4 a5 a6 a7
  have ox : inI x := okS_hd a6
  exact lv_tableOut hx hb hd (by rw [inI_of32 ox]; exact ho) ht (h ad H locs lsA a1 a2 a3 a4 a5 (okS_tl a6) a7)
theorem so_tswIn (C : Cx D kA ro RM id A p s m args meth c) {bp : Nat} {ls : Lc_} {st : List Vl_} {w : Wd_} {M : Mm_} {cn : Cn_} {x d lo hi f : Int} {fs : Array Int} {len t : Nat} (ht : (bp : Int) + f = (t : Int)) (ho : ¬ (x < lo ∨ hi < x)) (hf : fs[(x - lo).toNat]? = some f) (hd : decode (byOf id) bp = .ok (.tableswitch d lo hi fs, len)) (h : Wb l D kA ro RM id A p e s m args below meth c n0 ad0 Z t ls st w M cn) : Wb l D kA ro RM id A p e s m args below meth c n0 ad0 Z bp ls ((0, x) :: st) w M cn := by
  obtain ⟨hx, hb, hr, hlk, hml, hown, hnm, hts, hen, hK, hA⟩ := C
  intro ad H locs lsA a1 a2 a3 a4 a5 a6 a7
  have ox : inI x := okS_hd a6
  exact lv_tableIn hx hb hd (by rw [inI_of32 ox]; exact fun q => ho (Or.inl q)) (by rw [inI_of32 ox]; exact fun q => ho (Or.inr q)) (by rw [inI_of32 ox]; exact hf) ht (h ad H locs lsA a1 a2 a3 a4 a5 (okS_tl a6) a7)
theorem so_dup (C : Cx D kA ro RM id A p s m args meth c) {bp : Nat} {ls : Lc_} {st : List Vl_} {w : Wd_} {M : Mm_} {cn : Cn_} {v : Vl_} (hv : ¬ v.1 = 1) (hd : decode (byOf id) bp = .ok (.dup, 1)) (h : Wb l D kA ro RM id A p e s m args below meth c n0 ad0 Z (bp + 1) ls (v :: v :: st) w M cn) : Wb l D kA ro RM id A p e s m args below meth c n0 ad0 Z bp ls (v :: st) w M cn := by
  obtain ⟨hx, hb, hr, hlk, hml, hown, hnm, hts, hen, hK, hA⟩ := C
  intro ad H locs lsA a1 a2 a3 a4 a5 a6 a7
  exact lv_dup hx hb hd (by rw [cV_cat]; unfold catV; rw [if_neg hv]) (h ad H locs lsA a1 a2 a3 a4 a5 (okS_cons (okS_hd a6) a6) a7)
theorem so_pop (C : Cx D kA ro RM id A p s m args meth c) {bp : Nat} {ls : Lc_} {st : List Vl_} {w : Wd_} {M : Mm_} {cn : Cn_} {v : Vl_} (hv : ¬ v.1 = 1) (hd : decode (byOf id) bp = .ok (.pop, 1)) (h : Wb l D kA ro RM id A p e s m args below meth c n0 ad0 Z (bp + 1) ls st w M cn) : Wb l D kA ro RM id A p e s m args below meth c n0 ad0 Z bp ls (v :: st) w M cn := by
  obtain ⟨hx, hb, hr, hlk, hml, hown, hnm, hts, hen, hK, hA⟩ := C
  intro ad H locs lsA a1 a2 a3 a4 a5 a6 a7
  exact lv_pop hx hb hd (by rw [cV_cat]; unfold catV; rw [if_neg hv]) (h ad H locs lsA a1 a2 a3 a4 a5 (okS_tl a6) a7)
theorem so_dup2a (C : Cx D kA ro RM id A p s m args meth c) {bp : Nat} {ls : Lc_} {st : List Vl_} {w : Wd_} {M : Mm_} {cn : Cn_} {v : Vl_} (hv : v.1 = 1) (hd : decode (byOf id) bp = .ok (.dup2, 1)) (h : Wb l D kA ro RM id A p e s m args below meth c n0 ad0 Z (bp + 1) ls (v :: v :: st) w M cn) : Wb l D kA ro RM id A p e s m args below meth c n0 ad0 Z bp ls (v :: st) w M cn := by
  obtain ⟨hx, hb, hr, hlk, hml, hown, hnm, hts, hen, hK, hA⟩ := C
  intro ad H locs lsA a1 a2 a3 a4 a5 a6 a7
  exact lv_dup2_2 hx hb hd (by rw [cV_cat]; unfold catV; rw [if_pos hv]) (h ad H locs lsA a1 a2 a3 a4 a5 (okS_cons (okS_hd a6) a6) a7)
theorem so_dup2b (C : Cx D kA ro RM id A p s m args meth c) {bp : Nat} {ls : Lc_} {st : List Vl_} {w : Wd_} {M : Mm_} {cn : Cn_} {v u : Vl_} (hv : ¬ v.1 = 1) (hu : ¬ u.1 = 1) (hd : decode (byOf id) bp = .ok (.dup2, 1)) (h : Wb l D kA ro RM id A p e s m args below meth c n0 ad0 Z (bp + 1) ls (v :: u :: v :: u :: st) w M cn) : Wb l D kA ro RM id A p e s m args below meth c n0 ad0 Z bp ls (v :: u :: st) w M cn := by
  obtain ⟨hx, hb, hr, hlk, hml, hown, hnm, hts, hen, hK, hA⟩ := C
  intro ad H locs lsA a1 a2 a3 a4 a5 a6 a7
  exact lv_dup2_11 hx hb hd (by rw [cV_cat]; unfold catV; rw [if_neg hv]) (by rw [cV_cat]; unfold catV; rw [if_neg hu]) (h ad H locs lsA a1 a2 a3 a4 a5 (okS_cons (okS_hd a6) (okS_cons (okS_hd (okS_tl a6)) a6)) a7)
theorem so_mmax (C : Cx D kA ro RM id A p s m args meth c) {bp : Nat} {ls : Lc_} {st : List Vl_} {w : Wd_} {M : Mm_} {cn : Cn_} {x y : Int} {i : Nat} (hL : (ownOf id, i) ∈ maxL) (h8 : catS st ≤ 8) (hf1 : 1 ≤ (rmT_ id).1) (hf2 : 32 ≤ (rmT_ id).2.1) (hd : decode (byOf id) bp = .ok (.invokestatic i, 3)) (h : Wb l D kA ro RM id A p e s m args below meth c n0 ad0 Z (bp + 3) ls ((0, maxI x y) :: st) w M cn) : Wb l D kA ro RM id A p e s m args below meth c n0 ad0 Z bp ls ((0, y) :: (0, x) :: st) w M cn := by
  obtain ⟨hx, hb, hr, hlk, hml, hown, hnm, hts, hen, hK, hA⟩ := C
  intro ad H locs lsA a1 a2 a3 a4 a5 a6 a7
  have ox : inI x := okS_hd (okS_tl a6)
  have oy : inI y := okS_hd a6
  have om : inI (maxI x y) := by unfold maxI; split <;> assumption
  have hk := h ad H locs lsA a1 a2 a3 a4 a5 (okS_cons (v := (0, maxI x y)) om (okS_tl (okS_tl a6))) a7
  change W _ _ _ _ _ _ _ _ _ _ _ _ _ _ _ (F0 m (bp + 3) lsA (.int (Int32.ofInt (maxI x y)) :: st.map (cV ro ad))) at hk
  have ev : Int32.ofInt (maxI x y) = if Int32.ofInt x < Int32.ofInt y then Int32.ofInt y else Int32.ofInt x := by
    unfold maxI
    by_cases q : x < y
    · rw [if_pos q, if_pos ((i32_lt ox oy).mpr q)]
    · rw [if_neg q, if_neg (fun q2 => q ((i32_lt ox oy).mp q2))]
  rw [ev] at hk
  have hcs : ((st.map (cV ro ad)).map fun v => v.category).sum ≤ 8 := by rw [List.map_map]; exact Nat.le_trans (Nat.le_of_eq (congrArg List.sum (List.map_congr_left fun v _ => cV_cat ro ad v))) h8
  exact va_mmax hx hb (by rw [hml]; exact a4.1.symm) hown (hts _ (maxL_ok _ hL)) (hts _ max_s) (hts _ math_i) (hts _ max_c) hf1 (by show _ ≤ (rmT_ id).2.1; omega) a7.1 a7.2 hd hk
theorem so_mmin (C : Cx D kA ro RM id A p s m args meth c) {bp : Nat} {ls : Lc_} {st : List Vl_} {w : Wd_} {M : Mm_} {cn : Cn_} {x y : Int} {i : Nat} (hL : (ownOf id, i) ∈ minL) (h8 : catS st ≤ 8) (hf1 : 1 ≤ (rmT_ id).1) (hf2 : 32 ≤ (rmT_ id).2.1) (hd : decode (byOf id) bp = .ok (.invokestatic i, 3)) (h : Wb l D kA ro RM id A p e s m args below meth c n0 ad0 Z (bp + 3) ls ((0, minI x y) :: st) w M cn) : Wb l D kA ro RM id A p e s m args below meth c n0 ad0 Z bp ls ((0, y) :: (0, x) :: st) w M cn := by
  obtain ⟨hx, hb, hr, hlk, hml, hown, hnm, hts, hen, hK, hA⟩ := C
  intro ad H locs lsA a1 a2 a3 a4 a5 a6 a7
  have ox : inI x := okS_hd (okS_tl a6)
  have oy : inI y := okS_hd a6
  have om : inI (minI x y) := by unfold minI; split <;> assumption
  have hk := h ad H locs lsA a1 a2 a3 a4 a5 (okS_cons (v := (0, minI x y)) om (okS_tl (okS_tl a6))) a7
  change W _ _ _ _ _ _ _ _ _ _ _ _ _ _ _ (F0 m (bp + 3) lsA (.int (Int32.ofInt (minI x y)) :: st.map (cV ro ad))) at hk
  have ev : Int32.ofInt (minI x y) = if Int32.ofInt y < Int32.ofInt x then Int32.ofInt y else Int32.ofInt x := by
    unfold minI
    by_cases q : y < x
    · rw [if_pos q, if_pos ((i32_lt oy ox).mpr q)]
    · rw [if_neg q, if_neg (fun q2 => q ((i32_lt oy ox).mp q2))]
  rw [ev] at hk
  have hcs : ((st.map (cV ro ad)).map fun v => v.category).sum ≤ 8 := by rw [List.map_map]; exact Nat.le_trans (Nat.le_of_eq (congrArg List.sum (List.map_congr_left fun v _ => cV_cat ro ad v))) h8
  exact va_mmin hx hb (by rw [hml]; exact a4.1.symm) hown (hts _ (minL_ok _ hL)) (hts _ min_s) (hts _ math_i) (hts _ min_c) hf1 (by show _ ≤ (rmT_ id).2.1; omega) a7.1 a7.2 hd hk
end SN3
end
section
section SN4
variable {l : Launch} {D : va_G} {kA : Nat → ClassId} {ro : Int → Option Nat} {RM : Mm_} {id : Nat} {A : Nat → Prop} {p : Program} {e : Env} {s : State} {m : MethodId} {args : Array Value} {below : List Frame} {meth : Method} {c : Code} {n0 : Nat} {ad0 : Nat → Nat} {Z : State → Prop}
theorem cW_at {ad : Nat → Nat} {w : Wd_} {M : Mm_} {i : Nat} {x : Cl_} (h : w[i]? = some x) : (cW kA ro ad w M)[i]? = some (ad i, cC kA ro ad M i x) := by
  unfold cW
  rw [List.getElem?_mapIdx, h]
  rfl
theorem cC_cong {ad : Nat → Nat} {M M' : Mm_} {a : Int} {x : Cl_} (h : ∀ j, M a j = M' a j) : cC kA ro ad M a x = cC kA ro ad M' a x := by
  unfold cC cF
  simp only [h]
theorem obK_el {w : Wd_} {q : Int} {a : Nat} (h : obK w q = some a) (h13 : a ≠ 13) : 0 ≤ q ∧ ∃ rs, w[q.toNat]? = some (0, a, rs) := by
  unfold obK at h
  split at h
  · split at h
    · simp only [Option.some.injEq] at h
      exact absurd h.symm h13
    · cases h
  · rename_i h0
    refine ⟨by omega, ?_⟩
    split at h
    · rename_i c rs hw
      simp only [Option.some.injEq] at h
      rw [hw, h]
      exact ⟨rs, rfl⟩
    · cases h
theorem obK_13 {w : Wd_} {q : Int} (hw : ∀ (i : Nat) (c : Cl_), w[i]? = some c → c.1 = 0 → c.2.1 < cls_.length) (h : obK w q = some 13) : -19 ≤ q ∧ q ≤ -10 := by
  unfold obK at h
  split at h
  · split at h
    · assumption
    · cases h
  · split at h
    · rename_i c rs hq
      simp only [Option.some.injEq] at h
      have := hw _ _ hq rfl
      dsimp only at this
      rw [h] at this
      exact absurd this (by decide)
    · cases h
theorem arK_el {w : Wd_} {M : Mm_} {q n : Int} {t : Nat} (h : arK w M q = some (t, n)) (h0 : 0 ≤ q) : ∃ N rs, w[q.toNat]? = some (t, N, rs) ∧ n = (N : Int) ∧ t ≠ 0 := by
  unfold arK at h
  split at h
  · omega
  · split at h
    · cases h
    · rename_i t' N rs hne hq
      simp only [Option.some.injEq, Prod.mk.injEq] at h
      obtain ⟨rfl, rfl⟩ := h
      exact ⟨N, rs, hq, rfl, fun e => hne e⟩
    · cases h
theorem arK_ro {w : Wd_} {M : Mm_} {q n : Int} {t : Nat} (h : arK w M q = some (t, n)) (h0 : q < 0) : ((t = 1 ∧ -5 ≤ q ∧ q ≤ -2) ∨ (t = 8 ∧ -39 ≤ q ∧ q ≤ -30)) ∧ n = M q (-1) := by
  unfold arK roK at h
  rw [if_pos h0] at h
  split at h
  · simp only [Option.some.injEq, Prod.mk.injEq] at h
    exact ⟨Or.inl ⟨h.1.symm, by assumption⟩, h.2.symm⟩
  · split at h
    · simp only [Option.some.injEq, Prod.mk.injEq] at h
      exact ⟨Or.inr ⟨h.1.symm, by assumption⟩, h.2.symm⟩
    · cases h
theorem cV_ref {ad : Nat → Nat} {q : Int} (h : 0 ≤ q) : cV ro ad (2, q) = .ref (ad q.toNat) := by
  show va_rf (adr ro ad q) = _
  unfold adr
  rw [if_neg (by omega)]
  rfl
theorem cV_ro {ad : Nat → Nat} {q : Int} {t : Nat} (h : q < -1) (ht : ro q = some t) : cV ro ad (2, q) = .ref t := by
  show va_rf (adr ro ad q) = _
  unfold adr
  rw [if_pos (by omega), if_neg (by omega), ht]
  rfl
theorem lg_obj {w : Wd_} {q : Int} {a b : Nat} {rs : List Int} (h0 : 0 ≤ q) (h : w[q.toNat]? = some (0, a, rs)) : isLg w q b = (fTag a b == 1) := by
  unfold isLg
  rw [if_neg (by omega), h]
  simp
theorem lg_ar {w : Wd_} {q j : Int} {t N : Nat} {rs : List Int} (h0 : 0 ≤ q) (h : w[q.toNat]? = some (t, N, rs)) (h1 : t ≠ 0) (h2 : t ≠ 2) : isLg w q j = false := by
  unfold isLg
  rw [if_neg (by omega), h]
  split
  · rename_i e
    simp only [Option.some.injEq, Prod.mk.injEq] at e
    exact absurd e.1 h2
  · rename_i e
    simp only [Option.some.injEq, Prod.mk.injEq] at e
    exact absurd e.1 h1
  · rfl
theorem lg_ro {w : Wd_} {q j : Int} (h : q < 0) : isLg w q j = false := by
  unfold isLg
  rw [if_pos h]
theorem WI.upd {w : Wd_} {M : Mm_} {q i x : Int} (h : WI RM w M) (h0 : 0 ≤ q) (h1 : inL x) (h2 : isLg w q i = false → inI x) : WI RM w (updM M q i x) := by
  obtain ⟨a1, a2, a3, a4⟩ := h
  refine ⟨a1, fun a j => ?_, fun a j hl => ?_, fun a j hn => ?_⟩
  · unfold updM
    split
    · exact h1
    · exact a2 a j
  · unfold updM
    split
    · rename_i e
      rw [e.1, e.2] at hl
      exact h2 hl
    · exact a3 a j hl
  · unfold updM
    rw [if_neg (by omega)]
    exact a4 a j hn
/-- a field is read -/
theorem so_get (C : Cx D kA ro RM id A p s m args meth c) {bp : Nat} {ls : Lc_} {st : List Vl_} {w : Wd_} {M : Mm_} {cn : Cn_} {q : Int} {a b i : Nat} {v : Vl_} (h13 : a ≠ 13) (hob : obK w q = some a) (hf : fdOK (ownOf id) i a b = true) (hval : ∀ (ad : Nat → Nat) (rs : List Int), w[q.toNat]? = some (0, a, rs) → WI RM w M → cF ro ad M q a rs b = cV ro ad v ∧ okV w v) (hd : decode (byOf id) bp = .ok (.getfield i, 3)) (h : Wb l D kA ro RM id A p e s m args below meth c n0 ad0 Z (bp + 3) ls (v :: st) w M cn) : Wb l D kA ro RM id A p e s m args below meth c n0 ad0 Z bp ls ((2, q) :: st) w M cn := by
  obtain ⟨hx, hb, hr, hlk, hml, hown, hnm, hts, hen, hK, hA⟩ := C
  intro ad H locs lsA a1 a2 a3 a4 a5 a6 a7
  obtain ⟨h0, rs, hw⟩ := obK_el hob h13
  obtain ⟨hv, hok⟩ := hval ad rs hw a3.2.2.2
  have hk := h ad H locs lsA a1 a2 a3 a4 a5 (okS_cons hok (okS_tl a6)) a7
  simp only [fdOK, Bool.and_eq_true, Bool.or_eq_true, decide_eq_true_eq] at hf
  obtain ⟨⟨hl, hbn⟩, hal⟩ := hf
  obtain ⟨r, hr2⟩ : ∃ r, cls_[a]? = some r := ⟨cls_[a], List.getElem?_eq_getElem hal⟩
  obtain ⟨k1, k2, k3, k4, k5, k6, k7⟩ := ck_ok a r hr2
  have hfd : fdr a b = r.2.1 b := by
    unfold fdr
    rw [List.getD_eq_getElem?_getD, hr2]
    rfl
  have he := cW_at (kA := kA) (ro := ro) (ad := ad) (M := M) hw
  have eq0 : ((q.toNat : Nat) : Int) = q := Int.toNat_of_nonneg h0
  change _ = some (ad q.toNat, Sum.inr (a, (List.range (nF a)).map (cF ro ad M ((q.toNat : Nat) : Int) a rs))) at he
  rw [eq0] at he
  have hfv : ((List.range (nF a)).map (cF ro ad M q a rs))[b]? = some (cV ro ad v) := by
    rw [List.getElem?_map, List.getElem?_range hbn, ← hv]
    rfl
  rw [List.map_cons, cV_ref h0]
  rcases hl with hl | hl
  · have hlw := hts _ (flL_ok _ hl)
    dsimp only at hlw
    rw [hfd] at hlw
    exact va_get (C := r.1) (T := r.2.1) (N := r.2.2) hx hb hts k1 hown hK a3.1 q.toNat he hr2 b (by rw [k6]; exact hbn) hlw (fun _ h9 => h9) hfv hd hk
  · have hlw := va_Nw.use rfl (A := args) (hen.1 _ (fnL_ok _ hl))
    dsimp only at hlw
    rw [hfd] at hlw
    exact va_getN (C := r.1) (T := r.2.1) (N := r.2.2) hx hb hts k1 hown hK a3.1 q.toNat he hr2 b (by rw [k6]; exact hbn) hlw (fun _ h9 => h9) hfv hd hk
end SN4
end
section
section SN5
variable {l : Launch} {D : va_G} {kA : Nat → ClassId} {ro : Int → Option Nat} {RM : Mm_} {id : Nat} {A : Nat → Prop} {p : Program} {e : Env} {s : State} {m : MethodId} {args : Array Value} {below : List Frame} {meth : Method} {c : Code} {n0 : Nat} {ad0 : Nat → Nat} {Z : State → Prop}
theorem cW_len {ad : Nat → Nat} {w : Wd_} {M : Mm_} : (cW kA ro ad w M).length = w.length := by
  unfold cW
  exact List.length_mapIdx
theorem cW_get {ad : Nat → Nat} {w : Wd_} {M : Mm_} (i : Nat) : (cW kA ro ad w M)[i]? = (w[i]?).map (fun x => (ad i, cC kA ro ad M i x)) := by
  unfold cW
  rw [List.getElem?_mapIdx]
theorem cW_set {ad : Nat → Nat} {w : Wd_} {M : Mm_} {q i x : Int} {c0 : Cl_} (h0 : 0 ≤ q) (hw : w[q.toNat]? = some c0) : cW kA ro ad w (updM M q i x) = (cW kA ro ad w M).set q.toNat (ad q.toNat, cC kA ro ad (updM M q i x) q c0) := by
  have eq0 : ((q.toNat : Nat) : Int) = q := Int.toNat_of_nonneg h0
  apply List.ext_getElem?
  intro n
  rw [List.getElem?_set, cW_get, cW_get, cW_len]
  by_cases hn : q.toNat = n
  · subst hn
    rw [if_pos rfl, if_pos (List.getElem?_eq_some_iff.mp hw).1, hw]
    simp only [Option.map_some, eq0]
  · rw [if_neg hn]
    cases w[n]? with
    | none => rfl
    | some y =>
      simp only [Option.map_some, Option.some.injEq, Prod.mk.injEq, true_and]
      exact cC_cong fun j => if_neg fun hh => hn (by omega)
def isRf : FieldType → Bool
  | .object _ => true
  | .array _ => true
  | _ => false
def ftyC (a b : Nat) : Bool := match fTag a b with
  | 0 => decide (ftyOf a b = .int)
  | 1 => decide (ftyOf a b = .long)
  | 3 => decide (ftyOf a b = .boolean)
  | 2 => isRf (ftyOf a b)
  | _ => false
theorem ftyC_ok : (List.range 13).all (fun a => (List.range (nF a)).all (fun b => ftyC a b)) = true := by decide +kernel
theorem ftyC_at {a b : Nat} (ha : a < cls_.length) (hb : b < nF a) : ftyC a b = true := List.all_eq_true.mp (List.all_eq_true.mp ftyC_ok a (List.mem_range.mpr ha)) b (List.mem_range.mpr hb)
theorem rf_nar {ty : FieldType} (h : isRf ty = true) (o : Option Nat) : narrow ty (va_rf o) = va_rf o ∧ fits ty (va_rf o) = true := by
  cases ty <;> first | (cases o <;> exact ⟨rfl, rfl⟩) | cases h
/-- a field is written: v, into the cells w', M' -/
theorem so_put (C : Cx D kA ro RM id A p s m args meth c) {bp : Nat} {ls : Lc_} {st : List Vl_} {w w' : Wd_} {M M' : Mm_} {cn : Cn_} {q : Int} {a b i : Nat} {v : Vl_} (h13 : a ≠ 13) (hob : obK w q = some a) (hf : fdOK (ownOf id) i a b = true)
    (hfin : (match (fdr a b).2.2.2 with | true => decide ((yOf id).name = "<init>") && decide ((fdr a b).1 = owN (ownOf id)) && decide ((ownOf id, i, a, b) ∈ flL) | false => true) = true)
    (hty : ∀ ad : Nat → Nat, narrow (ftyOf a b) (cV ro ad v) = cV ro ad v ∧ fits (ftyOf a b) (cV ro ad v) = true)
    (hw' : w'.length = w.length) (hWI : WI RM w M → okV w v → WI RM w' M') (hok : ∀ x, okV w x → okV w' x)
    (hset : ∀ (ad : Nat → Nat) (rs : List Int), w[q.toNat]? = some (0, a, rs) → WI RM w M → cW kA ro ad w' M' = (cW kA ro ad w M).set q.toNat (ad q.toNat, .inr (a, ((List.range (nF a)).map (cF ro ad M q a rs)).set b (cV ro ad v))))
    (hd : decode (byOf id) bp = .ok (.putfield i, 3)) (h : Wb l D kA ro RM id A p e s m args below meth c n0 ad0 Z (bp + 3) ls st w' M' cn) : Wb l D kA ro RM id A p e s m args below meth c n0 ad0 Z bp ls (v :: (2, q) :: st) w M cn := by
  obtain ⟨hx, hb, hr, hlk, hml, hown, hnm, hts, hen, hK, hA⟩ := C
  intro ad H locs lsA a1 a2 a3 a4 a5 a6 a7
  obtain ⟨h0, rs, hw⟩ := obK_el hob h13
  have hk := fun (H1 : Heap) (locs1 : List Loc) (r1 : Rl D kA ro RM A ad s.heap w' M' H1 locs1) => h ad H1 locs1 lsA (by rw [hw']; exact a1) a2 r1 a4 (fun j y hy => hok _ (a5 j y hy)) (fun y hy => hok _ (okS_tl (okS_tl a6) y hy)) a7
  have hwi := hWI a3.2.2.2 (okS_hd a6)
  simp only [fdOK, Bool.and_eq_true, Bool.or_eq_true, decide_eq_true_eq] at hf
  obtain ⟨⟨hl, hbn⟩, hal⟩ := hf
  obtain ⟨r, hr2⟩ : ∃ r, cls_[a]? = some r := ⟨cls_[a], List.getElem?_eq_getElem hal⟩
  obtain ⟨k1, k2, k3, k4, k5, k6, k7⟩ := ck_ok a r hr2
  have hfd : fdr a b = r.2.1 b := by
    unfold fdr
    rw [List.getD_eq_getElem?_getD, hr2]
    rfl
  have he := cW_at (kA := kA) (ro := ro) (ad := ad) (M := M) hw
  have eq0 : ((q.toNat : Nat) : Int) = q := Int.toNat_of_nonneg h0
  change _ = some (ad q.toNat, Sum.inr (a, (List.range (nF a)).map (cF ro ad M ((q.toNat : Nat) : Int) a rs))) at he
  rw [eq0] at he
  have hlen : b < ((List.range (nF a)).map (cF ro ad M q a rs)).length := by
    rw [List.length_map, List.length_range]
    exact hbn
  have hs := hset ad rs hw a3.2.2.2
  rw [List.map_cons, List.map_cons, cV_ref h0]
  rw [hfd] at hfin
  have hkk : ∀ (H1 : Heap) (locs1 : List Loc), va_P D cls_ ((cW kA ro ad w M).set q.toNat (ad q.toNat, .inr (a, ((List.range (nF a)).map (cF ro ad M q a rs)).set b (cV ro ad v)))) H1 → va_D A ((cW kA ro ad w M).set q.toNat (ad q.toNat, .inr (a, ((List.range (nF a)).map (cF ro ad M q a rs)).set b (cV ro ad v)))) → va_S A s.heap H1 locs1 → W p l e (rmOf id) s m args below meth c H1 locs1 cn.1 cn.2 Z (F0 m (bp + 3) lsA (st.map (cV ro ad))) := fun H1 locs1 p1 p2 p3 => hk H1 locs1 ⟨by rw [hs]; exact p1, by rw [hs]; exact p2, p3, hwi⟩
  cases hfl : (r.2.1 b).2.2.2 with
  | true =>
    rw [hfl] at hfin
    simp only [Bool.and_eq_true, decide_eq_true_eq] at hfin
    obtain ⟨⟨f1, f2⟩, f3⟩ := hfin
    have hlw := hts _ (flL_ok _ f3)
    dsimp only at hlw
    rw [hfd] at hlw
    exact va_putF (C := r.1) (T := r.2.1) (N := r.2.2) hx hb hts k1 (ftyOf a) k3 k2 hown hK a3.1 a3.2.1 a3.2.2.1 q.toNat he hr2 b (by rw [k6]; exact hbn) hlw (fun _ h9 => h9) hfl (hnm f1) f2 (k3 b (by rw [k6]; exact hbn)) (hty ad).1 (hty ad).2 hlen hd hkk
  | false =>
    rcases hl with hl | hl
    · have hlw := hts _ (flL_ok _ hl)
      dsimp only at hlw
      rw [hfd] at hlw
      exact va_put (C := r.1) (T := r.2.1) (N := r.2.2) hx hb hts k1 (ftyOf a) k3 k2 hown hK a3.1 a3.2.1 a3.2.2.1 q.toNat he hr2 b (by rw [k6]; exact hbn) hlw (fun _ h9 => h9) hfl (k3 b (by rw [k6]; exact hbn)) (hty ad).1 (hty ad).2 hlen hd hkk
    · have hlw := va_Nw.use rfl (A := args) (hen.1 _ (fnL_ok _ hl))
      dsimp only at hlw
      rw [hfd] at hlw
      exact va_putN (C := r.1) (T := r.2.1) (N := r.2.2) hx hb hts k1 (ftyOf a) k3 k2 hown hK a3.1 a3.2.1 a3.2.2.1 q.toNat he hr2 b (by rw [k6]; exact hbn) hlw (fun _ h9 => h9) hfl (k3 b (by rw [k6]; exact hbn)) (hty ad).1 (hty ad).2 hlen hd hkk
theorem cF_upd {ad : Nat → Nat} {M : Mm_} {q x : Int} {a b : Nat} {rs : List Int} {v : Value} (hv : cF ro ad (updM M q b x) q a rs b = v) : (List.range (nF a)).map (cF ro ad (updM M q b x) q a rs) = ((List.range (nF a)).map (cF ro ad M q a rs)).set b v := by
  apply List.ext_getElem?
  intro n
  rw [List.getElem?_set, List.getElem?_map, List.getElem?_map, List.length_map, List.length_range]
  by_cases hn : b = n
  · subst hn
    rw [if_pos rfl]
    by_cases hlt : b < nF a
    · rw [if_pos hlt, List.getElem?_range hlt]
      simp only [Option.map_some, hv]
    · rw [if_neg hlt, List.getElem?_eq_none (by rw [List.length_range]; omega)]
      rfl
  · rw [if_neg hn]
    by_cases hlt : n < nF a
    · rw [List.getElem?_range hlt]
      simp only [Option.map_some, Option.some.injEq]
      unfold cF
      rw [show updM M q b x q n = M q n from if_neg fun hh => hn (by omega)]
    · rw [List.getElem?_eq_none (by rw [List.length_range]; omega)]
      rfl
theorem okV_len {w w' : Wd_} (h : w'.length = w.length) {x : Vl_} (hx : okV w x) : okV w' x := by
  obtain ⟨t, x⟩ := x
  match t with
  | 0 => exact hx
  | 1 => exact hx
  | t + 2 =>
    show x < w'.length
    rw [h]
    exact hx
theorem setR_len (w : Wd_) (r : Int) (k : Nat) (q : Int) : (setR w r k q).length = w.length := by
  unfold setR
  exact List.length_modify ..
theorem setR_at (w : Wd_) (r : Int) (k : Nat) (q : Int) (n : Nat) : (setR w r k q)[n]? = (w[n]?).map (fun c => if r.toNat = n then (c.1, c.2.1, c.2.2.set k q) else c) := by
  unfold setR
  rw [List.getElem?_modify]
  cases w[n]? with
  | none => rfl
  | some y =>
    simp only [Option.map_eq_map, Option.map_some, Option.some.injEq]
theorem lg_setR (w : Wd_) (r : Int) (k : Nat) (q a j : Int) : isLg (setR w r k q) a j = isLg w a j := by
  unfold isLg
  split
  · rfl
  · rw [setR_at]
    cases hw : w[a.toNat]? with
    | none => rfl
    | some y =>
      obtain ⟨t, n, rs⟩ := y
      simp only [Option.map_some]
      by_cases hr : r.toNat = a.toNat
      · rw [if_pos hr]
        match t with
        | 0 => rfl
        | 1 => rfl
        | 2 => rfl
        | t + 3 => rfl
      · rw [if_neg hr]
theorem WI.setR {w : Wd_} {M : Mm_} {r x : Int} {k : Nat} (h : WI RM w M) (hx : x < w.length) : WI RM (setR w r k x) M := by
  obtain ⟨a1, a2, a3, a4⟩ := h
  refine ⟨fun i c0 hc => ?_, a2, fun a j hl => a3 a j (by rw [lg_setR] at hl; exact hl), a4⟩
  rw [setR_at] at hc
  cases hw : w[i]? with
  | none => rw [hw] at hc; cases hc
  | some y =>
    rw [hw] at hc
    simp only [Option.map_some, Option.some.injEq] at hc
    obtain ⟨b1, b2, b3, b4⟩ := a1 i y hw
    rw [setR_len]
    split at hc
    · subst hc
      refine ⟨fun r2 hr2 => ?_, fun e => ?_, fun e => ?_, b4⟩
      · rcases List.mem_or_eq_of_mem_set hr2 with g | g
        · exact b1 r2 g
        · rw [g]; exact hx
      · rw [List.length_set]; exact b2 e
      · rw [List.length_set]; exact b3 e
    · subst hc
      exact ⟨b1, b2, b3, b4⟩
theorem so_putI (C : Cx D kA ro RM id A p s m args meth c) {bp : Nat} {ls : Lc_} {st : List Vl_} {w : Wd_} {M : Mm_} {cn : Cn_} {q x : Int} {a b i : Nat} (h13 : a ≠ 13) (hob : obK w q = some a) (hf : fdOK (ownOf id) i a b = true)
    (hfin : (match (fdr a b).2.2.2 with | true => decide ((yOf id).name = "<init>") && decide ((fdr a b).1 = owN (ownOf id)) && decide ((ownOf id, i, a, b) ∈ flL) | false => true) = true)
    (ht : fTag a b = 0 ∨ (fTag a b = 3 ∧ (x = 0 ∨ x = 1))) (hd : decode (byOf id) bp = .ok (.putfield i, 3)) (h : Wb l D kA ro RM id A p e s m args below meth c n0 ad0 Z (bp + 3) ls st w (updM M q b x) cn) : Wb l D kA ro RM id A p e s m args below meth c n0 ad0 Z bp ls ((0, x) :: (2, q) :: st) w M cn := by
  obtain ⟨h0, rs0, hw0⟩ := obK_el hob h13
  have hfd := hf
  simp only [fdOK, Bool.and_eq_true, Bool.or_eq_true, decide_eq_true_eq] at hfd
  have hc := ftyC_at hfd.2 hfd.1.2
  have hlg : isLg w q b = false := by
    rw [lg_obj h0 hw0]
    rcases ht with g | ⟨g, -⟩ <;> rw [g] <;> rfl
  refine so_put C h13 hob hf hfin (fun ad => ?_) rfl (fun g1 g2 => g1.upd h0 (inI_L g2) (fun _ => g2)) (fun _ g => g) (fun ad rs hw _ => ?_) hd h
  · unfold ftyC at hc
    rcases ht with g | ⟨g, g2⟩
    · rw [g] at hc
      rw [of_decide_eq_true hc]
      exact ⟨rfl, rfl⟩
    · rw [g] at hc
      rw [of_decide_eq_true hc]
      rcases g2 with g2 | g2 <;> rw [g2] <;> exact ⟨rfl, rfl⟩
  · rw [cW_set h0 hw]
    show List.set _ _ (_, Sum.inr (a, (List.range (nF a)).map (cF ro ad (updM M q b x) q a rs))) = _
    rw [cF_upd (v := .int (Int32.ofInt x))]
    · rfl
    · unfold cF
      rw [show updM M q b x q b = x from if_pos ⟨rfl, rfl⟩]
      rcases ht with g | ⟨g, -⟩ <;> rw [g] <;> try rfl
theorem so_putL (C : Cx D kA ro RM id A p s m args meth c) {bp : Nat} {ls : Lc_} {st : List Vl_} {w : Wd_} {M : Mm_} {cn : Cn_} {q x : Int} {a b i : Nat} (h13 : a ≠ 13) (hob : obK w q = some a) (hf : fdOK (ownOf id) i a b = true)
    (hfin : (match (fdr a b).2.2.2 with | true => decide ((yOf id).name = "<init>") && decide ((fdr a b).1 = owN (ownOf id)) && decide ((ownOf id, i, a, b) ∈ flL) | false => true) = true)
    (ht : fTag a b = 1) (hd : decode (byOf id) bp = .ok (.putfield i, 3)) (h : Wb l D kA ro RM id A p e s m args below meth c n0 ad0 Z (bp + 3) ls st w (updM M q b x) cn) : Wb l D kA ro RM id A p e s m args below meth c n0 ad0 Z bp ls ((1, x) :: (2, q) :: st) w M cn := by
  obtain ⟨h0, rs0, hw0⟩ := obK_el hob h13
  have hfd := hf
  simp only [fdOK, Bool.and_eq_true, Bool.or_eq_true, decide_eq_true_eq] at hfd
  have hc := ftyC_at hfd.2 hfd.1.2
  have hlg : isLg w q b = true := by
    rw [lg_obj h0 hw0, ht]; rfl
  refine so_put C h13 hob hf hfin (fun ad => ?_) rfl (fun g1 g2 => g1.upd h0 g2 (fun g => by rw [hlg] at g; cases g)) (fun _ g => g) (fun ad rs hw _ => ?_) hd h
  · unfold ftyC at hc
    rw [ht] at hc
    rw [of_decide_eq_true hc]
    exact ⟨rfl, rfl⟩
  · rw [cW_set h0 hw]
    show List.set _ _ (_, Sum.inr (a, (List.range (nF a)).map (cF ro ad (updM M q b x) q a rs))) = _
    rw [cF_upd (v := .long (Int64.ofInt x))]
    · rfl
    · unfold cF
      rw [show updM M q b x q b = x from if_pos ⟨rfl, rfl⟩, ht]
      try rfl
theorem so_putR (C : Cx D kA ro RM id A p s m args meth c) {bp : Nat} {ls : Lc_} {st : List Vl_} {w : Wd_} {M : Mm_} {cn : Cn_} {q x : Int} {a b i : Nat} (h13 : a ≠ 13) (hob : obK w q = some a) (hf : fdOK (ownOf id) i a b = true)
    (hfin : (match (fdr a b).2.2.2 with | true => decide ((yOf id).name = "<init>") && decide ((fdr a b).1 = owN (ownOf id)) && decide ((ownOf id, i, a, b) ∈ flL) | false => true) = true)
    (ht : fTag a b = 2) (hd : decode (byOf id) bp = .ok (.putfield i, 3)) (h : Wb l D kA ro RM id A p e s m args below meth c n0 ad0 Z (bp + 3) ls st (setR w q b x) M cn) : Wb l D kA ro RM id A p e s m args below meth c n0 ad0 Z bp ls ((2, x) :: (2, q) :: st) w M cn := by
  obtain ⟨h0, rs0, hw0⟩ := obK_el hob h13
  have hfd := hf
  simp only [fdOK, Bool.and_eq_true, Bool.or_eq_true, decide_eq_true_eq] at hfd
  have hc := ftyC_at hfd.2 hfd.1.2
  refine so_put C h13 hob hf hfin (fun ad => ?_) (setR_len ..) (fun g1 g2 => g1.setR g2) (fun y g => okV_len (setR_len ..) g) (fun ad rs hw hwi => ?_) hd h
  · unfold ftyC at hc
    rw [ht] at hc
    exact rf_nar hc _
  · have hlen : rs.length = nF a := (((hwi.1 _ _ hw).2.1) rfl).2
    apply List.ext_getElem?
    intro n
    rw [List.getElem?_set, cW_get, cW_get, cW_len, setR_at]
    by_cases hn : q.toNat = n
    · subst hn
      rw [if_pos rfl, if_pos (List.getElem?_eq_some_iff.mp hw).1, hw]
      simp only [Option.map_some, if_true, Option.some.injEq, Prod.mk.injEq, true_and]
      show Sum.inr (a, (List.range (nF a)).map (cF ro ad M ((q.toNat : Nat) : Int) a (rs.set b x))) = _
      rw [Int.toNat_of_nonneg h0]
      congr 2
      apply List.ext_getElem?
      intro k
      rw [List.getElem?_set, List.getElem?_map, List.getElem?_map, List.length_map, List.length_range]
      by_cases hk : b = k
      · subst hk
        rw [if_pos rfl, if_pos hfd.1.2, List.getElem?_range hfd.1.2]
        simp only [Option.map_some, Option.some.injEq]
        unfold cF
        rw [ht]
        show va_rf (adr ro ad ((rs.set b x).getD b (-1))) = cV ro ad (2, x)
        rw [List.getD_eq_getElem?_getD, List.getElem?_set, if_pos rfl, if_pos (by rw [hlen]; exact hfd.1.2)]
        rfl
      · rw [if_neg hk]
        by_cases hlt : k < nF a
        · rw [List.getElem?_range hlt]
          simp only [Option.map_some, Option.some.injEq]
          unfold cF
          rw [List.getD_eq_getElem?_getD, List.getElem?_set, if_neg hk, ← List.getD_eq_getElem?_getD]
        · rw [List.getElem?_eq_none (by rw [List.length_range]; omega)]
          rfl
    · rw [if_neg hn]
      cases w[n]? with
      | none => rfl
      | some y => simp only [Option.map_some, if_neg hn]
end SN5
end
section
section SN6
variable {l : Launch} {D : va_G} {kA : Nat → ClassId} {ro : Int → Option Nat} {RM : Mm_} {id : Nat} {A : Nat → Prop} {p : Program} {e : Env} {s : State} {m : MethodId} {args : Array Value} {below : List Frame} {meth : Method} {c : Code} {n0 : Nat} {ad0 : Nat → Nat} {Z : State → Prop}
theorem so_iald (C : Cx D kA ro RM id A p s m args meth c) {bp : Nat} {ls : Lc_} {st : List Vl_} {w : Wd_} {M : Mm_} {cn : Cn_} {q j n : Int} (hq : arK w M q = some (1, n)) (h0 : 0 ≤ q) (hj : 0 ≤ j ∧ j < n) (hd : decode (byOf id) bp = .ok (.iaload, 1)) (h : Wb l D kA ro RM id A p e s m args below meth c n0 ad0 Z (bp + 1) ls ((0, M q j) :: st) w M cn) : Wb l D kA ro RM id A p e s m args below meth c n0 ad0 Z bp ls ((0, j) :: (2, q) :: st) w M cn := by
  obtain ⟨hx, hb, hr, hlk, hml, hown, hnm, hts, hen, hK, hA⟩ := C
  intro ad H locs lsA a1 a2 a3 a4 a5 a6 a7
  obtain ⟨N, rs, hw, hn, -⟩ := arK_el hq h0
  have eq0 : ((q.toNat : Nat) : Int) = q := Int.toNat_of_nonneg h0
  have he := cW_at (kA := kA) (ro := ro) (ad := ad) (M := M) hw
  have oj : inI j := okS_hd a6
  have hk := h ad H locs lsA a1 a2 a3 a4 a5 (okS_cons (v := (0, M q j)) (a3.2.2.2.2.2.1 q j (lg_ar h0 hw (by decide) (by decide))) (okS_tl (okS_tl a6))) a7
  have hin : vp_in (Int32.ofInt j) N := by have := in_of oj hj; rw [hn] at this; exact this
  change _ = some (ad q.toNat, Sum.inl (kA 1, N, Sum.inl (fun k : Nat => Int32.ofInt (M ((q.toNat : Nat) : Int) k)))) at he
  rw [eq0] at he
  rw [List.map_cons, List.map_cons, cV_ref h0]
  refine va_iald hx hb hK a3.1 q.toNat 0 he rfl hin hd ?_
  rw [clp_of oj hj.1, Int.toNat_of_nonneg hj.1]
  exact hk
theorem so_zald (C : Cx D kA ro RM id A p s m args meth c) {bp : Nat} {ls : Lc_} {st : List Vl_} {w : Wd_} {M : Mm_} {cn : Cn_} {q j n : Int} (hq : arK w M q = some (3, n)) (h0 : 0 ≤ q) (hj : 0 ≤ j ∧ j < n) (hd : decode (byOf id) bp = .ok (.baload, 1)) (h : Wb l D kA ro RM id A p e s m args below meth c n0 ad0 Z (bp + 1) ls ((0, M q j) :: st) w M cn) : Wb l D kA ro RM id A p e s m args below meth c n0 ad0 Z bp ls ((0, j) :: (2, q) :: st) w M cn := by
  obtain ⟨hx, hb, hr, hlk, hml, hown, hnm, hts, hen, hK, hA⟩ := C
  intro ad H locs lsA a1 a2 a3 a4 a5 a6 a7
  obtain ⟨N, rs, hw, hn, -⟩ := arK_el hq h0
  have eq0 : ((q.toNat : Nat) : Int) = q := Int.toNat_of_nonneg h0
  have he := cW_at (kA := kA) (ro := ro) (ad := ad) (M := M) hw
  have oj : inI j := okS_hd a6
  have hk := h ad H locs lsA a1 a2 a3 a4 a5 (okS_cons (v := (0, M q j)) (a3.2.2.2.2.2.1 q j (lg_ar h0 hw (by decide) (by decide))) (okS_tl (okS_tl a6))) a7
  have hin : vp_in (Int32.ofInt j) N := by have := in_of oj hj; rw [hn] at this; exact this
  change _ = some (ad q.toNat, Sum.inl (kA 3, N, Sum.inl (fun k : Nat => Int32.ofInt (M ((q.toNat : Nat) : Int) k)))) at he
  rw [eq0] at he
  rw [List.map_cons, List.map_cons, cV_ref h0]
  refine va_zald hx hb hK a3.1 q.toNat 2 he rfl hin hd ?_
  rw [clp_of oj hj.1, Int.toNat_of_nonneg hj.1]
  exact hk
theorem so_lald (C : Cx D kA ro RM id A p s m args meth c) {bp : Nat} {ls : Lc_} {st : List Vl_} {w : Wd_} {M : Mm_} {cn : Cn_} {q j n : Int} (hq : arK w M q = some (2, n)) (h0 : 0 ≤ q) (hj : 0 ≤ j ∧ j < n) (hd : decode (byOf id) bp = .ok (.laload, 1)) (h : Wb l D kA ro RM id A p e s m args below meth c n0 ad0 Z (bp + 1) ls ((1, M q j) :: st) w M cn) : Wb l D kA ro RM id A p e s m args below meth c n0 ad0 Z bp ls ((0, j) :: (2, q) :: st) w M cn := by
  obtain ⟨hx, hb, hr, hlk, hml, hown, hnm, hts, hen, hK, hA⟩ := C
  intro ad H locs lsA a1 a2 a3 a4 a5 a6 a7
  obtain ⟨N, rs, hw, hn, -⟩ := arK_el hq h0
  have eq0 : ((q.toNat : Nat) : Int) = q := Int.toNat_of_nonneg h0
  have he := cW_at (kA := kA) (ro := ro) (ad := ad) (M := M) hw
  have oj : inI j := okS_hd a6
  have hk := h ad H locs lsA a1 a2 a3 a4 a5 (okS_cons (v := (1, M q j)) (a3.2.2.2.2.1 q j) (okS_tl (okS_tl a6))) a7
  have hin : vp_in (Int32.ofInt j) N := by have := in_of oj hj; rw [hn] at this; exact this
  change _ = some (ad q.toNat, Sum.inl (kA 2, N, Sum.inr (Sum.inl (fun k : Nat => Int64.ofInt (M ((q.toNat : Nat) : Int) k))))) at he
  rw [eq0] at he
  rw [List.map_cons, List.map_cons, cV_ref h0]
  refine va_lald hx hb hK a3.1 q.toNat 1 he rfl hin hd ?_
  rw [clp_of oj hj.1, Int.toNat_of_nonneg hj.1]
  exact hk
theorem so_iald_ro (C : Cx D kA ro RM id A p s m args meth c) {bp : Nat} {ls : Lc_} {st : List Vl_} {w : Wd_} {M : Mm_} {cn : Cn_} {q j n : Int} (hq : arK w M q = some (1, n)) (h0 : q < 0) (hj : 0 ≤ j ∧ j < n) (hd : decode (byOf id) bp = .ok (.iaload, 1)) (h : Wb l D kA ro RM id A p e s m args below meth c n0 ad0 Z (bp + 1) ls ((0, M q j) :: st) w M cn) : Wb l D kA ro RM id A p e s m args below meth c n0 ad0 Z bp ls ((0, j) :: (2, q) :: st) w M cn := by
  obtain ⟨hx, hb, hr, hlk, hml, hown, hnm, hts, hen, hK, hA⟩ := C
  intro ad H locs lsA a1 a2 a3 a4 a5 a6 a7
  obtain ⟨hc, hn⟩ := arK_ro hq h0
  have oj : inI j := okS_hd a6
  have hk := h ad H locs lsA a1 a2 a3 a4 a5 (okS_cons (v := (0, M q j)) (a3.2.2.2.2.2.1 q j (lg_ro h0)) (okS_tl (okS_tl a6))) a7
  obtain ⟨t, e1, e2⟩ := hen.2.2.2.2.2.2.2.2.2 q (by omega) (by omega)
  have hRM := a3.2.2.2.2.2.2
  rw [List.map_cons, List.map_cons, cV_ro (by omega) e1]
  refine va_ti hx hb e2 a3.2.2.1 (i := Int32.ofInt j) (by rw [hn, hRM q _ h0] at hj; exact in_of oj hj) rfl hd ?_
  rw [clp_of oj hj.1, Int.toNat_of_nonneg hj.1, ← hRM q j h0]
  exact hk
theorem so_bald_ro (C : Cx D kA ro RM id A p s m args meth c) {bp : Nat} {ls : Lc_} {st : List Vl_} {w : Wd_} {M : Mm_} {cn : Cn_} {q j n : Int} (hq : arK w M q = some (8, n)) (h0 : q < 0) (hj : 0 ≤ j ∧ j < n) (hd : decode (byOf id) bp = .ok (.baload, 1)) (h : Wb l D kA ro RM id A p e s m args below meth c n0 ad0 Z (bp + 1) ls ((0, M q j) :: st) w M cn) : Wb l D kA ro RM id A p e s m args below meth c n0 ad0 Z bp ls ((0, j) :: (2, q) :: st) w M cn := by
  obtain ⟨hx, hb, hr, hlk, hml, hown, hnm, hts, hen, hK, hA⟩ := C
  intro ad H locs lsA a1 a2 a3 a4 a5 a6 a7
  obtain ⟨hc, hn⟩ := arK_ro hq h0
  have oj : inI j := okS_hd a6
  have hk := h ad H locs lsA a1 a2 a3 a4 a5 (okS_cons (v := (0, M q j)) (a3.2.2.2.2.2.1 q j (lg_ro h0)) (okS_tl (okS_tl a6))) a7
  obtain ⟨ak, t, -, e1, -, -, -, e2⟩ := hen.2.2.2.2.1 (q + 20) (by omega) (by omega)
  rw [show q + 20 - 20 = q by omega] at e1 e2
  have hRM := a3.2.2.2.2.2.2
  rw [List.map_cons, List.map_cons, cV_ro (by omega) e1]
  refine va_tb hx hb e2 a3.2.2.1 (i := Int32.ofInt j) (by rw [hn, hRM q _ h0] at hj; exact in_of oj hj) rfl hd ?_
  rw [clp_of oj hj.1, Int.toNat_of_nonneg hj.1, ← hRM q j h0]
  exact hk
theorem row_ald {R : Room} {H : Heap} {locs : List Loc} {cells slots pc : Nat} {Q : State → Prop} {cc : ByteArray} {ls : Array Slot} {rest : List Value} {cl : List vw_C} {a : Nat} {tys : List (ClassId × FieldType)} {ws : va_W} (hexec : p.tables.exec = Jvm.exec) (hb : c.code = cc) (hK : va_K D cl tys s) (hP : va_P D cl ws H) (q0 t0 : Nat) {cA : ClassId} {ty : FieldType} (hrf : isRf ty = true) {n : Nat} {f : Nat → Option Nat} (ha : ws[q0]? = some (a, .inl (cA, n, .inr (.inr (.inr (.inr f)))))) (ht : tys[t0]? = some (cA, ty)) {i : Int32} (hin : vp_in i n) (hdg : decode cc pc = .ok (.aaload, 1))
    (kk : W p l e R s m args below meth c H locs cells slots Q (F0 m (pc + 1) ls (va_rf (f i.toNatClampNeg) :: rest))) : W p l e R s m args below meth c H locs cells slots Q (F0 m pc ls (.int i :: .ref a :: rest)) := by
  have hlt : i.toNatClampNeg < n := Nat.not_le.mp fun q => hin (Or.inr q)
  exact W.aald (v := va_rf (f i.toNatClampNeg)) (ty := ty) hexec hb (hP q0 _ ha) ((hK.2 t0 _ ht).1 n (fun j => va_rf (f j))) (by cases ty <;> first | rfl | cases hrf) (fun q => by cases q) (by show ¬ (i < 0 ∨ (arrV _ _ _).slots.size ≤ _); rw [arrV_size]; exact hin) (by show (arrV _ _ _).slots[_]? = _; rw [arrV_read _ _ hlt]) rfl rfl hdg kk
theorem so_aald (C : Cx D kA ro RM id A p s m args meth c) {bp : Nat} {ls : Lc_} {st : List Vl_} {w : Wd_} {M : Mm_} {cn : Cn_} {q j n v : Int} {t : Nat} (hq : arK w M q = some (t, n)) (t4 : 4 ≤ t) (t6 : t ≤ 6) (h0 : 0 ≤ q) (hj : 0 ≤ j ∧ j < n) (hv : rfK w q j.toNat = some v) (hd : decode (byOf id) bp = .ok (.aaload, 1)) (h : Wb l D kA ro RM id A p e s m args below meth c n0 ad0 Z (bp + 1) ls ((2, v) :: st) w M cn) : Wb l D kA ro RM id A p e s m args below meth c n0 ad0 Z bp ls ((0, j) :: (2, q) :: st) w M cn := by
  obtain ⟨hx, hb, hr, hlk, hml, hown, hnm, hts, hen, hK, hA⟩ := C
  intro ad H locs lsA a1 a2 a3 a4 a5 a6 a7
  obtain ⟨N, rs, hw, hn, -⟩ := arK_el hq h0
  have eq0 : ((q.toNat : Nat) : Int) = q := Int.toNat_of_nonneg h0
  have he := cW_at (kA := kA) (ro := ro) (ad := ad) (M := M) hw
  have oj : inI j := okS_hd a6
  have hrs : rs[j.toNat]? = some v := by unfold rfK at hv; rw [if_neg (by omega), hw] at hv; exact hv
  have hvl : v < w.length := (a3.2.2.2.1 _ _ hw).1 v (List.mem_of_getElem? hrs)
  have hk := h ad H locs lsA a1 a2 a3 a4 a5 (okS_cons (v := (2, v)) hvl (okS_tl (okS_tl a6))) a7
  have hin : vp_in (Int32.ofInt j) N := by have := in_of oj hj; rw [hn] at this; exact this
  have ecl : (Int32.ofInt j).toNatClampNeg = j.toNat := clp_of oj hj.1
  have ecr : cR ro ad rs (Int32.ofInt j).toNatClampNeg = adr ro ad v := by rw [ecl]; unfold cR; rw [hrs]; rfl
  rw [List.map_cons, List.map_cons, cV_ref h0]
  change W _ _ _ _ _ _ _ _ _ _ _ _ _ _ _ (F0 m (bp + 1) lsA (va_rf (adr ro ad v) :: st.map (cV ro ad))) at hk
  rw [← ecr] at hk
  match t, t4, t6, he with
  | 4, _, _, he => exact row_ald hx hb hK a3.1 q.toNat 3 rfl he rfl hin hd hk
  | 5, _, _, he => exact row_ald hx hb hK a3.1 q.toNat 4 rfl he rfl hin hd hk
  | 6, _, _, he => exact row_ald hx hb hK a3.1 q.toNat 5 rfl he rfl hin hd hk
theorem upd_eq {M : Mm_} {q j x : Int} (hj : 0 ≤ j) : (fun k : Nat => Int32.ofInt (updM M q j x q k)) = upd (fun k : Nat => Int32.ofInt (M q k)) j.toNat (Int32.ofInt x) := by
  funext k
  unfold upd updM
  by_cases hk : k = j.toNat
  · rw [if_pos hk, if_pos ⟨rfl, by omega⟩]
  · rw [if_neg hk, if_neg (fun q => hk (by omega))]
theorem updL_eq {M : Mm_} {q j x : Int} (hj : 0 ≤ j) : (fun k : Nat => Int64.ofInt (updM M q j x q k)) = vp_updL (fun k : Nat => Int64.ofInt (M q k)) j.toNat (Int64.ofInt x) := by
  funext k
  unfold vp_updL updM
  by_cases hk : k = j.toNat
  · rw [if_pos hk, if_pos ⟨rfl, by omega⟩]
  · rw [if_neg hk, if_neg (fun q => hk (by omega))]
theorem so_iast (C : Cx D kA ro RM id A p s m args meth c) {bp : Nat} {ls : Lc_} {st : List Vl_} {w : Wd_} {M : Mm_} {cn : Cn_} {q j n x : Int} (hq : arK w M q = some (1, n)) (h0 : 0 ≤ q) (hj : 0 ≤ j ∧ j < n) (hd : decode (byOf id) bp = .ok (.iastore, 1)) (h : Wb l D kA ro RM id A p e s m args below meth c n0 ad0 Z (bp + 1) ls st w (updM M q j x) cn) : Wb l D kA ro RM id A p e s m args below meth c n0 ad0 Z bp ls ((0, x) :: (0, j) :: (2, q) :: st) w M cn := by
  obtain ⟨hx, hb, hr, hlk, hml, hown, hnm, hts, hen, hK, hA⟩ := C
  intro ad H locs lsA a1 a2 a3 a4 a5 a6 a7
  obtain ⟨N, rs, hw, hn, -⟩ := arK_el hq h0
  have eq0 : ((q.toNat : Nat) : Int) = q := Int.toNat_of_nonneg h0
  have he := cW_at (kA := kA) (ro := ro) (ad := ad) (M := M) hw
  have oj : inI j := okS_hd (okS_tl a6)
  have ox : okV w (0, x) := okS_hd a6
  have hwi : WI RM w (updM M q j x) := a3.2.2.2.upd h0 (inI_L ox) (fun _ => ox)
  have hk := fun (H1 : Heap) (locs1 : List Loc) (r1 : Rl D kA ro RM A ad s.heap w (updM M q j x) H1 locs1) => h ad H1 locs1 lsA a1 a2 r1 a4 a5 (okS_tl (okS_tl (okS_tl a6))) a7
  have hin : vp_in (Int32.ofInt j) N := by have := in_of oj hj; rw [hn] at this; exact this
  change _ = some (ad q.toNat, Sum.inl (kA 1, N, Sum.inl (fun k : Nat => Int32.ofInt (M ((q.toNat : Nat) : Int) k)))) at he
  rw [eq0] at he
  have ecl : (Int32.ofInt j).toNatClampNeg = j.toNat := clp_of oj hj.1
  have hs : cW kA ro ad w (updM M q j x) = (cW kA ro ad w M).set q.toNat (ad q.toNat, Sum.inl (kA 1, N, Sum.inl (fun k : Nat => Int32.ofInt (updM M q j x q k)))) := cW_set h0 hw
  rw [upd_eq hj.1, ← ecl] at hs
  rw [List.map_cons, List.map_cons, List.map_cons, cV_ref h0]
  exact va_iast hx hb hK a3.1 a3.2.1 a3.2.2.1 q.toNat 0 he rfl (x := Int32.ofInt x) hin hd (fun H1 locs1 p1 p2 p3 => hk H1 locs1 ⟨by rw [hs]; exact p1, by rw [hs]; exact p2, p3, hwi⟩)
theorem so_zast (C : Cx D kA ro RM id A p s m args meth c) {bp : Nat} {ls : Lc_} {st : List Vl_} {w : Wd_} {M : Mm_} {cn : Cn_} {q j n x : Int} (hq : arK w M q = some (3, n)) (h0 : 0 ≤ q) (hj : 0 ≤ j ∧ j < n) (hb01 : x = 0 ∨ x = 1) (hd : decode (byOf id) bp = .ok (.bastore, 1)) (h : Wb l D kA ro RM id A p e s m args below meth c n0 ad0 Z (bp + 1) ls st w (updM M q j x) cn) : Wb l D kA ro RM id A p e s m args below meth c n0 ad0 Z bp ls ((0, x) :: (0, j) :: (2, q) :: st) w M cn := by
  obtain ⟨hx, hb, hr, hlk, hml, hown, hnm, hts, hen, hK, hA⟩ := C
  intro ad H locs lsA a1 a2 a3 a4 a5 a6 a7
  obtain ⟨N, rs, hw, hn, -⟩ := arK_el hq h0
  have eq0 : ((q.toNat : Nat) : Int) = q := Int.toNat_of_nonneg h0
  have he := cW_at (kA := kA) (ro := ro) (ad := ad) (M := M) hw
  have oj : inI j := okS_hd (okS_tl a6)
  have ox : okV w (0, x) := okS_hd a6
  have hwi : WI RM w (updM M q j x) := a3.2.2.2.upd h0 (inI_L ox) (fun _ => ox)
  have hk := fun (H1 : Heap) (locs1 : List Loc) (r1 : Rl D kA ro RM A ad s.heap w (updM M q j x) H1 locs1) => h ad H1 locs1 lsA a1 a2 r1 a4 a5 (okS_tl (okS_tl (okS_tl a6))) a7
  have hin : vp_in (Int32.ofInt j) N := by have := in_of oj hj; rw [hn] at this; exact this
  change _ = some (ad q.toNat, Sum.inl (kA 3, N, Sum.inl (fun k : Nat => Int32.ofInt (M ((q.toNat : Nat) : Int) k)))) at he
  rw [eq0] at he
  have ecl : (Int32.ofInt j).toNatClampNeg = j.toNat := clp_of oj hj.1
  have hs : cW kA ro ad w (updM M q j x) = (cW kA ro ad w M).set q.toNat (ad q.toNat, Sum.inl (kA 3, N, Sum.inl (fun k : Nat => Int32.ofInt (updM M q j x q k)))) := cW_set h0 hw
  rw [upd_eq hj.1, ← ecl] at hs
  rw [List.map_cons, List.map_cons, List.map_cons, cV_ref h0]
  have enar : vp_nar .boolean (Int32.ofInt x) = Int32.ofInt x := by rcases hb01 with g | g <;> rw [g] <;> rfl
  refine va_zast hx hb hK a3.1 a3.2.1 a3.2.2.1 q.toNat 2 he rfl (x := Int32.ofInt x) hin hd (fun H1 locs1 p1 p2 p3 => ?_)
  rw [enar] at p1 p2
  exact hk H1 locs1 ⟨by rw [hs]; exact p1, by rw [hs]; exact p2, p3, hwi⟩
theorem so_last (C : Cx D kA ro RM id A p s m args meth c) {bp : Nat} {ls : Lc_} {st : List Vl_} {w : Wd_} {M : Mm_} {cn : Cn_} {q j n x : Int} (hq : arK w M q = some (2, n)) (h0 : 0 ≤ q) (hj : 0 ≤ j ∧ j < n) (hd : decode (byOf id) bp = .ok (.lastore, 1)) (h : Wb l D kA ro RM id A p e s m args below meth c n0 ad0 Z (bp + 1) ls st w (updM M q j x) cn) : Wb l D kA ro RM id A p e s m args below meth c n0 ad0 Z bp ls ((1, x) :: (0, j) :: (2, q) :: st) w M cn := by
  obtain ⟨hx, hb, hr, hlk, hml, hown, hnm, hts, hen, hK, hA⟩ := C
  intro ad H locs lsA a1 a2 a3 a4 a5 a6 a7
  obtain ⟨N, rs, hw, hn, -⟩ := arK_el hq h0
  have eq0 : ((q.toNat : Nat) : Int) = q := Int.toNat_of_nonneg h0
  have he := cW_at (kA := kA) (ro := ro) (ad := ad) (M := M) hw
  have oj : inI j := okS_hd (okS_tl a6)
  have ox : okV w (1, x) := okS_hd a6
  have hwi : WI RM w (updM M q j x) := a3.2.2.2.upd h0 ox (fun g => by unfold isLg at g; rw [if_neg (by omega), hw] at g; cases g)
  have hk := fun (H1 : Heap) (locs1 : List Loc) (r1 : Rl D kA ro RM A ad s.heap w (updM M q j x) H1 locs1) => h ad H1 locs1 lsA a1 a2 r1 a4 a5 (okS_tl (okS_tl (okS_tl a6))) a7
  have hin : vp_in (Int32.ofInt j) N := by have := in_of oj hj; rw [hn] at this; exact this
  change _ = some (ad q.toNat, Sum.inl (kA 2, N, Sum.inr (Sum.inl (fun k : Nat => Int64.ofInt (M ((q.toNat : Nat) : Int) k))))) at he
  rw [eq0] at he
  have ecl : (Int32.ofInt j).toNatClampNeg = j.toNat := clp_of oj hj.1
  have hs : cW kA ro ad w (updM M q j x) = (cW kA ro ad w M).set q.toNat (ad q.toNat, Sum.inl (kA 2, N, Sum.inr (Sum.inl (fun k : Nat => Int64.ofInt (updM M q j x q k))))) := cW_set h0 hw
  rw [updL_eq hj.1, ← ecl] at hs
  rw [List.map_cons, List.map_cons, List.map_cons, cV_ref h0]
  exact va_last hx hb hK a3.1 a3.2.1 a3.2.2.1 q.toNat 1 he rfl (x := Int64.ofInt x) hin hd (fun H1 locs1 p1 p2 p3 => hk H1 locs1 ⟨by rw [hs]; exact p1, by rw [hs]; exact p2, p3, hwi⟩)
theorem so_aast (C : Cx D kA ro RM id A p s m args meth c) {bp : Nat} {ls : Lc_} {st : List Vl_} {w : Wd_} {M : Mm_} {cn : Cn_} {q j n x : Int} (hq : arK w M q = some (4, n)) (h0 : 0 ≤ q) (x0 : 0 ≤ x) (hob : obK w x = some 0) (hj : 0 ≤ j ∧ j < n) (hd : decode (byOf id) bp = .ok (.aastore, 1)) (h : Wb l D kA ro RM id A p e s m args below meth c n0 ad0 Z (bp + 1) ls st (setR w q j.toNat x) M cn) : Wb l D kA ro RM id A p e s m args below meth c n0 ad0 Z bp ls ((2, x) :: (0, j) :: (2, q) :: st) w M cn := by
  obtain ⟨hx, hb, hr, hlk, hml, hown, hnm, hts, hen, hK, hA⟩ := C
  intro ad H locs lsA a1 a2 a3 a4 a5 a6 a7
  obtain ⟨N, rs, hw, hn, -⟩ := arK_el hq h0
  have eq0 : ((q.toNat : Nat) : Int) = q := Int.toNat_of_nonneg h0
  have he := cW_at (kA := kA) (ro := ro) (ad := ad) (M := M) hw
  obtain ⟨-, rs2, hw2⟩ := obK_el hob (by decide)
  have oj : inI j := okS_hd (okS_tl a6)
  have ox : x < w.length := okS_hd a6
  have hwi : WI RM (setR w q j.toNat x) M := a3.2.2.2.setR ox
  have hlen : rs.length = N := ((a3.2.2.2.1 _ _ hw).2.2.1) (Nat.le_refl 4)
  have hk := fun (H1 : Heap) (locs1 : List Loc) (r1 : Rl D kA ro RM A ad s.heap (setR w q j.toNat x) M H1 locs1) => h ad H1 locs1 lsA (by rw [setR_len]; exact a1) a2 r1 a4 (fun i y hy => okV_len (setR_len ..) (a5 i y hy)) (fun y hy => okV_len (setR_len ..) (okS_tl (okS_tl (okS_tl a6)) y hy)) a7
  have hin : vp_in (Int32.ofInt j) N := by have := in_of oj hj; rw [hn] at this; exact this
  have ecl : (Int32.ofInt j).toNatClampNeg = j.toNat := clp_of oj hj.1
  have he2 := cW_at (kA := kA) (ro := ro) (ad := ad) (M := M) hw2
  have hs : cW kA ro ad (setR w q j.toNat x) M = (cW kA ro ad w M).set q.toNat (ad q.toNat, Sum.inl (kA 4, N, .inr (.inr (.inr (.inr (va_up (cR ro ad rs) j.toNat (some (ad x.toNat)))))))) := by
    apply List.ext_getElem?
    intro k
    rw [List.getElem?_set, cW_get, cW_get, cW_len, setR_at]
    by_cases hk2 : q.toNat = k
    · subst hk2
      rw [if_pos rfl, if_pos (List.getElem?_eq_some_iff.mp hw).1, hw]
      simp only [Option.map_some, if_true, Option.some.injEq, Prod.mk.injEq, true_and]
      show Sum.inl (kA 4, N, Sum.inr (Sum.inr (Sum.inr (Sum.inr (cR ro ad (rs.set j.toNat x)))))) = _
      have ef : cR ro ad (rs.set j.toNat x) = va_up (cR ro ad rs) j.toNat (some (ad x.toNat)) := by
        funext k3
        unfold cR va_up
        rw [List.getElem?_set]
        by_cases hk3 : j.toNat = k3
        · subst hk3
          rw [if_pos rfl, if_pos rfl, if_pos (by omega)]
          show adr ro ad x = _
          unfold adr
          rw [if_neg (by omega)]
        · rw [if_neg hk3, if_neg (fun g => hk3 g.symm)]
      rw [ef]
    · rw [if_neg hk2]
      cases w[k]? with
      | none => rfl
      | some y => simp only [Option.map_some, if_neg hk2]
  rw [List.map_cons, List.map_cons, List.map_cons, cV_ref h0, cV_ref x0]
  exact va_astq hx hb hK a3.1 a3.2.1 a3.2.2.1 q.toNat 3 x.toNat 0 (r := ("BorrowedWords$Text", fld0, 5)) he rfl he2 rfl hin hd (fun H1 locs1 p1 p2 p3 => hk H1 locs1 ⟨by rw [hs, ← ecl]; exact p1, by rw [hs, ← ecl]; exact p2, p3, hwi⟩)
theorem so_alen_ro (C : Cx D kA ro RM id A p s m args meth c) {bp : Nat} {ls : Lc_} {st : List Vl_} {w : Wd_} {M : Mm_} {cn : Cn_} {q n : Int} {t : Nat} (hq : arK w M q = some (t, n)) (h0 : q < 0) (hn1 : 0 ≤ n) (hd : decode (byOf id) bp = .ok (.arraylength, 1)) (h : Wb l D kA ro RM id A p e s m args below meth c n0 ad0 Z (bp + 1) ls ((0, n) :: st) w M cn) : Wb l D kA ro RM id A p e s m args below meth c n0 ad0 Z bp ls ((2, q) :: st) w M cn := by
  obtain ⟨hx, hb, hr, hlk, hml, hown, hnm, hts, hen, hK, hA⟩ := C
  intro ad H locs lsA a1 a2 a3 a4 a5 a6 a7
  obtain ⟨hc, hn⟩ := arK_ro hq h0
  have hRM := a3.2.2.2.2.2.2
  have hn0 : 0 ≤ RM q (-1) := by rw [← hRM q _ h0, ← hn]; exact hn1
  have on : inI n := by rw [hn]; exact a3.2.2.2.2.2.1 q (-1) (lg_ro h0)
  have hk := h ad H locs lsA a1 a2 a3 a4 a5 (okS_cons (v := (0, n)) on (okS_tl a6)) a7
  have en : Int32.ofNat (RM q (-1)).toNat = Int32.ofInt n := by rw [hn, hRM q _ h0, ← Int32.ofInt_eq_ofNat, Int.toNat_of_nonneg hn0]
  rcases hc with ⟨-, q1, q2⟩ | ⟨-, q1, q2⟩
  · obtain ⟨t, e1, e2⟩ := hen.2.2.2.2.2.2.2.2.2 q q1 q2
    rw [List.map_cons, cV_ro (by omega) e1]
    exact va_tlen hx hb e2 a3.2.2.1 en hd hk
  · obtain ⟨ak, t, -, e1, -, -, -, e2⟩ := hen.2.2.2.2.1 (q + 20) (by omega) (by omega)
    rw [show q + 20 - 20 = q by omega] at e1 e2
    rw [List.map_cons, cV_ro (by omega) e1]
    exact va_tlen hx hb e2 a3.2.2.1 en hd hk
theorem so_gsC (C : Cx D kA ro RM id A p s m args meth c) {bp : Nat} {ls : Lc_} {st : List Vl_} {w : Wd_} {M : Mm_} {cn : Cn_} {i : Nat} (ho : ownOf id = 13) (hi : i = 38) (hd : decode (byOf id) bp = .ok (.getstatic i, 3)) (h : Wb l D kA ro RM id A p e s m args below meth c n0 ad0 Z (bp + 3) ls ((0, 1) :: st) w M cn) : Wb l D kA ro RM id A p e s m args below meth c n0 ad0 Z bp ls st w M cn := by
  obtain ⟨hx, hb, hr, hlk, hml, hown, hnm, hts, hen, hK, hA⟩ := C
  intro ad H locs lsA a1 a2 a3 a4 a5 a6 a7
  subst hi
  have hk := h ad H locs lsA a1 a2 a3 a4 a5 (okS_cons (v := (0, 1)) (by show inI 1; unfold inI; omega) a6) a7
  rw [ho] at hown
  exact va_gets hx hb hen.2.2.2.2.2.2.1 a3.2.2.1 hown (hts _ fj_COMPACT_STRINGS) (fun _ h9 => h9) hd hk
theorem so_gsF (C : Cx D kA ro RM id A p s m args meth c) {bp : Nat} {ls : Lc_} {st : List Vl_} {w : Wd_} {M : Mm_} {cn : Cn_} {i : Nat} (ho : ownOf id = 13) (hi : i = 1053) (hd : decode (byOf id) bp = .ok (.getstatic i, 3)) (h : Wb l D kA ro RM id A p e s m args below meth c n0 ad0 Z (bp + 3) ls ((2, -6) :: st) w M cn) : Wb l D kA ro RM id A p e s m args below meth c n0 ad0 Z bp ls st w M cn := by
  obtain ⟨hx, hb, hr, hlk, hml, hown, hnm, hts, hen, hK, hA⟩ := C
  intro ad H locs lsA a1 a2 a3 a4 a5 a6 a7
  subst hi
  have hk := h ad H locs lsA a1 a2 a3 a4 a5 (okS_cons (v := (2, -6)) (by show (-6 : Int) < (w.length : Int); omega) a6) a7
  rw [ho] at hown
  exact va_gets hx hb hen.2.2.2.2.2.2.2.1 a3.2.2.1 hown (hts _ fj_SIOOBE_FORMATTER) (fun _ h9 => h9) hd hk
theorem so_gsA (C : Cx D kA ro RM id A p s m args meth c) {bp : Nat} {ls : Lc_} {st : List Vl_} {w : Wd_} {M : Mm_} {cn : Cn_} {i : Nat} {z : Int} (hl : (ownOf id, i, z) ∈ fsL) (z1 : -5 ≤ z) (z2 : z ≤ -3) (hd : decode (byOf id) bp = .ok (.getstatic i, 3)) (h : Wb l D kA ro RM id A p e s m args below meth c n0 ad0 Z (bp + 3) ls ((2, z) :: st) w M cn) : Wb l D kA ro RM id A p e s m args below meth c n0 ad0 Z bp ls st w M cn := by
  obtain ⟨hx, hb, hr, hlk, hml, hown, hnm, hts, hen, hK, hA⟩ := C
  intro ad H locs lsA a1 a2 a3 a4 a5 a6 a7
  have hk := h ad H locs lsA a1 a2 a3 a4 a5 (okS_cons (v := (2, z)) (by show z < (w.length : Int); omega) a6) a7
  obtain ⟨t, e1, e2⟩ := hen.2.2.2.2.2.2.2.2.1 z z1 z2
  rw [List.map_cons, cV_ro (by omega) e1] at hk
  exact va_getsN hx hb e2 a3.2.2.1 hown (va_Nw.use rfl (A := args) (hen.1 _ (fsL_ok _ hl))) (fun _ h9 => h9) hd hk
theorem so_ldcS (C : Cx D kA ro RM id A p s m args meth c) {bp : Nat} {ls : Lc_} {st : List Vl_} {w : Wd_} {M : Mm_} {cn : Cn_} {i : Nat} {z : Int} (ho : ownOf id = 4) (z1 : -19 ≤ z) (z2 : z ≤ -10) (hl : ∃ q ∈ srL, (q.1 : Int) = -z - 10 ∧ q.2.1 = i) (hd : decode (byOf id) bp = .ok (.ldc i, 2)) (h : Wb l D kA ro RM id A p e s m args below meth c n0 ad0 Z (bp + 2) ls ((2, z) :: st) w M cn) : Wb l D kA ro RM id A p e s m args below meth c n0 ad0 Z bp ls st w M cn := by
  obtain ⟨hx, hb, hr, hlk, hml, hown, hnm, hts, hen, hK, hA⟩ := C
  intro ad H locs lsA a1 a2 a3 a4 a5 a6 a7
  have hk := h ad H locs lsA a1 a2 a3 a4 a5 (okS_cons (v := (2, z)) (by show z < (w.length : Int); omega) a6) a7
  obtain ⟨q, hq, q1, q2⟩ := hl
  obtain ⟨ak, e1, e2⟩ := hen.2.2.2.2.2.1 q hq
  rw [show -(q.1 : Int) - 10 = z by omega] at e1
  rw [List.map_cons, cV_ro (by omega) e1] at hk
  rw [ho] at hown
  rw [q2] at e2
  exact va_ldcS hx hb hown e2 hd hk
theorem so_strV (C : Cx D kA ro RM id A p s m args meth c) {bp : Nat} {ls : Lc_} {st : List Vl_} {w : Wd_} {M : Mm_} {cn : Cn_} {q : Int} {i : Nat} (ho : ownOf id = 13) (hi : i = 9) (q1 : -19 ≤ q) (q2 : q ≤ -10) (hd : decode (byOf id) bp = .ok (.getfield i, 3)) (h : Wb l D kA ro RM id A p e s m args below meth c n0 ad0 Z (bp + 3) ls ((2, q - 20) :: st) w M cn) : Wb l D kA ro RM id A p e s m args below meth c n0 ad0 Z bp ls ((2, q) :: st) w M cn := by
  obtain ⟨hx, hb, hr, hlk, hml, hown, hnm, hts, hen, hK, hA⟩ := C
  intro ad H locs lsA a1 a2 a3 a4 a5 a6 a7
  subst hi
  have hk := h ad H locs lsA a1 a2 a3 a4 a5 (okS_cons (v := (2, q - 20)) (by show q - 20 < (w.length : Int); omega) (okS_tl a6)) a7
  obtain ⟨ak, av, e1, e2, -, -, e3, -⟩ := hen.2.2.2.2.1 q q1 q2
  rw [List.map_cons, cV_ro (by omega) e2] at hk
  rw [List.map_cons, cV_ro (by omega) e1]
  rw [ho] at hown
  exact vk_getf hx hb e3 a3.2.2.1 hown (hts _ fj_value) (fun _ h9 => h9) hd hk
theorem so_strC (C : Cx D kA ro RM id A p s m args meth c) {bp : Nat} {ls : Lc_} {st : List Vl_} {w : Wd_} {M : Mm_} {cn : Cn_} {q : Int} {i : Nat} (ho : ownOf id = 13) (hi : i = 15) (q1 : -19 ≤ q) (q2 : q ≤ -10) (hd : decode (byOf id) bp = .ok (.getfield i, 3)) (h : Wb l D kA ro RM id A p e s m args below meth c n0 ad0 Z (bp + 3) ls ((0, M q 1) :: st) w M cn) : Wb l D kA ro RM id A p e s m args below meth c n0 ad0 Z bp ls ((2, q) :: st) w M cn := by
  obtain ⟨hx, hb, hr, hlk, hml, hown, hnm, hts, hen, hK, hA⟩ := C
  intro ad H locs lsA a1 a2 a3 a4 a5 a6 a7
  subst hi
  have hk := h ad H locs lsA a1 a2 a3 a4 a5 (okS_cons (v := (0, M q 1)) (a3.2.2.2.2.2.1 q 1 (lg_ro (by omega))) (okS_tl a6)) a7
  obtain ⟨ak, av, e1, e2, -, e4, -, -⟩ := hen.2.2.2.2.1 q q1 q2
  rw [← a3.2.2.2.2.2.2 q 1 (by omega)] at e4
  rw [List.map_cons, cV_ro (by omega) e1]
  rw [ho] at hown
  exact vk_getf hx hb e4 a3.2.2.1 hown (hts _ fj_coder) (fun _ h9 => h9) hd hk
end SN6
end
section
section SN7
variable {l : Launch} {D : va_G} {kA : Nat → ClassId} {ro : Int → Option Nat} {RM : Mm_} {id : Nat} {A : Nat → Prop} {p : Program} {e : Env} {s : State} {m : MethodId} {args : Array Value} {below : List Frame} {meth : Method} {c : Code} {n0 : Nat} {ad0 : Nat → Nat} {Z : State → Prop}
/-- addresses, with new ones behind -/
def adG (ad : Nat → Nat) (n : Nat) (qs : Nat → Nat) : Nat → Nat := fun i => if i < n then ad i else qs (i - n)
theorem adr_grow {ad qs : Nat → Nat} {n : Nat} {r : Int} (h : r < n) : adr ro (adG ad n qs) r = adr ro ad r := by
  unfold adr adG
  split
  · rfl
  · rw [if_pos (by omega)]
theorem cV_grow {ad qs : Nat → Nat} {w : Wd_} {v : Vl_} (h : okV w v) : cV ro (adG ad w.length qs) v = cV ro ad v := by
  obtain ⟨t, x⟩ := v
  match t with
  | 0 => rfl
  | 1 => rfl
  | t + 2 =>
    show va_rf (adr ro _ x) = va_rf (adr ro ad x)
    rw [adr_grow h]
theorem cR_grow {ad qs : Nat → Nat} {n : Nat} {rs : List Int} (h : ∀ r ∈ rs, r < n) : cR ro (adG ad n qs) rs = cR ro ad rs := by
  funext j
  unfold cR
  cases hr : rs[j]? with
  | none => rfl
  | some r => exact adr_grow (h r (List.mem_of_getElem? hr))
theorem cC_grow {ad qs : Nat → Nat} {n : Nat} {M M' : Mm_} {a : Int} {x : Cl_} (h : ∀ r ∈ x.2.2, r < n) (hM : ∀ j, M' a j = M a j) : cC kA ro (adG ad n qs) M' a x = cC kA ro ad M a x := by
  obtain ⟨t, N, rs⟩ := x
  have h1 := cR_grow (ro := ro) (ad := ad) (qs := qs) h
  dsimp only at h1 h
  have h2 : cF ro (adG ad n qs) M' a N rs = cF ro ad M a N rs := by
    funext k
    unfold cF
    rw [hM]
    have e : adr ro (adG ad n qs) (rs.getD k (-1)) = adr ro ad (rs.getD k (-1)) := by
      apply adr_grow
      rw [List.getD_eq_getElem?_getD]
      cases hr : rs[k]? with
      | none => show (-1 : Int) < n; omega
      | some r => exact h r (List.mem_of_getElem? hr)
    rw [e]
  have h3 : (fun j : Nat => Int32.ofInt (M' a j)) = fun j : Nat => Int32.ofInt (M a j) := funext fun j => by rw [hM]
  have h4 : (fun j : Nat => Int64.ofInt (M' a j)) = fun j : Nat => Int64.ofInt (M a j) := funext fun j => by rw [hM]
  match t with
  | 0 => exact congrArg (fun f => (Sum.inr (N, (List.range (nF N)).map f) : va_E)) h2
  | 1 => exact congrArg (fun f => (Sum.inl (kA 1, N, Sum.inl f) : va_E)) h3
  | 2 => exact congrArg (fun f => (Sum.inl (kA 2, N, Sum.inr (Sum.inl f)) : va_E)) h4
  | 3 => exact congrArg (fun f => (Sum.inl (kA 3, N, Sum.inl f) : va_E)) h3
  | 4 => exact congrArg (fun f => (Sum.inl (kA 4, N, Sum.inr (Sum.inr (Sum.inr (Sum.inr f)))) : va_E)) h1
  | 5 => exact congrArg (fun f => (Sum.inl (kA 5, N, Sum.inr (Sum.inr (Sum.inr (Sum.inr f)))) : va_E)) h1
  | t + 6 => exact congrArg (fun f => (Sum.inl (kA 6, N, Sum.inr (Sum.inr (Sum.inr (Sum.inr f)))) : va_E)) h1
theorem cW_grow {ad qs : Nat → Nat} {w cs : Wd_} {M M' : Mm_} (h : WI RM w M) (hM : ∀ (a : Int) j, a < w.length → M' a j = M a j) : cW kA ro (adG ad w.length qs) (w ++ cs) M' = cW kA ro ad w M ++ cs.mapIdx (fun k x => (qs k, cC kA ro (adG ad w.length qs) M' ((w.length + k : Nat) : Int) x)) := by
  apply List.ext_getElem?
  intro i
  rw [cW_get, List.getElem?_append, List.getElem?_append, cW_len]
  split
  · rename_i hi
    rw [cW_get, List.getElem?_eq_getElem hi]
    simp only [Option.map_some, Option.some.injEq, Prod.mk.injEq]
    exact ⟨if_pos hi, cC_grow (h.1 i _ (List.getElem?_eq_getElem hi)).1 (fun j => hM _ j (by omega))⟩
  · rename_i hi
    rw [List.getElem?_mapIdx]
    cases cs[i - w.length]? with
    | none => rfl
    | some x =>
      simp only [Option.map_some, Option.some.injEq, Prod.mk.injEq]
      exact ⟨if_neg hi, by rw [show w.length + (i - w.length) = i by omega]⟩
theorem okV_grow {w cs : Wd_} {v : Vl_} (h : okV w v) : okV (w ++ cs) v := by
  obtain ⟨t, x⟩ := v
  match t with
  | 0 => exact h
  | 1 => exact h
  | t + 2 =>
    show x < ((w ++ cs).length : Int)
    have h : x < (w.length : Int) := h
    rw [List.length_append]
    omega
theorem map_grow {ad qs : Nat → Nat} {w : Wd_} {st : List Vl_} (h : okS w st) : st.map (cV ro (adG ad w.length qs)) = st.map (cV ro ad) := List.map_congr_left fun v hv => cV_grow (h v hv)
theorem LH_grow {ad qs : Nat → Nat} {w : Wd_} {lsA : Array Slot} {n : Nat} {ls : Lc_} (h : LH ro ad lsA n ls) (hk : okL w ls) : LH ro (adG ad w.length qs) lsA n ls :=
  ⟨h.1, h.2.1, h.2.2.1, fun i v hv => by rw [cV_grow (hk i v hv)]; exact h.2.2.2 i v hv⟩
theorem lg_grow {w cs : Wd_} {a j : Int} (h : a < w.length) : isLg (w ++ cs) a j = isLg w a j := by
  unfold isLg
  split
  · rfl
  · rw [List.getElem?_append_left (by omega)]
theorem WI_grow {w cs : Wd_} {M M' : Mm_} (h : WI RM w M) (hM : ∀ (a : Int) j, a < w.length → M' a j = M a j) (hZ : ∀ (a : Int) j, (w.length : Int) ≤ a → M' a j = 0 ∨ M' a j = M a j) (hc : ∀ x ∈ cs, (∀ r ∈ x.2.2, r < ((w ++ cs).length : Int)) ∧ (x.1 = 0 → x.2.1 < cls_.length ∧ x.2.2.length = nF x.2.1) ∧ (4 ≤ x.1 → x.2.2.length = x.2.1) ∧ x.1 ≤ 6) : WI RM (w ++ cs) M' := by
  obtain ⟨a1, a2, a3, a4⟩ := h
  refine ⟨fun i x hx => ?_, fun a j => ?_, fun a j hl => ?_, fun a j hn => ?_⟩
  · rw [List.getElem?_append] at hx
    split at hx
    · obtain ⟨b1, b2⟩ := a1 i x hx
      exact ⟨fun r hr => by have := b1 r hr; rw [List.length_append]; omega, b2⟩
    · exact hc x (List.mem_of_getElem? hx)
  · by_cases ha : a < w.length
    · rw [hM a j ha]; exact a2 a j
    · rcases hZ a j (by omega) with g | g
      · rw [g]; unfold inL; omega
      · rw [g]; exact a2 a j
  · by_cases ha : a < w.length
    · rw [hM a j ha]; rw [lg_grow ha] at hl; exact a3 a j hl
    · rcases hZ a j (by omega) with g | g
      · rw [g]; exact in0
      · rw [g]
        refine a3 a j ?_
        unfold isLg
        rw [if_neg (by omega), List.getElem?_eq_none (by omega)]
  · rw [hM a j (by omega)]
    exact a4 a j hn
/-- the judgement with new cells behind -/
theorem Wb_grow {bp : Nat} {ls : Lc_} {st : List Vl_} {w cs : Wd_} {M M' : Mm_} {cn' : Cn_} {v : Vl_} (h : Wb l D kA ro RM id A p e s m args below meth c n0 ad0 Z bp ls (v :: st) (w ++ cs) M' cn') {ad qs : Nat → Nat} {H H1 : Heap} {locs : List Loc} {lsA : Array Slot} (a1 : n0 ≤ w.length) (a2 : ∀ i, i < n0 → ad i = ad0 i) (a3 : Rl D kA ro RM A ad s.heap w M H locs) (a4 : LH ro ad lsA (mxL id) ls) (a5 : okL w ls) (a6 : okS w st) (a7 : cn'.1 ≤ mcOf id ∧ cn'.2 ≤ msOf id)
    (hM : ∀ (a : Int) j, a < w.length → M' a j = M a j) (hZ : ∀ (a : Int) j, (w.length : Int) ≤ a → M' a j = 0 ∨ M' a j = M a j) (hc : ∀ x ∈ cs, (∀ r ∈ x.2.2, r < ((w ++ cs).length : Int)) ∧ (x.1 = 0 → x.2.1 < cls_.length ∧ x.2.2.length = nF x.2.1) ∧ (4 ≤ x.1 → x.2.2.length = x.2.1) ∧ x.1 ≤ 6) (hv : okV (w ++ cs) v)
    (hP : va_P D cls_ (cW kA ro ad w M ++ cs.mapIdx (fun k x => (qs k, cC kA ro (adG ad w.length qs) M' ((w.length + k : Nat) : Int) x))) H1) (hD : va_D A (cW kA ro ad w M ++ cs.mapIdx (fun k x => (qs k, cC kA ro (adG ad w.length qs) M' ((w.length + k : Nat) : Int) x)))) (hS : va_S A s.heap H1 locs) :
    W p l e (rmOf id) s m args below meth c H1 locs cn'.1 cn'.2 Z (F0 m bp lsA (cV ro (adG ad w.length qs) v :: st.map (cV ro ad))) := by
  have hg := cW_grow (kA := kA) (ro := ro) (ad := ad) (qs := qs) (cs := cs) a3.2.2.2 hM
  rw [← map_grow (ro := ro) (ad := ad) (qs := qs) a6]
  exact h (adG ad w.length qs) H1 locs lsA (by rw [List.length_append]; omega) (fun i hi => (if_pos (by omega)).trans (a2 i hi)) ⟨by rw [hg]; exact hP, by rw [hg]; exact hD, hS, WI_grow a3.2.2.2 hM hZ hc⟩ (LH_grow a4 a5) (fun i y hy => okV_grow (a5 i y hy)) (okS_cons hv (fun y hy => okV_grow (a6 y hy))) a7
theorem kA_of {U : State} {t : Nat} {cA : ClassId} (hK : va_K D cls_ (TY kA) U) (ht : 1 ≤ t ∧ t ≤ 6) (hf : U.vm.findClass ("[" ++ (tyOf t).toString) = some cA) : cA = kA t := by
  have key : ∀ (k : Nat) (ty : FieldType), (TY kA)[k]? = some (kA (k + 1), ty) → U.vm.findClass ("[" ++ ty.toString) = some cA → cA = kA (k + 1) := by
    intro k ty hk hf
    have h2 := (hK.2 k _ hk).2
    cases ty with
    | object C =>
      obtain ⟨k1, k2, h3, h4, h5, h6⟩ := h2
      exact Option.some.inj (hf.symm.trans h6)
    | _ =>
      have h2 : U.vm.findClass _ = some (kA (k + 1)) := h2
      exact Option.some.inj (hf.symm.trans h2)
  match t, ht with
  | 1, _ => exact key 0 _ rfl hf
  | 2, _ => exact key 1 _ rfl hf
  | 3, _ => exact key 2 _ rfl hf
  | 4, _ => exact key 3 _ rfl hf
  | 5, _ => exact key 4 _ rfl hf
  | 6, _ => exact key 5 _ rfl hf
theorem zeroM_or (M : Mm_) (n x j : Int) : zeroM M n x j = 0 ∨ zeroM M n x j = M x j := by
  unfold zeroM
  split
  · exact Or.inl rfl
  · exact Or.inr rfl
theorem so_new (C : Cx D kA ro RM id A p s m args meth c) {bp : Nat} {ls : Lc_} {st : List Vl_} {w : Wd_} {M : Mm_} {cn : Cn_} {i a : Nat} (hl : (ownOf id, i, a) ∈ clL) (hal : a < cls_.length) (hbud : cn.1 + 1 ≤ mcOf id ∧ cn.2 + nF a ≤ msOf id) (hd : decode (byOf id) bp = .ok (.new i, 3)) (h : Wb l D kA ro RM id A p e s m args below meth c n0 ad0 Z (bp + 3) ls ((2, (w.length : Int)) :: st) (w ++ [(0, a, List.replicate (nF a) (-1))]) (zeroM M w.length) (cn.1 + 1, cn.2 + nF a)) : Wb l D kA ro RM id A p e s m args below meth c n0 ad0 Z bp ls st w M cn := by
  obtain ⟨hx, hb, hr, hlk, hml, hown, hnm, hts, hen, hK, hA⟩ := C
  intro ad H locs lsA a1 a2 a3 a4 a5 a6 a7
  obtain ⟨r, hr2⟩ : ∃ r, cls_[a]? = some r := ⟨cls_[a], List.getElem?_eq_getElem hal⟩
  obtain ⟨k1, k2, k3, k4, k5, k6, k7⟩ := ck_ok a r hr2
  have hcl := hts _ (clL_ok _ hl)
  dsimp only at hcl
  rw [k7] at hcl
  have hM : ∀ (x : Int) j, x < w.length → zeroM M w.length x j = M x j := fun x j hx => if_neg (by omega)
  have hZ : ∀ (x : Int) j, (w.length : Int) ≤ x → zeroM M w.length x j = 0 ∨ zeroM M w.length x j = M x j := fun x j _ => zeroM_or ..
  generalize hfd : (List.range (nF a)).map (cF ro ad (zeroM M w.length) (w.length : Int) a (List.replicate (nF a) (-1))) = fs
  have hfs : ∀ j, j < r.2.2 → defaultValue (ftyOf a j) = vp_V fs j := by
    intro j hj
    rw [k6] at hj
    rw [← hfd]
    unfold vp_V
    rw [List.getD_eq_getElem?_getD, List.getElem?_map, List.getElem?_range hj]
    simp only [Option.map_some, Option.getD_some]
    have hc := ftyC_at hal hj
    unfold ftyC at hc
    unfold cF
    have hz : zeroM M w.length (w.length : Int) j = 0 := if_pos rfl
    rw [hz]
    split at hc
    · rename_i g; rw [g, of_decide_eq_true hc]; rfl
    · rename_i g; rw [g, of_decide_eq_true hc]; rfl
    · rename_i g; rw [g, of_decide_eq_true hc]; rfl
    · rename_i g
      rw [g, List.getD_eq_getElem?_getD, List.getElem?_replicate, if_pos hj]
      cases hty : ftyOf a j with
      | object _ => rfl
      | array _ => rfl
      | _ => rw [hty] at hc; cases hc
    · cases hc
  have hnew : ∀ q : Nat, ([(0, a, List.replicate (nF a) (-1))] : Wd_).mapIdx (fun k x => (q, cC kA ro (adG ad w.length (fun _ => q)) (zeroM M w.length) ((w.length + k : Nat) : Int) x)) = [(q, .inr (a, fs))] := by
    intro q
    rw [List.mapIdx_cons, List.mapIdx_nil, ← hfd]
    have e1 : cC kA ro (adG ad w.length (fun _ => q)) (zeroM M w.length) ((w.length + 0 : Nat) : Int) (0, a, List.replicate (nF a) (-1)) = cC kA ro ad (zeroM M w.length) ((w.length + 0 : Nat) : Int) (0, a, List.replicate (nF a) (-1)) := cC_grow (fun r hr => by have := List.eq_of_mem_replicate hr; omega) (fun _ => rfl)
    rw [e1]
    rfl
  refine va_new (C := r.1) (T := r.2.1) (N := r.2.2) (fs := fs) hx hb hts k1 (ftyOf a) k3 hown hcl (hts _ k4) (hts _ k5) hK a3.1 a3.2.1 a3.2.2.1 hA hr2 hfs hbud.1 (by rw [k6]; exact hbud.2) hd (fun q H1 p1 p2 p3 => ?_)
  have hcs : ∀ x ∈ ([(0, a, List.replicate (nF a) (-1))] : Wd_), (∀ r ∈ x.2.2, r < ((w ++ [(0, a, List.replicate (nF a) (-1))]).length : Int)) ∧ (x.1 = 0 → x.2.1 < cls_.length ∧ x.2.2.length = nF x.2.1) ∧ (4 ≤ x.1 → x.2.2.length = x.2.1) ∧ x.1 ≤ 6 := by
    intro x hx
    rw [List.mem_singleton] at hx
    subst hx
    exact ⟨fun r hr => by have := List.eq_of_mem_replicate hr; omega, fun _ => ⟨hal, List.length_replicate⟩, fun g => by dsimp only at g; omega, by dsimp only; omega⟩
  have := Wb_grow (qs := fun _ => q) h a1 a2 a3 a4 a5 a6 ⟨hbud.1, hbud.2⟩ hM hZ hcs (show (w.length : Int) < _ by rw [List.length_append]; simp; omega) (by rw [hnew]; exact p1) (by rw [hnew]; exact p2) p3
  rw [cV_ref (by omega)] at this
  rw [k6]
  have e2 : adG ad w.length (fun _ => q) ((w.length : Int).toNat) = q := if_neg (by omega)
  rw [e2] at this
  exact this
end SN7
end
section
section SN8
variable {l : Launch} {D : va_G} {kA : Nat → ClassId} {ro : Int → Option Nat} {RM : Mm_} {id : Nat} {A : Nat → Prop} {p : Program} {e : Env} {s : State} {m : MethodId} {args : Array Value} {below : List Frame} {meth : Method} {c : Code} {n0 : Nat} {ad0 : Nat → Nat} {Z : State → Prop}
theorem cell1_ok {w : Wd_} {x : Cl_} (h1 : ∀ r ∈ x.2.2, r < (w.length : Int)) (h2 : x.1 ≠ 0) (h3 : 4 ≤ x.1 → x.2.2.length = x.2.1) (h4 : x.1 ≤ 6) : ∀ y ∈ ([x] : Wd_), (∀ r ∈ y.2.2, r < ((w ++ [x]).length : Int)) ∧ (y.1 = 0 → y.2.1 < cls_.length ∧ y.2.2.length = nF y.2.1) ∧ (4 ≤ y.1 → y.2.2.length = y.2.1) ∧ y.1 ≤ 6 := by
  intro y hy
  rw [List.mem_singleton] at hy
  subst hy
  exact ⟨fun r hr => by have := h1 r hr; rw [List.length_append]; omega, fun g => absurd g h2, h3, h4⟩
theorem so_newa_i (C : Cx D kA ro RM id A p s m args meth c) {bp : Nat} {ls : Lc_} {st : List Vl_} {w : Wd_} {M : Mm_} {cn : Cn_} {n : Int} (hn : 0 ≤ n ∧ n ≤ 4000) (hbud : cn.1 + 1 ≤ mcOf id ∧ cn.2 + n.toNat ≤ msOf id) (hd : decode (byOf id) bp = .ok (.newarray .int, 2)) (h : Wb l D kA ro RM id A p e s m args below meth c n0 ad0 Z (bp + 2) ls ((2, (w.length : Int)) :: st) (w ++ [(1, n.toNat, [])]) (zeroM M w.length) (cn.1 + 1, cn.2 + n.toNat)) : Wb l D kA ro RM id A p e s m args below meth c n0 ad0 Z bp ls ((0, n) :: st) w M cn := by
  obtain ⟨hx, hb, hr, hlk, hml, hown, hnm, hts, hen, hK, hA⟩ := C
  intro ad H locs lsA a1 a2 a3 a4 a5 a6 a7
  have on : inI n := okS_hd a6
  have hM : ∀ (x : Int) j, x < w.length → zeroM M w.length x j = M x j := fun x j hx => if_neg (by omega)
  have hZ : ∀ (x : Int) j, (w.length : Int) ≤ x → zeroM M w.length x j = 0 ∨ zeroM M w.length x j = M x j := fun x j _ => zeroM_or ..
  have hnew : ∀ q : Nat, ([(1, n.toNat, [])] : Wd_).mapIdx (fun k x => (q, cC kA ro (adG ad w.length (fun _ => q)) (zeroM M w.length) ((w.length + k : Nat) : Int) x)) = [(q, .inl (kA 1, n.toNat, Sum.inl (fun _ => (0 : Int32))))] := by
    intro q
    rw [List.mapIdx_cons, List.mapIdx_nil]
    have ef : (fun j : Nat => Int32.ofInt (zeroM M w.length ((w.length + 0 : Nat) : Int) j)) = fun _ => 0 := funext fun j => by rw [show zeroM M w.length ((w.length + 0 : Nat) : Int) j = 0 from if_pos rfl]; rfl
    exact congrArg (fun f => ([(q, Sum.inl (kA 1, n.toNat, Sum.inl f))] : va_W)) ef
  refine va_newa (atype := .int) (ty := .int) hx hb (hts _ ac_int) rfl hK a3.1 a3.2.1 a3.2.2.1 hA (a0 := (n.toNat, Sum.inl (fun _ => (0 : Int32)))) (fun cA => rfl) (n := Int32.ofInt n) (by rw [show (0 : Int32) = Int32.ofInt 0 from rfl, i32_lt on in0]; omega) (clp_of on hn.1) (by show n.toNat * 4 ≤ 536870912; omega) hbud.1 hbud.2 hd (fun q cA H1 k1 p1 p2 p3 => ?_)
  have hcA : cA = kA 1 := kA_of (t := 1) hK (by omega) (k1.2 6 _ rfl).2
  subst hcA
  have := Wb_grow (qs := fun _ => q) h a1 a2 a3 a4 a5 (okS_tl a6) ⟨hbud.1, hbud.2⟩ hM hZ (cell1_ok (fun r hr => by cases hr) (by dsimp only; omega) (fun g => by dsimp only at g; omega) (by dsimp only; omega)) (show (w.length : Int) < _ by rw [List.length_append]; simp; omega) (by rw [hnew]; exact p1) (by rw [hnew]; exact p2) p3
  rw [cV_ref (by omega)] at this
  have e2 : adG ad w.length (fun _ => q) ((w.length : Int).toNat) = q := if_neg (by omega)
  rw [e2] at this
  exact this
theorem so_newa_l (C : Cx D kA ro RM id A p s m args meth c) {bp : Nat} {ls : Lc_} {st : List Vl_} {w : Wd_} {M : Mm_} {cn : Cn_} {n : Int} (hn : 0 ≤ n ∧ n ≤ 4000) (hbud : cn.1 + 1 ≤ mcOf id ∧ cn.2 + n.toNat ≤ msOf id) (hd : decode (byOf id) bp = .ok (.newarray .long, 2)) (h : Wb l D kA ro RM id A p e s m args below meth c n0 ad0 Z (bp + 2) ls ((2, (w.length : Int)) :: st) (w ++ [(2, n.toNat, [])]) (zeroM M w.length) (cn.1 + 1, cn.2 + n.toNat)) : Wb l D kA ro RM id A p e s m args below meth c n0 ad0 Z bp ls ((0, n) :: st) w M cn := by
  obtain ⟨hx, hb, hr, hlk, hml, hown, hnm, hts, hen, hK, hA⟩ := C
  intro ad H locs lsA a1 a2 a3 a4 a5 a6 a7
  have on : inI n := okS_hd a6
  have hM : ∀ (x : Int) j, x < w.length → zeroM M w.length x j = M x j := fun x j hx => if_neg (by omega)
  have hZ : ∀ (x : Int) j, (w.length : Int) ≤ x → zeroM M w.length x j = 0 ∨ zeroM M w.length x j = M x j := fun x j _ => zeroM_or ..
  have hnew : ∀ q : Nat, ([(2, n.toNat, [])] : Wd_).mapIdx (fun k x => (q, cC kA ro (adG ad w.length (fun _ => q)) (zeroM M w.length) ((w.length + k : Nat) : Int) x)) = [(q, .inl (kA 2, n.toNat, Sum.inr (Sum.inl (fun _ => (0 : Int64)))))] := by
    intro q
    rw [List.mapIdx_cons, List.mapIdx_nil]
    have ef : (fun j : Nat => Int64.ofInt (zeroM M w.length ((w.length + 0 : Nat) : Int) j)) = fun _ => 0 := funext fun j => by rw [show zeroM M w.length ((w.length + 0 : Nat) : Int) j = 0 from if_pos rfl]; rfl
    exact congrArg (fun f => ([(q, Sum.inl (kA 2, n.toNat, Sum.inr (Sum.inl f)))] : va_W)) ef
  refine va_newa (atype := .long) (ty := .long) hx hb (hts _ ac_long) rfl hK a3.1 a3.2.1 a3.2.2.1 hA (a0 := (n.toNat, Sum.inr (Sum.inl (fun _ => (0 : Int64))))) (fun cA => rfl) (n := Int32.ofInt n) (by rw [show (0 : Int32) = Int32.ofInt 0 from rfl, i32_lt on in0]; omega) (clp_of on hn.1) (by show n.toNat * 8 ≤ 536870912; omega) hbud.1 hbud.2 hd (fun q cA H1 k1 p1 p2 p3 => ?_)
  have hcA : cA = kA 2 := kA_of (t := 2) hK (by omega) (k1.2 6 _ rfl).2
  subst hcA
  have := Wb_grow (qs := fun _ => q) h a1 a2 a3 a4 a5 (okS_tl a6) ⟨hbud.1, hbud.2⟩ hM hZ (cell1_ok (fun r hr => by cases hr) (by dsimp only; omega) (fun g => by dsimp only at g; omega) (by dsimp only; omega)) (show (w.length : Int) < _ by rw [List.length_append]; simp; omega) (by rw [hnew]; exact p1) (by rw [hnew]; exact p2) p3
  rw [cV_ref (by omega)] at this
  have e2 : adG ad w.length (fun _ => q) ((w.length : Int).toNat) = q := if_neg (by omega)
  rw [e2] at this
  exact this
theorem so_newa_z (C : Cx D kA ro RM id A p s m args meth c) {bp : Nat} {ls : Lc_} {st : List Vl_} {w : Wd_} {M : Mm_} {cn : Cn_} {n : Int} (hn : 0 ≤ n ∧ n ≤ 4000) (hbud : cn.1 + 1 ≤ mcOf id ∧ cn.2 + n.toNat ≤ msOf id) (hd : decode (byOf id) bp = .ok (.newarray .boolean, 2)) (h : Wb l D kA ro RM id A p e s m args below meth c n0 ad0 Z (bp + 2) ls ((2, (w.length : Int)) :: st) (w ++ [(3, n.toNat, [])]) (zeroM M w.length) (cn.1 + 1, cn.2 + n.toNat)) : Wb l D kA ro RM id A p e s m args below meth c n0 ad0 Z bp ls ((0, n) :: st) w M cn := by
  obtain ⟨hx, hb, hr, hlk, hml, hown, hnm, hts, hen, hK, hA⟩ := C
  intro ad H locs lsA a1 a2 a3 a4 a5 a6 a7
  have on : inI n := okS_hd a6
  have hM : ∀ (x : Int) j, x < w.length → zeroM M w.length x j = M x j := fun x j hx => if_neg (by omega)
  have hZ : ∀ (x : Int) j, (w.length : Int) ≤ x → zeroM M w.length x j = 0 ∨ zeroM M w.length x j = M x j := fun x j _ => zeroM_or ..
  have hnew : ∀ q : Nat, ([(3, n.toNat, [])] : Wd_).mapIdx (fun k x => (q, cC kA ro (adG ad w.length (fun _ => q)) (zeroM M w.length) ((w.length + k : Nat) : Int) x)) = [(q, .inl (kA 3, n.toNat, Sum.inl (fun _ => (0 : Int32))))] := by
    intro q
    rw [List.mapIdx_cons, List.mapIdx_nil]
    have ef : (fun j : Nat => Int32.ofInt (zeroM M w.length ((w.length + 0 : Nat) : Int) j)) = fun _ => 0 := funext fun j => by rw [show zeroM M w.length ((w.length + 0 : Nat) : Int) j = 0 from if_pos rfl]; rfl
    exact congrArg (fun f => ([(q, Sum.inl (kA 3, n.toNat, Sum.inl f))] : va_W)) ef
  refine va_newa (atype := .boolean) (ty := .boolean) hx hb (hts _ ac_boolean) rfl hK a3.1 a3.2.1 a3.2.2.1 hA (a0 := (n.toNat, Sum.inl (fun _ => (0 : Int32)))) (fun cA => rfl) (n := Int32.ofInt n) (by rw [show (0 : Int32) = Int32.ofInt 0 from rfl, i32_lt on in0]; omega) (clp_of on hn.1) (by show n.toNat * 1 ≤ 536870912; omega) hbud.1 hbud.2 hd (fun q cA H1 k1 p1 p2 p3 => ?_)
  have hcA : cA = kA 3 := kA_of (t := 3) hK (by omega) (k1.2 6 _ rfl).2
  subst hcA
  have := Wb_grow (qs := fun _ => q) h a1 a2 a3 a4 a5 (okS_tl a6) ⟨hbud.1, hbud.2⟩ hM hZ (cell1_ok (fun r hr => by cases hr) (by dsimp only; omega) (fun g => by dsimp only at g; omega) (by dsimp only; omega)) (show (w.length : Int) < _ by rw [List.length_append]; simp; omega) (by rw [hnew]; exact p1) (by rw [hnew]; exact p2) p3
  rw [cV_ref (by omega)] at this
  have e2 : adG ad w.length (fun _ => q) ((w.length : Int).toNat) = q := if_neg (by omega)
  rw [e2] at this
  exact this
theorem so_anewa (C : Cx D kA ro RM id A p s m args meth c) {bp : Nat} {ls : Lc_} {st : List Vl_} {w : Wd_} {M : Mm_} {cn : Cn_} {n : Int} {i : Nat} (hl : (ownOf id, i, 0) ∈ clL) (hn : 0 ≤ n ∧ n ≤ 4000) (hbud : cn.1 + 1 ≤ mcOf id ∧ cn.2 + n.toNat ≤ msOf id) (hd : decode (byOf id) bp = .ok (.anewarray i, 3)) (h : Wb l D kA ro RM id A p e s m args below meth c n0 ad0 Z (bp + 3) ls ((2, (w.length : Int)) :: st) (w ++ [(4, n.toNat, List.replicate n.toNat (-1))]) (zeroM M w.length) (cn.1 + 1, cn.2 + n.toNat)) : Wb l D kA ro RM id A p e s m args below meth c n0 ad0 Z bp ls ((0, n) :: st) w M cn := by
  obtain ⟨hx, hb, hr, hlk, hml, hown, hnm, hts, hen, hK, hA⟩ := C
  intro ad H locs lsA a1 a2 a3 a4 a5 a6 a7
  have on : inI n := okS_hd a6
  have hM : ∀ (x : Int) j, x < w.length → zeroM M w.length x j = M x j := fun x j hx => if_neg (by omega)
  have hZ : ∀ (x : Int) j, (w.length : Int) ≤ x → zeroM M w.length x j = 0 ∨ zeroM M w.length x j = M x j := fun x j _ => zeroM_or ..
  have hnew : ∀ q : Nat, ([(4, n.toNat, List.replicate n.toNat (-1))] : Wd_).mapIdx (fun k x => (q, cC kA ro (adG ad w.length (fun _ => q)) (zeroM M w.length) ((w.length + k : Nat) : Int) x)) = [(q, .inl (kA 4, n.toNat, .inr (.inr (.inr (.inr (fun _ => none))))))] := by
    intro q
    rw [List.mapIdx_cons, List.mapIdx_nil]
    have ef : cR ro (adG ad w.length (fun _ => q)) (List.replicate n.toNat (-1)) = fun _ => none := by
      funext j
      unfold cR
      rw [List.getElem?_replicate]
      split <;> rfl
    exact congrArg (fun f => ([(q, Sum.inl (kA 4, n.toNat, Sum.inr (Sum.inr (Sum.inr (Sum.inr f)))))] : va_W)) ef
  refine va_newq hx hb hown (hts _ (clL_ok _ hl)) hen.2.1 hK a3.1 a3.2.1 a3.2.2.1 hA (n := Int32.ofInt n) (by rw [show (0 : Int32) = Int32.ofInt 0 from rfl, i32_lt on in0]; omega) (clp_of on hn.1) (by omega) hbud.1 hbud.2 hd (fun q cA H1 k1 p1 p2 p3 => ?_)
  have hcA : cA = kA 4 := by
    obtain ⟨x1, x2, -, -, -, hf⟩ := (k1.2 6 _ rfl).2
    exact kA_of (t := 4) hK (by omega) hf
  subst hcA
  have := Wb_grow (qs := fun _ => q) h a1 a2 a3 a4 a5 (okS_tl a6) ⟨hbud.1, hbud.2⟩ hM hZ (cell1_ok (fun r hr => by have := List.eq_of_mem_replicate hr; omega) (by dsimp only; omega) (fun _ => List.length_replicate) (by dsimp only; omega)) (show (w.length : Int) < _ by rw [List.length_append]; simp; omega) (by rw [hnew]; exact p1) (by rw [hnew]; exact p2) p3
  rw [cV_ref (by omega)] at this
  have e2 : adG ad w.length (fun _ => q) ((w.length : Int).toNat) = q := if_neg (by omega)
  rw [e2] at this
  exact this
theorem outer_eq (c : ClassId) (N h0 : Nat) : ∀ i : Nat, Jvm.Free.Multi.outerC c N h0 i = arrV c N (fun j => va_rf (if j < i then some (h0 + 1 + j) else none))
  | 0 => by
    show ({ cls := c, slots := Array.replicate N .null, vm := .none } : Cell) = _
    rw [arrV_new]
    refine congrArg (arrV c N) (funext fun j => ?_)
    simp [va_rf]
  | i + 1 => by
    show (Jvm.Free.Multi.outerC c N h0 i).setSlot i (.ref (h0 + 1 + i)) = _
    rw [outer_eq c N h0 i, arrV_store]
    refine congrArg (arrV c N) (funext fun j => ?_)
    by_cases e : j = i
    · subst e
      simp [updV, va_rf]
    · by_cases h : j < i
      · simp [updV, e, h, Nat.lt_succ_of_lt h]
      · simp [updV, e, h, show ¬ j < i + 1 by omega]
theorem so_mna_int (C : Cx D kA ro RM id A p s m args meth c) {bp : Nat} {ls : Lc_} {st : List Vl_} {w : Wd_} {M : Mm_} {cn : Cn_} {n k : Int} {i : Nat} (hl : (ownOf id, i, 5) ∈ cmL) (hn : 0 ≤ n ∧ n ≤ 4000 ∧ 0 ≤ k ∧ k ≤ 4000) (hbud : cn.1 + (1 + n.toNat) ≤ mcOf id ∧ cn.2 + (n.toNat + n.toNat * k.toNat) ≤ msOf id) (hd : decode (byOf id) bp = .ok (.multianewarray i 2, 4)) (h : Wb l D kA ro RM id A p e s m args below meth c n0 ad0 Z (bp + 4) ls ((2, (w.length : Int)) :: st) (w ++ ((5, n.toNat, (List.range n.toNat).map (fun i : Nat => (w.length : Int) + 1 + (i : Int))) :: List.replicate n.toNat (1, k.toNat, []))) (fun x j => if (w.length : Int) ≤ x then 0 else M x j) (cn.1 + 1 + n.toNat, cn.2 + n.toNat + n.toNat * k.toNat)) : Wb l D kA ro RM id A p e s m args below meth c n0 ad0 Z bp ls ((0, k) :: (0, n) :: st) w M cn := by
  obtain ⟨hx, hb, hr, hlk, hml, hown, hnm, hts, hen, hK, hA⟩ := C
  intro ad H locs lsA a1 a2 a3 a4 a5 a6 a7
  have ok : inI k := okS_hd a6
  have on : inI n := okS_hd (okS_tl a6)
  have en : (Int32.ofInt n).toNatClampNeg = n.toNat := clp_of on hn.1
  have ek : (Int32.ofInt k).toNatClampNeg = k.toNat := clp_of ok hn.2.2.1
  intro T hT X
  obtain ⟨vm₁, cA, comp, -, fA, fC, hO, -, X', step⟩ := X.multianewarray2F hx (ty := .int) hown (hts _ (cmL_ok _ hl)) hen.2.2.1 (hts _ ac_int) (g := F0 m bp lsA (.int (Int32.ofInt k) :: .int (Int32.ofInt n) :: st.map (cV ro ad))) rfl (by rw [hb]; exact hd) rfl (by rw [show (0 : Int32) = Int32.ofInt 0 from rfl, i32_lt on in0]; omega) (by rw [show (0 : Int32) = Int32.ofInt 0 from rfl, i32_lt ok in0]; omega) (by rw [en]; omega) (by rw [ek]; show k.toNat * 4 ≤ _; omega) (by rw [ek]; omega) rfl rfl (by rw [en]; exact hbud.1) (by rw [en, ek]; exact hbud.2)
  have hcA : cA = kA 5 := kA_of (t := 5) hK (by omega) fA
  have hcB : comp = kA 1 := kA_of (t := 1) hK (by omega) fC
  subst hcA
  subst hcB
  rw [en, ek] at X' step
  generalize hF : Jvm.Free.Multi.fill (T.setVm vm₁) (kA 5) (kA 1) n.toNat k.toNat (defaultValue .int) n.toNat = F at X' step
  have hTh : (T.setVm vm₁).heap = H := hT
  obtain ⟨f1, f2, -, -⟩ := Jvm.Free.Multi.fill_facts (T.setVm vm₁) (kA 5) (kA 1) n.toNat k.toNat (defaultValue .int) n.toNat
  rw [hF, hTh] at f1 f2
  have hold : ∀ x : Nat, x < H.size → F.heap[x]? = H[x]? := fun x hx => by
    have := Jvm.Free.Multi.fill_old (T.setVm vm₁) (kA 5) (kA 1) n.toNat k.toNat (defaultValue .int) (a := x) (by rw [hTh]; exact hx) n.toNat
    rw [hF, hTh] at this
    exact this
  have hrow : ∀ j : Nat, j < n.toNat → F.heap[H.size + 1 + j]? = some (Jvm.Free.Multi.innerC (kA 1) k.toNat (defaultValue .int)) := fun j hj => by
    have := Jvm.Free.Multi.fill_inner (T.setVm vm₁) (kA 5) (kA 1) n.toNat k.toNat (defaultValue .int) n.toNat j hj
    rw [hF, hTh] at this
    exact this
  rw [outer_eq] at f2
  have hM : ∀ (x : Int) j, x < w.length → (fun (x j : Int) => if (w.length : Int) ≤ x then 0 else M x j) x j = M x j := fun x j hx => if_neg (by omega)
  have hZ : ∀ (x : Int) j, (w.length : Int) ≤ x → (fun (x j : Int) => if (w.length : Int) ≤ x then 0 else M x j) x j = 0 ∨ (fun (x j : Int) => if (w.length : Int) ≤ x then 0 else M x j) x j = M x j := fun x j hx => Or.inl (if_pos hx)
  generalize hcs : (((5, n.toNat, (List.range n.toNat).map (fun i : Nat => (w.length : Int) + 1 + (i : Int))) :: List.replicate n.toNat (1, k.toNat, [])) : Wd_) = cs at h
  have hcl : cs.length = n.toNat + 1 := by rw [← hcs, List.length_cons, List.length_replicate]
  have hcat : ∀ j x, cs[j]? = some x → (j = 0 ∧ x = (5, n.toNat, (List.range n.toNat).map (fun i : Nat => (w.length : Int) + 1 + (i : Int)))) ∨ (∃ i, j = i + 1 ∧ i < n.toNat ∧ x = (1, k.toNat, [])) := by
    intro j x hj
    rw [← hcs] at hj
    cases j with
    | zero => rw [List.getElem?_cons_zero] at hj; exact Or.inl ⟨rfl, (Option.some.inj hj).symm⟩
    | succ i =>
      rw [List.getElem?_cons_succ, List.getElem?_replicate] at hj
      split at hj
      · exact Or.inr ⟨i, rfl, by assumption, (Option.some.inj hj).symm⟩
      · cases hj
  have hcok : ∀ x ∈ cs, (∀ r ∈ x.2.2, r < ((w ++ cs).length : Int)) ∧ (x.1 = 0 → x.2.1 < cls_.length ∧ x.2.2.length = nF x.2.1) ∧ (4 ≤ x.1 → x.2.2.length = x.2.1) ∧ x.1 ≤ 6 := by
    intro x hx
    obtain ⟨j, hj⟩ := List.getElem?_of_mem hx
    rcases hcat j x hj with ⟨-, rfl⟩ | ⟨i2, -, hi2, rfl⟩
    · refine ⟨fun r hr => ?_, fun g => by dsimp only at g; omega, fun _ => by dsimp only; rw [List.length_map, List.length_range], by dsimp only; omega⟩
      obtain ⟨i3, h3, rfl⟩ := List.mem_map.mp hr
      have := List.mem_range.mp h3
      rw [List.length_append, hcl]
      omega
    · exact ⟨fun r hr => (by cases hr), fun g => by dsimp only at g; omega, fun g => by dsimp only at g; omega, by dsimp only; omega⟩
  have hlt : ∀ (j : Nat) (y : Nat × va_E), (cW kA ro ad w M)[j]? = some y → y.1 < H.size := fun j y hy => (a3.1 j y hy).lt
  have hnew : ∀ (j : Nat) (y : Nat × va_E), (cs.mapIdx (fun k x => (H.size + k, cC kA ro (adG ad w.length (fun j => H.size + j)) (fun (x j : Int) => if (w.length : Int) ≤ x then 0 else M x j) ((w.length + k : Nat) : Int) x)))[j]? = some y → y.1 = H.size + j ∧ j < n.toNat + 1 ∧ va_at D cls_ y F.heap := by
    intro j y hy
    rw [List.getElem?_mapIdx] at hy
    cases hj : cs[j]? with
    | none => rw [hj] at hy; cases hy
    | some x =>
      rw [hj] at hy
      simp only [Option.map_some, Option.some.injEq] at hy
      subst hy
      refine ⟨rfl, by rw [← hcl]; exact (List.getElem?_eq_some_iff.mp hj).1, ?_⟩
      rcases hcat j x hj with ⟨rfl, rfl⟩ | ⟨i2, rfl, hi2, rfl⟩
      · show F.heap[H.size + 0]? = some (vp_cell (kA 5) (n.toNat, .inr (.inr (.inr (.inr (cR ro (adG ad w.length (fun j => H.size + j)) ((List.range n.toNat).map (fun i : Nat => (w.length : Int) + 1 + (i : Int)))))))))
        rw [Nat.add_zero, f2, vp_cell_q]
        refine congrArg (fun f => some (arrV (kA 5) n.toNat f)) (funext fun j => congrArg va_rf ?_)
        unfold cR
        rw [List.getElem?_map]
        by_cases hj2 : j < n.toNat
        · rw [if_pos hj2, List.getElem?_range hj2]
          show some (H.size + 1 + j) = adr ro _ ((w.length : Int) + 1 + (j : Int))
          unfold adr adG
          rw [if_neg (by omega), if_neg (by omega)]
          exact congrArg some (by dsimp only; omega)
        · rw [if_neg hj2, List.getElem?_eq_none (by rw [List.length_range]; omega)]
          rfl
      · show F.heap[H.size + (i2 + 1)]? = some (vp_cell (kA 1) (k.toNat, Sum.inl (fun j : Nat => Int32.ofInt (if (w.length : Int) ≤ ((w.length + (i2 + 1) : Nat) : Int) then 0 else M ((w.length + (i2 + 1) : Nat) : Int) j))))
        rw [show H.size + (i2 + 1) = H.size + 1 + i2 by omega, hrow i2 hi2]
        have ef : (fun j : Nat => Int32.ofInt (if (w.length : Int) ≤ ((w.length + (i2 + 1) : Nat) : Int) then 0 else M ((w.length + (i2 + 1) : Nat) : Int) j)) = fun _ => 0 := funext fun j => by rw [if_pos (by omega)]; rfl
        rw [ef]
        refine congrArg some ?_
        show ({ cls := kA 1, slots := Array.replicate k.toNat (defaultValue .int), vm := .none } : Cell) = _
        rw [arrV_new]
        rfl
  have hP : va_P D cls_ (cW kA ro ad w M ++ cs.mapIdx (fun k x => (H.size + k, cC kA ro (adG ad w.length (fun j => H.size + j)) (fun (x j : Int) => if (w.length : Int) ≤ x then 0 else M x j) ((w.length + k : Nat) : Int) x))) F.heap := by
    intro j y hy
    rw [List.getElem?_append] at hy
    split at hy
    · exact (a3.1 j y hy).kept (hold _ (hlt j y hy))
    · exact (hnew _ y hy).2.2
  have hD : va_D A (cW kA ro ad w M ++ cs.mapIdx (fun k x => (H.size + k, cC kA ro (adG ad w.length (fun j => H.size + j)) (fun (x j : Int) => if (w.length : Int) ≤ x then 0 else M x j) ((w.length + k : Nat) : Int) x))) := by
    refine ⟨fun i j x y hi hj hxy => ?_, fun j y hy => ?_⟩
    · rw [List.getElem?_append] at hi hj
      split at hi <;> split at hj
      · exact a3.2.1.1 i j x y hi hj hxy
      · have q1 := hlt i x hi
        have q2 := (hnew _ y hj).1
        omega
      · have q1 := hlt j y hj
        have q2 := (hnew _ x hi).1
        omega
      · have q1 := (hnew _ x hi).1
        have q2 := (hnew _ y hj).1
        omega
    · rw [List.getElem?_append] at hy
      split at hy
      · exact a3.2.1.2 j y hy
      · have q2 := (hnew _ y hy).1
        exact hA _ (by have := a3.2.2.1.1; omega)
  have hS : va_S A s.heap F.heap locs := ⟨by have := a3.2.2.1.1; omega, fun q hq hn => (hold q (by have := a3.2.2.1.1; omega)).trans (a3.2.2.1.2.1 q hq hn), a3.2.2.1.2.2⟩
  have hk := Wb_grow (qs := fun j => H.size + j) h a1 a2 a3 a4 a5 (okS_tl (okS_tl a6)) ⟨by have := hbud.1; dsimp only; omega, by have := hbud.2; dsimp only; omega⟩ hM hZ hcok (show (w.length : Int) < _ by rw [List.length_append, hcl]; omega) hP hD hS
  rw [cV_ref (by omega)] at hk
  have e2 : adG ad w.length (fun j => H.size + j) ((w.length : Int).toNat) = H.size := by
    unfold adG
    rw [if_neg (by omega)]
    dsimp only
    omega
  rw [e2] at hk
  obtain ⟨t, b1, b2⟩ := hk F rfl X'
  exact ⟨t, step t (by rw [hT]; exact b1), b2⟩
theorem so_mna_long (C : Cx D kA ro RM id A p s m args meth c) {bp : Nat} {ls : Lc_} {st : List Vl_} {w : Wd_} {M : Mm_} {cn : Cn_} {n k : Int} {i : Nat} (hl : (ownOf id, i, 6) ∈ cmL) (hn : 0 ≤ n ∧ n ≤ 4000 ∧ 0 ≤ k ∧ k ≤ 4000) (hbud : cn.1 + (1 + n.toNat) ≤ mcOf id ∧ cn.2 + (n.toNat + n.toNat * k.toNat) ≤ msOf id) (hd : decode (byOf id) bp = .ok (.multianewarray i 2, 4)) (h : Wb l D kA ro RM id A p e s m args below meth c n0 ad0 Z (bp + 4) ls ((2, (w.length : Int)) :: st) (w ++ ((6, n.toNat, (List.range n.toNat).map (fun i : Nat => (w.length : Int) + 1 + (i : Int))) :: List.replicate n.toNat (2, k.toNat, []))) (fun x j => if (w.length : Int) ≤ x then 0 else M x j) (cn.1 + 1 + n.toNat, cn.2 + n.toNat + n.toNat * k.toNat)) : Wb l D kA ro RM id A p e s m args below meth c n0 ad0 Z bp ls ((0, k) :: (0, n) :: st) w M cn := by
  obtain ⟨hx, hb, hr, hlk, hml, hown, hnm, hts, hen, hK, hA⟩ := C
  intro ad H locs lsA a1 a2 a3 a4 a5 a6 a7
  have ok : inI k := okS_hd a6
  have on : inI n := okS_hd (okS_tl a6)
  have en : (Int32.ofInt n).toNatClampNeg = n.toNat := clp_of on hn.1
  have ek : (Int32.ofInt k).toNatClampNeg = k.toNat := clp_of ok hn.2.2.1
  intro T hT X
  obtain ⟨vm₁, cA, comp, -, fA, fC, hO, -, X', step⟩ := X.multianewarray2F hx (ty := .long) hown (hts _ (cmL_ok _ hl)) hen.2.2.2.1 (hts _ ac_long) (g := F0 m bp lsA (.int (Int32.ofInt k) :: .int (Int32.ofInt n) :: st.map (cV ro ad))) rfl (by rw [hb]; exact hd) rfl (by rw [show (0 : Int32) = Int32.ofInt 0 from rfl, i32_lt on in0]; omega) (by rw [show (0 : Int32) = Int32.ofInt 0 from rfl, i32_lt ok in0]; omega) (by rw [en]; omega) (by rw [ek]; show k.toNat * 8 ≤ _; omega) (by rw [ek]; omega) rfl rfl (by rw [en]; exact hbud.1) (by rw [en, ek]; exact hbud.2)
  have hcA : cA = kA 6 := kA_of (t := 6) hK (by omega) fA
  have hcB : comp = kA 2 := kA_of (t := 2) hK (by omega) fC
  subst hcA
  subst hcB
  rw [en, ek] at X' step
  generalize hF : Jvm.Free.Multi.fill (T.setVm vm₁) (kA 6) (kA 2) n.toNat k.toNat (defaultValue .long) n.toNat = F at X' step
  have hTh : (T.setVm vm₁).heap = H := hT
  obtain ⟨f1, f2, -, -⟩ := Jvm.Free.Multi.fill_facts (T.setVm vm₁) (kA 6) (kA 2) n.toNat k.toNat (defaultValue .long) n.toNat
  rw [hF, hTh] at f1 f2
  have hold : ∀ x : Nat, x < H.size → F.heap[x]? = H[x]? := fun x hx => by
    have := Jvm.Free.Multi.fill_old (T.setVm vm₁) (kA 6) (kA 2) n.toNat k.toNat (defaultValue .long) (a := x) (by rw [hTh]; exact hx) n.toNat
    rw [hF, hTh] at this
    exact this
  have hrow : ∀ j : Nat, j < n.toNat → F.heap[H.size + 1 + j]? = some (Jvm.Free.Multi.innerC (kA 2) k.toNat (defaultValue .long)) := fun j hj => by
    have := Jvm.Free.Multi.fill_inner (T.setVm vm₁) (kA 6) (kA 2) n.toNat k.toNat (defaultValue .long) n.toNat j hj
    rw [hF, hTh] at this
    exact this
  rw [outer_eq] at f2
  have hM : ∀ (x : Int) j, x < w.length → (fun (x j : Int) => if (w.length : Int) ≤ x then 0 else M x j) x j = M x j := fun x j hx => if_neg (by omega)
  have hZ : ∀ (x : Int) j, (w.length : Int) ≤ x → (fun (x j : Int) => if (w.length : Int) ≤ x then 0 else M x j) x j = 0 ∨ (fun (x j : Int) => if (w.length : Int) ≤ x then 0 else M x j) x j = M x j := fun x j hx => Or.inl (if_pos hx)
  generalize hcs : (((6, n.toNat, (List.range n.toNat).map (fun i : Nat => (w.length : Int) + 1 + (i : Int))) :: List.replicate n.toNat (2, k.toNat, [])) : Wd_) = cs at h
  have hcl : cs.length = n.toNat + 1 := by rw [← hcs, List.length_cons, List.length_replicate]
  have hcat : ∀ j x, cs[j]? = some x → (j = 0 ∧ x = (6, n.toNat, (List.range n.toNat).map (fun i : Nat => (w.length : Int) + 1 + (i : Int)))) ∨ (∃ i, j = i + 1 ∧ i < n.toNat ∧ x = (2, k.toNat, [])) := by
    intro j x hj
    rw [← hcs] at hj
    cases j with
    | zero => rw [List.getElem?_cons_zero] at hj; exact Or.inl ⟨rfl, (Option.some.inj hj).symm⟩
    | succ i =>
      rw [List.getElem?_cons_succ, List.getElem?_replicate] at hj
      split at hj
      · exact Or.inr ⟨i, rfl, by assumption, (Option.some.inj hj).symm⟩
      · cases hj
  have hcok : ∀ x ∈ cs, (∀ r ∈ x.2.2, r < ((w ++ cs).length : Int)) ∧ (x.1 = 0 → x.2.1 < cls_.length ∧ x.2.2.length = nF x.2.1) ∧ (4 ≤ x.1 → x.2.2.length = x.2.1) ∧ x.1 ≤ 6 := by
    intro x hx
    obtain ⟨j, hj⟩ := List.getElem?_of_mem hx
    rcases hcat j x hj with ⟨-, rfl⟩ | ⟨i2, -, hi2, rfl⟩
    · refine ⟨fun r hr => ?_, fun g => by dsimp only at g; omega, fun _ => by dsimp only; rw [List.length_map, List.length_range], by dsimp only; omega⟩
      obtain ⟨i3, h3, rfl⟩ := List.mem_map.mp hr
      have := List.mem_range.mp h3
      rw [List.length_append, hcl]
      omega
    · exact ⟨fun r hr => (by cases hr), fun g => by dsimp only at g; omega, fun g => by dsimp only at g; omega, by dsimp only; omega⟩
  have hlt : ∀ (j : Nat) (y : Nat × va_E), (cW kA ro ad w M)[j]? = some y → y.1 < H.size := fun j y hy => (a3.1 j y hy).lt
  have hnew : ∀ (j : Nat) (y : Nat × va_E), (cs.mapIdx (fun k x => (H.size + k, cC kA ro (adG ad w.length (fun j => H.size + j)) (fun (x j : Int) => if (w.length : Int) ≤ x then 0 else M x j) ((w.length + k : Nat) : Int) x)))[j]? = some y → y.1 = H.size + j ∧ j < n.toNat + 1 ∧ va_at D cls_ y F.heap := by
    intro j y hy
    rw [List.getElem?_mapIdx] at hy
    cases hj : cs[j]? with
    | none => rw [hj] at hy; cases hy
    | some x =>
      rw [hj] at hy
      simp only [Option.map_some, Option.some.injEq] at hy
      subst hy
      refine ⟨rfl, by rw [← hcl]; exact (List.getElem?_eq_some_iff.mp hj).1, ?_⟩
      rcases hcat j x hj with ⟨rfl, rfl⟩ | ⟨i2, rfl, hi2, rfl⟩
      · show F.heap[H.size + 0]? = some (vp_cell (kA 6) (n.toNat, .inr (.inr (.inr (.inr (cR ro (adG ad w.length (fun j => H.size + j)) ((List.range n.toNat).map (fun i : Nat => (w.length : Int) + 1 + (i : Int)))))))))
        rw [Nat.add_zero, f2, vp_cell_q]
        refine congrArg (fun f => some (arrV (kA 6) n.toNat f)) (funext fun j => congrArg va_rf ?_)
        unfold cR
        rw [List.getElem?_map]
        by_cases hj2 : j < n.toNat
        · rw [if_pos hj2, List.getElem?_range hj2]
          show some (H.size + 1 + j) = adr ro _ ((w.length : Int) + 1 + (j : Int))
          unfold adr adG
          rw [if_neg (by omega), if_neg (by omega)]
          exact congrArg some (by dsimp only; omega)
        · rw [if_neg hj2, List.getElem?_eq_none (by rw [List.length_range]; omega)]
          rfl
      · show F.heap[H.size + (i2 + 1)]? = some (vp_cell (kA 2) (k.toNat, Sum.inr (Sum.inl (fun j : Nat => Int64.ofInt (if (w.length : Int) ≤ ((w.length + (i2 + 1) : Nat) : Int) then 0 else M ((w.length + (i2 + 1) : Nat) : Int) j)))))
        rw [show H.size + (i2 + 1) = H.size + 1 + i2 by omega, hrow i2 hi2]
        have ef : (fun j : Nat => Int64.ofInt (if (w.length : Int) ≤ ((w.length + (i2 + 1) : Nat) : Int) then 0 else M ((w.length + (i2 + 1) : Nat) : Int) j)) = fun _ => 0 := funext fun j => by rw [if_pos (by omega)]; rfl
        rw [ef]
        refine congrArg some ?_
        show ({ cls := kA 2, slots := Array.replicate k.toNat (defaultValue .long), vm := .none } : Cell) = _
        rw [arrV_new]
        rfl
  have hP : va_P D cls_ (cW kA ro ad w M ++ cs.mapIdx (fun k x => (H.size + k, cC kA ro (adG ad w.length (fun j => H.size + j)) (fun (x j : Int) => if (w.length : Int) ≤ x then 0 else M x j) ((w.length + k : Nat) : Int) x))) F.heap := by
    intro j y hy
    rw [List.getElem?_append] at hy
    split at hy
    · exact (a3.1 j y hy).kept (hold _ (hlt j y hy))
    · exact (hnew _ y hy).2.2
  have hD : va_D A (cW kA ro ad w M ++ cs.mapIdx (fun k x => (H.size + k, cC kA ro (adG ad w.length (fun j => H.size + j)) (fun (x j : Int) => if (w.length : Int) ≤ x then 0 else M x j) ((w.length + k : Nat) : Int) x))) := by
    refine ⟨fun i j x y hi hj hxy => ?_, fun j y hy => ?_⟩
    · rw [List.getElem?_append] at hi hj
      split at hi <;> split at hj
      · exact a3.2.1.1 i j x y hi hj hxy
      · have q1 := hlt i x hi
        have q2 := (hnew _ y hj).1
        omega
      · have q1 := hlt j y hj
        have q2 := (hnew _ x hi).1
        omega
      · have q1 := (hnew _ x hi).1
        have q2 := (hnew _ y hj).1
        omega
    · rw [List.getElem?_append] at hy
      split at hy
      · exact a3.2.1.2 j y hy
      · have q2 := (hnew _ y hy).1
        exact hA _ (by have := a3.2.2.1.1; omega)
  have hS : va_S A s.heap F.heap locs := ⟨by have := a3.2.2.1.1; omega, fun q hq hn => (hold q (by have := a3.2.2.1.1; omega)).trans (a3.2.2.1.2.1 q hq hn), a3.2.2.1.2.2⟩
  have hk := Wb_grow (qs := fun j => H.size + j) h a1 a2 a3 a4 a5 (okS_tl (okS_tl a6)) ⟨by have := hbud.1; dsimp only; omega, by have := hbud.2; dsimp only; omega⟩ hM hZ hcok (show (w.length : Int) < _ by rw [List.length_append, hcl]; omega) hP hD hS
  rw [cV_ref (by omega)] at hk
  have e2 : adG ad w.length (fun j => H.size + j) ((w.length : Int).toNat) = H.size := by
    unfold adG
    rw [if_neg (by omega)]
    dsimp only
    omega
  rw [e2] at hk
  obtain ⟨t, b1, b2⟩ := hk F rfl X'
  exact ⟨t, step t (by rw [hT]; exact b1), b2⟩
end SN8
end
section
section SN9
variable {l : Launch} {D : va_G} {kA : Nat → ClassId} {ro : Int → Option Nat} {RM : Mm_}
theorem first0 : mkL.all (fun id => decide (((codeOf id)[0]?).map (fun e => e.2.1) = some 0)) = true := by decide +kernel
theorem first_at {id : Nat} (h : id ∈ mkL) : ∃ e0, (codeOf id)[0]? = some e0 ∧ e0.2.1 = 0 := by
  have := of_decide_eq_true (List.all_eq_true.mp first0 id h)
  cases he : (codeOf id)[0]? with
  | none => rw [he] at this; cases this
  | some e0 =>
    rw [he] at this
    exact ⟨e0, rfl, Option.some.inj this⟩
def wsM (id : Nat) : List Jvm.Cond := Jvm.Cond.code (yOf id) (byOf id) (mxL id) (retOf id) :: GW
theorem GW_good {w : Jvm.Cond} (h : w ∈ GW) : goodWord w = true := (List.mem_filter.mp h).2
theorem wsM_good {id : Nat} (h : id ∈ mkL) : GoodIn GW (wsM id) := by
  intro w hw
  have hm : w ∈ GW := by
    rcases List.mem_cons.mp hw with e | e
    · rw [e]; exact (mkL_ok id h).1
    · exact e
  exact ⟨hm, good_of_word (GW_good hm)⟩
theorem argL_len : ∀ as : List Vl_, (argL as).length = catS as
  | [] => rfl
  | (0, x) :: as => by
    show (argL as).length + 1 = _
    rw [argL_len as]
    unfold catS
    rw [List.map_cons, List.sum_cons]
    show _ = 1 + _
    omega
  | (1, x) :: as => by
    show (argL as).length + 1 + 1 = _
    rw [argL_len as]
    unfold catS
    rw [List.map_cons, List.sum_cons]
    show _ = 2 + _
    omega
  | (t + 2, x) :: as => by
    show (argL as).length + 1 = _
    rw [argL_len as]
    unfold catS
    rw [List.map_cons, List.sum_cons]
    have e : catV (t + 2, x) = 1 := if_neg (by dsimp only; omega)
    rw [e]
    omega
theorem sl_len (ad : Nat → Nat) : ∀ as : List Vl_, (lg_sl (as.map (cV ro ad))).length = catS as
  | [] => rfl
  | v :: as => by
    have ih := sl_len ad as
    unfold lg_sl at ih ⊢
    rw [List.map_cons, List.flatMap_cons, List.length_append, ih]
    unfold catS
    rw [List.map_cons, List.sum_cons, cV_cat]
    unfold catV
    split <;> simp
theorem args_mem (ad : Nat → Nat) : ∀ (as : List Vl_) (k i : Nat) (v : Vl_), (argL as)[i]? = some (some v) → (k + i, cV ro ad v) ∈ lv_args k (as.map (cV ro ad))
  | [], _, i, _, h => by cases i <;> cases h
  | (0, x) :: as, k, i, v, h => by
    cases i with
    | zero =>
      have h : some (some ((0, x) : Vl_)) = some (some v) := h
      cases h
      exact List.mem_cons_self
    | succ i =>
      have h : (argL as)[i]? = some (some v) := h
      have := args_mem ad as (k + 1) i v h
      rw [show k + (i + 1) = k + 1 + i by omega]
      exact List.mem_cons_of_mem _ this
  | (1, x) :: as, k, i, v, h => by
    cases i with
    | zero =>
      have h : some (some ((1, x) : Vl_)) = some (some v) := h
      cases h
      exact List.mem_cons_self
    | succ i =>
      cases i with
      | zero => have h : some (none : Option Vl_) = some (some v) := h; cases h
      | succ i =>
        have h : (argL as)[i]? = some (some v) := h
        have := args_mem ad as (k + 2) i v h
        rw [show k + (i + 1 + 1) = k + 2 + i by omega]
        exact List.mem_cons_of_mem _ this
  | (t + 2, x) :: as, k, i, v, h => by
    cases i with
    | zero =>
      have h : some (some ((t + 2, x) : Vl_)) = some (some v) := h
      cases h
      exact List.mem_cons_self
    | succ i =>
      have h : (argL as)[i]? = some (some v) := h
      have := args_mem ad as (k + 1) i v h
      rw [show k + (i + 1) = k + 1 + i by omega]
      rw [List.map_cons]
      unfold lv_args
      rw [if_neg (by rw [cV_cat]; unfold catV; rw [if_neg (by dsimp only; omega)]; omega)]
      exact List.mem_cons_of_mem _ this
theorem ent_ok {w : Wd_} {as : List Vl_} {n : Nat} (h : ∀ v ∈ as, okV w v) : okL w (entL as n) := by
  intro i v hv
  unfold entL at hv
  rw [List.getElem?_append] at hv
  split at hv
  · have key : ∀ (as : List Vl_) (i : Nat), (argL as)[i]? = some (some v) → v ∈ as := by
      intro as i h
      have h1 := args_mem (ro := fun _ => none) (fun _ => 0) as 0 i v h
      clear h1
      induction as generalizing i with
      | nil => cases i <;> cases h
      | cons x as ih =>
        obtain ⟨t, x⟩ := x
        match t, i, h with
        | 0, 0, h => have h : some (some ((0, x) : Vl_)) = some (some v) := h; cases h; exact List.mem_cons_self
        | 0, i + 1, h => exact List.mem_cons_of_mem _ (ih i h)
        | 1, 0, h => have h : some (some ((1, x) : Vl_)) = some (some v) := h; cases h; exact List.mem_cons_self
        | 1, 1, h => have h : some (none : Option Vl_) = some (some v) := h; cases h
        | 1, i + 2, h => exact List.mem_cons_of_mem _ (ih i h)
        | t + 2, 0, h => have h : some (some ((t + 2, x) : Vl_)) = some (some v) := h; cases h; exact List.mem_cons_self
        | t + 2, i + 1, h => exact List.mem_cons_of_mem _ (ih i h)
    exact h v (key as i hv)
  · rw [List.getElem?_replicate] at hv
    split at hv
    · cases hv
    · cases hv
/-- what a method's contract takes -/
def PcP (D : va_G) (kA : Nat → ClassId) (ro : Int → Option Nat) (RM : Mm_) (ad : Nat → Nat) (as : List Vl_) (w : Wd_) (M : Mm_) (sz : Nat) : Array Value → State → Prop :=
  va_Pc (as.map (cV ro ad)) (fun U => U.heap.size = sz ∧ va_P D cls_ (cW kA ro ad w M) U.heap ∧ va_K D cls_ (TY kA) U ∧ va_D (fun _ => True) (cW kA ro ad w M) ∧ EN ro RM (va_A (cW kA ro ad w M) sz) U)
theorem met_of {id : Nat} (hid : id ∈ mkL) {as : List Vl_} {w : Wd_} {M : Mm_} {Q : Qp_} (h : Pm l D kA ro RM id 0 (entL as (mxL id)) [] w M (0, 0) Q) (hcat : catS as ≤ mxL id) (ad : Nat → Nat) (hok : ∀ v ∈ as, okV w v) (hWI : WI RM w M) (sz : Nat) :
    Met l (yOf id) (wsM id) (rmOf id) (PcP D kA ro RM ad as w M sz) (QcP D kA ro RM (va_A (cW kA ro ad w M) sz) w.length ad Q) (mcOf id) (msOf id) (va_A (cW kA ro ad w M) sz) := by
  obtain ⟨m1, m2, m3, m4, m5, m6⟩ := mkL_ok id hid
  refine Met.ofW (cc := byOf id) (maxL := mxL id) (ret := retOf id) m3 rfl ?_
  intro p e s m args below meth c s₁ B hml hv
  obtain ⟨rfl, hsz, hP, hK, hD0, hen⟩ := hv
  have hts := atoms_spec (ws := wsM id) B.pre
  have hown : s.vm.findClass (yOf id).cls = some m.cls := findClass_of_methodNamed B.named
  have hname : meth.name = (yOf id).name := (name_of_methodNamed B.named B.method).1
  subst hsz
  obtain ⟨e0, he0, hb0⟩ := first_at hid
  have hsl : (lg_sl (as.map (cV ro ad))).length = catS as := sl_len ad as
  have hl := lv_entry (as.map (cV ro ad)) (n := mxL id) (by rw [hsl]; exact hcat)
  rw [lg_entry_eq]
  generalize (lg_sl (as.map (cV ro ad)) ++ List.replicate (mxL id - (lg_sl (as.map (cV ro ad))).length) Slot.unset).toArray = lsA at hl ⊢
  have hlh : LH ro ad lsA (mxL id) (entL as (mxL id)) := by
    refine LH.of hl ?_ (fun i v hv => ?_)
    · show (argL as ++ List.replicate (mxL id - (argL as).length) none).length = mxL id
      rw [List.length_append, List.length_replicate, argL_len]
      omega
    · have hv : (argL as ++ List.replicate (mxL id - (argL as).length) none)[i]? = some (some v) := hv
      rw [List.getElem?_append] at hv
      split at hv
      · have := args_mem (ro := ro) ad as 0 i v hv
        rwa [Nat.zero_add] at this
      · rw [List.getElem?_replicate] at hv
        split at hv <;> cases hv
  have hk := h (va_A (cW kA ro ad w M) s.heap.size) p e s m _ below meth c w.length ad ⟨B.exec, B.bytes, B.returns, B.notSynchronized, hml, by rw [← m6]; exact hown, fun g => hname.trans g, fun w hw => hts w (List.mem_cons_of_mem _ hw), hen, hK, fun q hq => Or.inr hq⟩
    ad s.heap [] lsA e0 (Nat.le_refl _) (fun _ _ => rfl) ⟨hP, hD0.self, va_S.rf, hWI⟩ hlh (ent_ok hok) (fun _ h => by cases h) ⟨Nat.zero_le _, Nat.zero_le _⟩ he0
  rw [hb0] at hk
  exact hk
end SN9
end
section
section SNA
variable {l : Launch} {D : va_G} {kA : Nat → ClassId} {ro : Int → Option Nat} {RM : Mm_} {id : Nat} {A : Nat → Prop} {p : Program} {e : Env} {s : State} {m : MethodId} {args : Array Value} {below : List Frame} {meth : Method} {c : Code} {n0 : Nat} {ad0 : Nat → Nat} {Z : State → Prop}
theorem cV_ext {ad ad' : Nat → Nat} {w : Wd_} {v : Vl_} (h : ∀ i, i < w.length → ad' i = ad i) (hv : okV w v) : cV ro ad' v = cV ro ad v := by
  obtain ⟨t, x⟩ := v
  match t with
  | 0 => rfl
  | 1 => rfl
  | t + 2 =>
    show va_rf (adr ro ad' x) = va_rf (adr ro ad x)
    have hv : x < (w.length : Int) := hv
    unfold adr
    split
    · rfl
    · rw [h _ (by omega)]
theorem okV_le {w w' : Wd_} {v : Vl_} (h : w.length ≤ w'.length) (hv : okV w v) : okV w' v := by
  obtain ⟨t, x⟩ := v
  match t with
  | 0 => exact hv
  | 1 => exact hv
  | t + 2 =>
    show x < (w'.length : Int)
    have hv : x < (w.length : Int) := hv
    omega
/-- behind a call -/
theorem W_call {bp : Nat} {ls : Lc_} {st : List Vl_} {w : Wd_} {M : Mm_} {cn : Cn_} {mc ms : Nat} {st0 : List Value} {a0 : Array Value} {ad : Nat → Nat} {H : Heap} {locs : List Loc} {lsA : Array Slot} (hA : ∀ q : Nat, s.heap.size ≤ q → A q)
    (a1 : n0 ≤ w.length) (a2 : ∀ i, i < n0 → ad i = ad0 i) (a3 : Rl D kA ro RM A ad s.heap w M H locs) (a4 : LH ro ad lsA (mxL id) ls) (a5 : okL w ls) (a6 : okS w st) (a7 : cn.1 + mc ≤ mcOf id ∧ cn.2 + ms ≤ msOf id)
    (hr : va_Run p l e (rmOf id) s m args below meth c H locs cn.1 cn.2 mc ms (F0 m bp lsA st0) (st.map (cV ro ad)) (QcP D kA ro RM (va_A (cW kA ro ad w M) H.size) w.length ad (fun v w' M' => Wb l D kA ro RM id A p e s m args below meth c n0 ad0 Z (bp + 3) ls (v.toList ++ st) w' M' (cn.1 + mc, cn.2 + ms)) a0) (va_A (cW kA ro ad w M) H.size)) :
    W p l e (rmOf id) s m args below meth c H locs cn.1 cn.2 Z (F0 m bp lsA st0) := by
  have hf : ∀ q, va_A (cW kA ro ad w M) H.size q → A q := by
    rintro q (⟨k, y, hk⟩ | hq)
    · exact a3.2.1.2 k _ hk
    · exact hA q (Nat.le_trans a3.2.2.1.1 hq)
  intro T hT X
  obtain ⟨v, st₀, t, T', L, h0, X', hL, e1, e2, ⟨⟨v', w', M', ad', hv, hq, hok, hlen, had, hP1, hD1, hK1, hWI1⟩, hz, hk⟩, hst⟩ := hr T hT X
  have hv : v = v'.map (cV ro ad') := by injection hv
  rw [h0] at hz hk
  have hcv : ∀ x, okV w x → cV ro ad' x = cV ro ad x := fun x hx => cV_ext had hx
  have hS : va_S A s.heap T'.heap (locs ++ L) := ⟨Nat.le_trans a3.2.2.1.1 (by rw [e1]; exact hz), fun q h1 h2 => by rw [e1, hk q (Nat.lt_of_lt_of_le h1 a3.2.2.1.1) (fun z => h2 (hf q z))]; exact a3.2.2.1.2.1 q h1 h2, fun q hq => by
      rcases List.mem_append.mp hq with h | h
      · exact a3.2.2.1.2.2 q h
      · exact hf _ (hL q h)⟩
  have hLH : LH ro ad' lsA (mxL id) ls := ⟨a4.1, a4.2.1, a4.2.2.1, fun i x hx => by rw [hcv x (a5 i x hx)]; exact a4.2.2.2 i x hx⟩
  have hst2 : (v'.toList ++ st).map (cV ro ad') = v.toList ++ st.map (cV ro ad) := by
    rw [List.map_append, hv]
    congr 1
    · cases v' <;> rfl
    · exact List.map_congr_left fun x hx => hcv x (a6 x hx)
  have hgo := hq ad' T'.heap (locs ++ L) lsA (by omega) (fun i hi => (had i (by omega)).trans (a2 i hi)) ⟨by rw [e1]; exact hP1, hD1.weaken (fun _ _ _ h => hf _ h), hS, hWI1⟩ hLH (fun i x hx => okV_le hlen (a5 i x hx)) (fun x hx => by
      rcases List.mem_append.mp hx with h | h
      · exact hok x (Option.mem_toList.mp h)
      · exact okV_le hlen (a6 x h)) a7
  rw [hst2] at hgo
  obtain ⟨t2, b1, b2⟩ := hgo T' rfl X'
  exact ⟨t2, hst t2 b1, b2⟩
theorem PcP_blind {ad : Nat → Nat} {as : List Vl_} {w : Wd_} {M : Mm_} {sz : Nat} : FrameBlind (PcP D kA ro RM ad as w M sz) := by
  intro a U g mk q
  obtain ⟨q0, q1, qP, qK, qD, qE⟩ := q
  exact ⟨q0, q1, qP, va_K.moved (u := U) (U := U.calling g mk a) (Vm.Alike.refl U.vm) qK, qD, qE.same rfl rfl⟩
theorem PcP_in {ad : Nat → Nat} {as : List Vl_} {w : Wd_} {M : Mm_} {H : Heap} {locs : List Loc} (hA : ∀ q : Nat, s.heap.size ≤ q → A q) (hen : EN ro RM A s) (hK : va_K D cls_ (TY kA) s) (a3 : Rl D kA ro RM A ad s.heap w M H locs) : ∀ U : State, U.heap = H → s.WarmedH U.vm → PcP D kA ro RM ad as w M H.size (as.map (cV ro ad)).toArray U := by
  intro U hU hW
  have hf : ∀ q, va_A (cW kA ro ad w M) H.size q → A q := by
    rintro q (⟨k, y, hk⟩ | hq)
    · exact a3.2.1.2 k _ hk
    · exact hA q (Nat.le_trans a3.2.2.1.1 hq)
  refine ⟨rfl, by rw [hU], by rw [hU]; exact a3.1, va_K.moved hW.alike hK, a3.2.1.weaken (fun _ _ _ _ => trivial), hen.move hW (fun q h1 h2 => ?_) hf⟩
  rw [hU]
  exact a3.2.2.1.2.1 q h1 h2
theorem cat_room {ad : Nat → Nat} {st : List Vl_} (h : catS st ≤ 8) : ((st.map (cV ro ad)).map fun v => v.category).sum ≤ 8 := by
  rw [List.map_map]
  exact Nat.le_trans (Nat.le_of_eq (congrArg List.sum (List.map_congr_left fun v _ => cV_cat ro ad v))) h
theorem clOK_el {a mc ms MC MS : Nat} (h : clOK id a mc ms MC MS = true) : mcOf id = MC ∧ msOf id = MS ∧ a ∈ mkL ∧ mcOf a = mc ∧ msOf a = ms ∧ (rmT_ a).1 + 1 ≤ (rmT_ id).1 ∧ 8 + (mxL a + 11) + (rmT_ a).2.1 ≤ (rmT_ id).2.1 := by
  simp only [clOK, Bool.and_eq_true, decide_eq_true_eq] at h
  obtain ⟨⟨⟨⟨⟨⟨h1, h2⟩, h3⟩, h4⟩, h5⟩, h6⟩, h7⟩ := h
  exact ⟨h1, h2, h3, h4, h5, h6, h7⟩
theorem callB_mk {i a : Nat} (hts : ∀ w ∈ GW, w.before args s = true) (ha : a ∈ mkL) (h6 : (rmT_ a).1 + 1 ≤ (rmT_ id).1) (h7 : 8 + (mxL a + 11) + (rmT_ a).2.1 ≤ (rmT_ id).2.1) (hl : (ownOf id, i, a) ∈ mlL) : CallB (rmOf id) s args (owN (ownOf id)) i (yOf a) (byOf a) (mxL a) (retOf a) (wsM a) (rmOf a) (mcOf a) (msOf a) (npOf a) := by
  obtain ⟨m1, m2, m3, m4, m5, m6⟩ := mkL_ok a ha
  exact callB_of (npOf a) hts (wsM_good ha) rfl rfl rfl (hts _ m2) (hts _ (mlL_ok _ hl)) ⟨m4.1, m4.2, m5⟩ ⟨h6, h7⟩
theorem callN_mk {i a : Nat} (hts : ∀ w ∈ GW, w.before args s = true) (hen : EN ro RM A s) (ha : a ∈ mkL) (h6 : (rmT_ a).1 + 1 ≤ (rmT_ id).1) (h7 : 8 + (mxL a + 11) + (rmT_ a).2.1 ≤ (rmT_ id).2.1) (hl : (ownOf id, i, a) ∈ mnL) : va_CN (rmOf id) s args (owN (ownOf id)) i (yOf a) "BorrowedWords" (byOf a) (mxL a) (retOf a) (wsM a) (rmOf a) (mcOf a) (msOf a) (npOf a) := by
  obtain ⟨m1, m2, m3, m4, m5, m6⟩ := mkL_ok a ha
  exact va_cnB (npOf a) hts (wsM_good ha) rfl rfl rfl (hen.1 _ (mnL_ok _ hl)) (hts _ m2) ⟨m4.1, m4.2, m5⟩ ⟨h6, h7⟩
/-- a static call -/
theorem so_calls (C : Cx D kA ro RM id A p s m args meth c) {bp : Nat} {ls : Lc_} {st : List Vl_} {w : Wd_} {M : Mm_} {cn : Cn_} {i a : Nat} (hcl : clOK id a (mcOf a) (msOf a) (mcOf id) (msOf id) = true) (hst : a ∈ stL) (hl : (ownOf id, i, a) ∈ mlL) (hlen : npOf a ≤ st.length) (h8 : catS (st.drop (npOf a)) ≤ 8) (hmx : catS (st.take (npOf a)) ≤ mxL a) (hbud : cn.1 + mcOf a ≤ mcOf id ∧ cn.2 + msOf a ≤ msOf id)
    (hd : decode (byOf id) bp = .ok (.invokestatic i, 3)) (h : Pm l D kA ro RM a 0 (entL (st.take (npOf a)).reverse (mxL a)) [] w M (0, 0) (fun v w' M' => Wb l D kA ro RM id A p e s m args below meth c n0 ad0 Z (bp + 3) ls (v.toList ++ st.drop (npOf a)) w' M' (cn.1 + mcOf a, cn.2 + msOf a))) : Wb l D kA ro RM id A p e s m args below meth c n0 ad0 Z bp ls st w M cn := by
  obtain ⟨hx, hb, hr, hlk, hml, hown, hnm, hts, hen, hK, hA⟩ := C
  intro ad H locs lsA a1 a2 a3 a4 a5 a6 a7
  obtain ⟨-, -, ha, -, -, h6, h7⟩ := clOK_el hcl
  have hcr : catS (st.take (npOf a)).reverse ≤ mxL a := by
    unfold catS at hmx ⊢
    rw [List.map_reverse, List.sum_reverse]
    exact hmx
  have hM := met_of ha h hcr ad (fun v hv => a6 v (List.mem_of_mem_take (List.mem_reverse.mp hv))) a3.2.2.2 H.size
  refine W_call (st := st.drop (npOf a)) hA a1 a2 a3 a4 a5 (fun x hx => a6 x (List.mem_of_mem_drop hx)) hbud (st0 := st.map (cV ro ad)) (a0 := ((st.take (npOf a)).reverse.map (cV ro ad)).toArray) ?_
  exact va_runS (As := (st.take (npOf a)).reverse.map (cV ro ad)) (rest := (st.drop (npOf a)).map (cV ro ad)) ⟨hx, hb, hml, hown, hts⟩ hM ⟨callB_mk hts ha h6 h7 hl, hts _ (stL_ok _ hst)⟩ ⟨PcP_blind, PcP_in hA hen hK a3⟩ rfl (by rw [List.length_map, List.length_reverse, List.length_take]; omega) a4.1 (by
    show st.map (cV ro ad) = _
    rw [← List.map_reverse, List.reverse_reverse, ← List.map_append, List.take_append_drop]) (lv_room (cat_room h8)) hd hbud
/-- the receiver -/
theorem rcv_of {ad : Nat → Nat} {w : Wd_} {M : Mm_} {H : Heap} {locs : List Loc} {q : Int} {ci : Nat} (hen : EN ro RM A s) (hK : va_K D cls_ (TY kA) s) (a3 : Rl D kA ro RM A ad s.heap w M H locs) (h14 : ci < 14) (hob : obK w q = some ci) : ∃ b : Nat, cV ro ad (2, q) = .ref b ∧ ∃ cell : Cell, H[b]? = some cell ∧ cell.vm.isStatics = false ∧ s.vm.findClass (owN ci) = some cell.cls := by
  by_cases h13 : ci = 13
  · subst h13
    obtain ⟨q1, q2⟩ := obK_13 (fun i x hx h0 => ((a3.2.2.2.1 i x hx).2.1 h0).1) hob
    obtain ⟨ak, av, e1, -, e2, -, -, -⟩ := hen.2.2.2.2.1 q q1 q2
    exact ⟨ak, cV_ro (by omega) e1, va_Orecv e2 a3.2.2.1⟩
  · obtain ⟨h0, rs, hw⟩ := obK_el hob h13
    have hal : ci < cls_.length := ((a3.2.2.2.1 _ _ hw).2.1 rfl).1
    obtain ⟨r, hr2⟩ : ∃ r, cls_[ci]? = some r := ⟨cls_[ci], List.getElem?_eq_getElem hal⟩
    obtain ⟨k1, k2, k3, k4, k5, k6, k7⟩ := ck_ok ci r hr2
    refine ⟨ad q.toNat, cV_ref h0, ?_⟩
    rw [k7]
    exact va_recv hK a3.1 hr2 (cW_at hw)
theorem take_rev {ad : Nat → Nat} {st : List Vl_} {n : Nat} {q : Int} {b : Nat} {as : List Vl_} (h : (st.take (n + 1)).reverse = (2, q) :: as) (hb : cV ro ad (2, q) = .ref b) : st.map (cV ro ad) = (as.map (cV ro ad)).reverse ++ .ref b :: (st.drop (n + 1)).map (cV ro ad) := by
  have e : st.take (n + 1) = as.reverse ++ [(2, q)] := by
    have := congrArg List.reverse h
    rw [List.reverse_reverse, List.reverse_cons] at this
    exact this
  conv => lhs; rw [← List.take_append_drop (n + 1) st]
  rw [List.map_append, e, List.map_append, List.map_reverse, List.append_assoc, List.map_cons, List.map_nil, hb]
  rfl
/-- a call on an object -/
theorem so_callv (C : Cx D kA ro RM id A p s m args meth c) {bp : Nat} {ls : Lc_} {st as : List Vl_} {w : Wd_} {M : Mm_} {cn : Cn_} {i a ci : Nat} {q : Int} (hcl : clOK id a (mcOf a) (msOf a) (mcOf id) (msOf id) = true) (hvt : a ∈ vtL) (hown2 : owN ci = (yOf a).cls) (h14 : ci < 14) (hl : (ownOf id, i, a) ∈ mlL ∨ (ownOf id, i, a) ∈ mnL) (hrv : (st.take (npOf a + 1)).reverse = (2, q) :: as) (hlen : as.length = npOf a) (hob : obK w q = some ci) (h8 : catS (st.drop (npOf a + 1)) ≤ 8) (hmx : catS (st.take (npOf a + 1)) ≤ mxL a) (hbud : cn.1 + mcOf a ≤ mcOf id ∧ cn.2 + msOf a ≤ msOf id)
    (hd : decode (byOf id) bp = .ok (.invokevirtual i, 3)) (h : Pm l D kA ro RM a 0 (entL (st.take (npOf a + 1)).reverse (mxL a)) [] w M (0, 0) (fun v w' M' => Wb l D kA ro RM id A p e s m args below meth c n0 ad0 Z (bp + 3) ls (v.toList ++ st.drop (npOf a + 1)) w' M' (cn.1 + mcOf a, cn.2 + msOf a))) : Wb l D kA ro RM id A p e s m args below meth c n0 ad0 Z bp ls st w M cn := by
  obtain ⟨hx, hb, hr, hlk, hml, hown, hnm, hts, hen, hK, hA⟩ := C
  intro ad H locs lsA a1 a2 a3 a4 a5 a6 a7
  obtain ⟨-, -, ha, -, -, h6, h7⟩ := clOK_el hcl
  have hcr : catS (st.take (npOf a + 1)).reverse ≤ mxL a := by
    unfold catS at hmx ⊢
    rw [List.map_reverse, List.sum_reverse]
    exact hmx
  have hM := met_of ha h hcr ad (fun v hv => a6 v (List.mem_of_mem_take (List.mem_reverse.mp hv))) a3.2.2.2 H.size
  obtain ⟨b, hbq, hcell⟩ := rcv_of hen hK a3 h14 hob
  have hpin := PcP_in (as := (st.take (npOf a + 1)).reverse) hA hen hK a3
  rw [hrv] at hM hpin
  have e0 : ((2, q) :: as).map (cV ro ad) = .ref b :: as.map (cV ro ad) := by rw [List.map_cons, hbq]
  rw [e0] at hpin
  rw [hown2] at hcell
  obtain ⟨v1, v2⟩ := vtL_ok _ hvt
  refine W_call (st := st.drop (npOf a + 1)) hA a1 a2 a3 a4 a5 (fun x hx => a6 x (List.mem_of_mem_drop hx)) hbud (st0 := st.map (cV ro ad)) (a0 := (.ref b :: as.map (cV ro ad)).toArray) ?_
  rcases hl with hl | hl
  · exact va_runV (As := as.map (cV ro ad)) (rest := (st.drop (npOf a + 1)).map (cV ro ad)) ⟨hx, hb, hml, hown, hts⟩ hM ⟨callB_mk hts ha h6 h7 hl, hts _ v1, hts _ v2⟩ ⟨PcP_blind, hcell, hpin⟩ rfl (by rw [List.length_map]; exact hlen) a4.1 (take_rev hrv hbq) (lv_room (cat_room h8)) hd hbud
  · exact va_runVN (As := as.map (cV ro ad)) (rest := (st.drop (npOf a + 1)).map (cV ro ad)) ⟨hx, hb, hml, hown, hts⟩ hM ⟨callN_mk hts hen ha h6 h7 hl, hts _ v1, hts _ v2⟩ ⟨PcP_blind, hcell, hpin⟩ rfl (by rw [List.length_map]; exact hlen) a4.1 (take_rev hrv hbq) (lv_room (cat_room h8)) hd hbud
/-- a constructor's call -/
theorem so_calli (C : Cx D kA ro RM id A p s m args meth c) {bp : Nat} {ls : Lc_} {st as : List Vl_} {w : Wd_} {M : Mm_} {cn : Cn_} {i a : Nat} {q : Int} (hcl : clOK id a (mcOf a) (msOf a) (mcOf id) (msOf id) = true) (hsp : a ∈ spL) (hret : retOf a = none) (hl : (ownOf id, i, a) ∈ mlL ∨ (ownOf id, i, a) ∈ mnL) (hrv : (st.take (npOf a + 1)).reverse = (2, q) :: as) (hlen : as.length = npOf a) (hq0 : 0 ≤ q) (h8 : catS (st.drop (npOf a + 1)) ≤ 8) (hmx : catS (st.take (npOf a + 1)) ≤ mxL a) (hbud : cn.1 + mcOf a ≤ mcOf id ∧ cn.2 + msOf a ≤ msOf id)
    (hd : decode (byOf id) bp = .ok (.invokespecial i, 3)) (h : Pm l D kA ro RM a 0 (entL (st.take (npOf a + 1)).reverse (mxL a)) [] w M (0, 0) (fun v w' M' => Wb l D kA ro RM id A p e s m args below meth c n0 ad0 Z (bp + 3) ls (v.toList ++ st.drop (npOf a + 1)) w' M' (cn.1 + mcOf a, cn.2 + msOf a))) : Wb l D kA ro RM id A p e s m args below meth c n0 ad0 Z bp ls st w M cn := by
  obtain ⟨hx, hb, hr, hlk, hml, hown, hnm, hts, hen, hK, hA⟩ := C
  intro ad H locs lsA a1 a2 a3 a4 a5 a6 a7
  obtain ⟨-, -, ha, -, -, h6, h7⟩ := clOK_el hcl
  have hcr : catS (st.take (npOf a + 1)).reverse ≤ mxL a := by
    unfold catS at hmx ⊢
    rw [List.map_reverse, List.sum_reverse]
    exact hmx
  have hM := met_of ha h hcr ad (fun v hv => a6 v (List.mem_of_mem_take (List.mem_reverse.mp hv))) a3.2.2.2 H.size
  have hbq : cV ro ad (2, q) = .ref (ad q.toNat) := cV_ref hq0
  have hpin := PcP_in (as := (st.take (npOf a + 1)).reverse) hA hen hK a3
  rw [hrv] at hM hpin
  have e0 : ((2, q) :: as).map (cV ro ad) = .ref (ad q.toNat) :: as.map (cV ro ad) := by rw [List.map_cons, hbq]
  rw [e0] at hpin
  obtain ⟨v1, v2⟩ := spL_ok _ hsp
  refine W_call (st := st.drop (npOf a + 1)) hA a1 a2 a3 a4 a5 (fun x hx => a6 x (List.mem_of_mem_drop hx)) hbud (st0 := st.map (cV ro ad)) (a0 := (.ref (ad q.toNat) :: as.map (cV ro ad)).toArray) ?_
  rcases hl with hl | hl
  · have hcb := callB_mk (id := id) hts ha h6 h7 hl
    rw [hret] at hcb
    exact va_runI (As := as.map (cV ro ad)) (rest := (st.drop (npOf a + 1)).map (cV ro ad)) ⟨hx, hb, hml, hown, hts⟩ hM ⟨hcb, v1, hts _ v2⟩ ⟨PcP_blind, hpin⟩ rfl (by rw [List.length_map]; exact hlen) a4.1 (take_rev hrv hbq) (lv_room (cat_room h8)) hd hbud
  · have hcb := callN_mk (id := id) hts hen ha h6 h7 hl
    rw [hret] at hcb
    exact va_runIN (As := as.map (cV ro ad)) (rest := (st.drop (npOf a + 1)).map (cV ro ad)) ⟨hx, hb, hml, hown, hts⟩ hM ⟨hcb, v1, hts _ v2⟩ ⟨PcP_blind, hpin⟩ rfl (by rw [List.length_map]; exact hlen) a4.1 (take_rev hrv hbq) (lv_room (cat_room h8)) hd hbud
/-- Object's own constructor -/
theorem so_obj (C : Cx D kA ro RM id A p s m args meth c) {bp : Nat} {ls : Lc_} {st : List Vl_} {w : Wd_} {M : Mm_} {cn : Cn_} {i : Nat} {q : Int} (hl : (ownOf id, i) ∈ obL) (hq0 : 0 ≤ q) (hf1 : 1 ≤ (rmT_ id).1) (hf2 : 32 ≤ (rmT_ id).2.1) (h8 : catS st ≤ 8) (hd : decode (byOf id) bp = .ok (.invokespecial i, 3)) (h : Wb l D kA ro RM id A p e s m args below meth c n0 ad0 Z (bp + 3) ls st w M cn) : Wb l D kA ro RM id A p e s m args below meth c n0 ad0 Z bp ls ((2, q) :: st) w M cn := by
  obtain ⟨hx, hb, hr, hlk, hml, hown, hnm, hts, hen, hK, hA⟩ := C
  intro ad H locs lsA a1 a2 a3 a4 a5 a6 a7
  rw [List.map_cons, cV_ref hq0]
  have h9 := lv_room (m := m) (pc := bp) (ls := lsA) (rest := (.ref (ad q.toNat) :: st.map (cV ro ad))) (cat_room (ro := ro) (ad := ad) h8)
  exact W.objInit hx hb hown (hts _ (obL_ok _ hl)) (hts _ ob_i) (hts _ ob_c) rfl (by rw [hml]; exact a4.1) rfl hd hf1 (by show _ ≤ (rmT_ id).2.1; omega) (h ad H locs lsA a1 a2 a3 a4 a5 (okS_tl a6) a7)
end SNA
end
section
section SNB
variable {l : Launch} {D : va_G} {kA : Nat → ClassId} {ro : Int → Option Nat} {RM : Mm_} {id : Nat} {A : Nat → Prop} {p : Program} {e : Env} {s : State} {m : MethodId} {args : Array Value} {below : List Frame} {meth : Method} {c : Code} {n0 : Nat} {ad0 : Nat → Nat} {Z : State → Prop}
def RetOK (l : Launch) (D : va_G) (kA : Nat → ClassId) (ro : Int → Option Nat) (RM : Mm_) (id : Nat) (A : Nat → Prop) (p : Program) (e : Env) (s : State) (m : MethodId) (args : Array Value) (below : List Frame) (meth : Method) (c : Code) (n0 : Nat) (ad0 : Nat → Nat) (Z : State → Prop) (Q : Qp_) : Prop :=
  ∀ (bp : Nat) (ls : Lc_) (w : Wd_) (M : Mm_) (cn : Cn_),
    (∀ x : Int, decode (byOf id) bp = .ok (.ireturn, 1) → (∃ ty, retOf id = some ty ∧ narrow ty (.int (Int32.ofInt x)) = .int (Int32.ofInt x)) → Q (some (0, x)) w M → Wb l D kA ro RM id A p e s m args below meth c n0 ad0 Z bp ls [(0, x)] w M cn) ∧
    (∀ x : Int, decode (byOf id) bp = .ok (.lreturn, 1) → retOf id = some .long → Q (some (1, x)) w M → Wb l D kA ro RM id A p e s m args below meth c n0 ad0 Z bp ls [(1, x)] w M cn) ∧
    (decode (byOf id) bp = .ok (.return_, 1) → retOf id = none → Q none w M → Wb l D kA ro RM id A p e s m args below meth c n0 ad0 Z bp ls [] w M cn)
theorem ret_ok (C : Cx D kA ro RM id A p s m args meth c) {Q : Qp_} : RetOK l D kA ro RM id A p e s m args below meth c n0 ad0 (MQ below (QcP D kA ro RM A n0 ad0 Q) args s (mcOf id) (msOf id) A) Q := by
  obtain ⟨hx, hb, hr, hlk, hml, hown, hnm, hts, hen, hK, hA⟩ := C
  intro bp ls w M cn
  refine ⟨fun x hd ⟨ty, h1, h2⟩ hQ => ?_, fun x hd h1 hQ => ?_, fun hd h1 hQ => ?_⟩
  · intro ad H locs lsA a1 a2 a3 a4 a5 a6 a7
    refine W.widen (k := mcOf id) (n := msOf id) a7.1 a7.2 ?_
    exact W.zret (v := Int32.ofInt x) hx hb (hr.trans h1) h2 (fun t ht hW => ⟨⟨some (0, x), w, M, ad, rfl, hQ, fun y hy => by cases hy; exact okS_hd a6, a1, a2, by rw [ht]; exact a3.1, a3.2.1, va_K.moved hW.alike hK, a3.2.2.2⟩, a3.2.2.1.F ht⟩) a3.2.2.1.2.2 hd hlk
  · intro ad H locs lsA a1 a2 a3 a4 a5 a6 a7
    refine W.widen (k := mcOf id) (n := msOf id) a7.1 a7.2 ?_
    exact W.lret (v := Int64.ofInt x) hx hb (hr.trans h1) (fun t ht hW => ⟨⟨some (1, x), w, M, ad, rfl, hQ, fun y hy => by cases hy; exact okS_hd a6, a1, a2, by rw [ht]; exact a3.1, a3.2.1, va_K.moved hW.alike hK, a3.2.2.2⟩, a3.2.2.1.F ht⟩) a3.2.2.1.2.2 hd hlk
  · intro ad H locs lsA a1 a2 a3 a4 a5 a6 a7
    refine W.widen (k := mcOf id) (n := msOf id) a7.1 a7.2 ?_
    exact W.vret hx hb (hr.trans h1) (fun t ht hW => ⟨⟨none, w, M, ad, rfl, hQ, (fun y hy => by cases hy), a1, a2, by rw [ht]; exact a3.1, a3.2.1, va_K.moved hW.alike hK, a3.2.2.2⟩, a3.2.2.1.F ht⟩) a3.2.2.1.2.2 hd hlk
theorem nar2 {x : Int} (h : -128 ≤ x ∧ x < 128) : narrow .byte (.int (Int32.ofInt x)) = .int (Int32.ofInt x) := by
  have := pk_nb (Int32.ofInt x)
  have e : (Int32.ofInt x).toInt8.toInt32 = Int32.ofInt x := by
    apply Int32.toInt_inj.mp
    rw [Int8.toInt_toInt32, Int32.toInt_toInt8, inI_of32 (by unfold inI; omega)]
    show Int.bmod x 256 = x
    rw [Int.bmod_def]
    split <;> omega
  rw [e] at this
  exact this
theorem nar3 {x : Int} (h : 0 ≤ x ∧ x < 65536) : narrow .char (.int (Int32.ofInt x)) = .int (Int32.ofInt x) := by
  have := pk_nc (Int32.ofInt x)
  rw [of_i2c, show i2cI x = x by unfold i2cI; omega] at this
  exact this
theorem swc_el {x : Int} {k : Nat → Prop} : ∀ (tg : List Nat) (lo : Int) (j t : Nat), swc x k lo tg → tg[j]? = some t → x = lo + j → k t
  | [], _, j, _, _, h, _ => by cases j <;> cases h
  | t0 :: ts, lo, 0, t, hs, h, hx => by
    have h : some t0 = some t := h
    cases h
    exact hs.1 (by omega)
  | t0 :: ts, lo, j + 1, t, hs, h, hx => swc_el ts (lo + 1) j t hs.2 h (by omega)
theorem jmps_el {cd : List In_} {bp : Nat} : ∀ (tg : List Nat) (os : List Int) (j t : Nat), jmps cd bp tg os = true → tg[j]? = some t → ∃ f, os[j]? = some f ∧ jmp cd t ((bp : Int) + f) = true
  | [], _, j, _, _, h => by cases j <;> cases h
  | t0 :: ts, [], _, _, hj, _ => by cases hj
  | t0 :: ts, f0 :: fs, 0, t, hj, h => by
    have h : some t0 = some t := h
    cases h
    have hj : (jmp cd t0 ((bp : Int) + f0) && jmps cd bp ts fs) = true := hj
    exact ⟨f0, rfl, (Bool.and_eq_true _ _ ▸ hj).1⟩
  | t0 :: ts, f0 :: fs, j + 1, t, hj, h => by
    have hj : (jmp cd t0 ((bp : Int) + f0) && jmps cd bp ts fs) = true := hj
    exact jmps_el ts fs j t (Bool.and_eq_true _ _ ▸ hj).2 h
theorem jmps_len {cd : List In_} {bp : Nat} : ∀ (tg : List Nat) (os : List Int), jmps cd bp tg os = true → tg.length = os.length
  | [], [], _ => rfl
  | [], _ :: _, h => by cases h
  | _ :: _, [], h => by cases h
  | _ :: ts, f0 :: fs, h => by
    have h : (jmp cd _ ((bp : Int) + f0) && jmps cd bp ts fs) = true := h
    rw [List.length_cons, List.length_cons, jmps_len ts fs (Bool.and_eq_true _ _ ▸ h).2]
theorem Pm_mono : Mono (Pm l D kA ro RM) := by
  intro id pc ls st w M cn Q Q' hq h A p e s m args below meth c n0 ad0 C ad H locs lsA e0 a1 a2 a3 a4 a5 a6 a7 he
  intro T hT X
  obtain ⟨t, b1, o2, b2, b3, ⟨⟨v, w', M', ad', h1, h2, h3⟩, h4⟩, h5⟩ := h A p e s m args below meth c n0 ad0 C ad H locs lsA e0 a1 a2 a3 a4 a5 a6 a7 he T hT X
  exact ⟨t, b1, o2, b2, b3, ⟨⟨v, w', M', ad', h1, hq _ _ _ h2, h3⟩, h4⟩, h5⟩
set_option maxHeartbeats 4000000 in
theorem step_sound (C : Cx D kA ro RM id A p s m args meth c) {Q : Qp_} (hret : RetOK l D kA ro RM id A p e s m args below meth c n0 ad0 Z Q) {pc : Nat} {ls : Lc_} {st : List Vl_} {w : Wd_} {M : Mm_} {cn : Cn_} {e0 : In_} (ck : ckE id (ownOf id) (codeOf id) (byOf id) pc e0 = true) (h : st1 (cPof (Pm l D kA ro RM)) (Wat l D kA ro RM id A p e s m args below meth c n0 ad0 Z) Q e0 pc ls st w M cn) : Wb l D kA ro RM id A p e s m args below meth c n0 ad0 Z e0.2.1 ls st w M cn := by
  obtain ⟨ins, bp, a, b, z, tg⟩ := e0
  show Wb l D kA ro RM id A p e s m args below meth c n0 ad0 Z bp ls st w M cn
  cases ins
  all_goals try exact (h : False).elim
  all_goals simp only [st1] at h
  case iconst i =>
    simp only [ckE, Bool.and_eq_true, decide_eq_true_eq] at ck
    obtain ⟨⟨⟨cd, cn1⟩, cz⟩, cr⟩ := ck
    obtain ⟨e1, n1, n2⟩ := nxt_el cn1
    subst cz
    exact so_iconst C (rgI_el cr) (dk_el cd) (h.b n1 n2)
  case bipush i =>
    simp only [ckE, Bool.and_eq_true, decide_eq_true_eq] at ck
    obtain ⟨⟨⟨⟨cd, cn1⟩, cz⟩, c1⟩, c2⟩ := ck
    obtain ⟨e1, n1, n2⟩ := nxt_el cn1
    subst cz
    exact so_bipush C c1 c2 (dk_el cd) (h.b n1 n2)
  case sipush i =>
    simp only [ckE, Bool.and_eq_true, decide_eq_true_eq] at ck
    obtain ⟨⟨⟨⟨cd, cn1⟩, cz⟩, c1⟩, c2⟩ := ck
    obtain ⟨e1, n1, n2⟩ := nxt_el cn1
    subst cz
    exact so_sipush C c1 c2 (dk_el cd) (h.b n1 n2)
  case lconst i =>
    simp only [ckE, Bool.and_eq_true, decide_eq_true_eq] at ck
    obtain ⟨⟨cd, cn1⟩, cz⟩ := ck
    obtain ⟨e1, n1, n2⟩ := nxt_el cn1
    subst cz
    exact so_lconst C (dk_el cd) (h.b n1 n2)
  case ldc i =>
    simp only [ckE, Bool.and_eq_true, decide_eq_true_eq] at ck
    obtain ⟨⟨⟨⟨⟨⟨cd, cn1⟩, ca⟩, co⟩, c1⟩, c2⟩, cs⟩ := ck
    obtain ⟨e1, n1, n2⟩ := nxt_el cn1
    subst ca
    have hq : ∃ q ∈ srL, (q.1 : Int) = -z - 10 ∧ q.2.1 = i := by
      have hm := List.elem_iff.mp cs
      obtain ⟨q, hq, e1⟩ := List.mem_map.mp hm
      simp only [Prod.mk.injEq] at e1
      exact ⟨q, hq, e1.1, e1.2⟩
    exact so_ldcS C co c1 c2 hq (dk_el cd) (h.b n1 n2)
  case ldc_w i =>
    simp only [ckE, Bool.and_eq_true, decide_eq_true_eq] at ck
    obtain ⟨⟨⟨cd, cn1⟩, cz⟩, cr⟩ := ck
    obtain ⟨e1, n1, n2⟩ := nxt_el cn1
    exact so_ldcw C cz (rgI_el cr) (dk_el cd) (h.b n1 n2)
  case ldc2_w i =>
    simp only [ckE, Bool.and_eq_true, decide_eq_true_eq] at ck
    obtain ⟨⟨⟨cd, cn1⟩, cz⟩, cr⟩ := ck
    obtain ⟨e1, n1, n2⟩ := nxt_el cn1
    exact so_ldc2 C cz (rgL_el cr) (dk_el cd) (h.b n1 n2)
  case iload i =>
    simp only [ckE, Bool.and_eq_true, decide_eq_true_eq] at ck
    obtain ⟨⟨cd, cn1⟩, ca⟩ := ck
    obtain ⟨e1, n1, n2⟩ := nxt_el cn1
    subst ca
    obtain ⟨x, hl, hk⟩ := gl_el h
    exact so_iload C hl (dk_el cd) (hk.b n1 n2)
  case iload_n i =>
    simp only [ckE, Bool.and_eq_true, decide_eq_true_eq] at ck
    obtain ⟨⟨cd, cn1⟩, ca⟩ := ck
    obtain ⟨e1, n1, n2⟩ := nxt_el cn1
    subst ca
    obtain ⟨x, hl, hk⟩ := gl_el h
    exact so_iloadn C hl (dk_el cd) (hk.b n1 n2)
  case istore i =>
    simp only [ckE, Bool.and_eq_true, decide_eq_true_eq] at ck
    obtain ⟨⟨⟨cd, cn1⟩, ca⟩, cm⟩ := ck
    obtain ⟨e1, n1, n2⟩ := nxt_el cn1
    subst ca
    obtain ⟨x, r, rfl, hk⟩ := g1_el h
    exact so_istore C cm (dk_el cd) (hk.b n1 n2)
  case istore_n i =>
    simp only [ckE, Bool.and_eq_true, decide_eq_true_eq] at ck
    obtain ⟨⟨⟨cd, cn1⟩, ca⟩, cm⟩ := ck
    obtain ⟨e1, n1, n2⟩ := nxt_el cn1
    subst ca
    obtain ⟨x, r, rfl, hk⟩ := g1_el h
    exact so_istoren C cm (dk_el cd) (hk.b n1 n2)
  case lload i =>
    simp only [ckE, Bool.and_eq_true, decide_eq_true_eq] at ck
    obtain ⟨⟨cd, cn1⟩, ca⟩ := ck
    obtain ⟨e1, n1, n2⟩ := nxt_el cn1
    subst ca
    obtain ⟨x, hl, hk⟩ := gl_el h
    exact so_lload C hl (dk_el cd) (hk.b n1 n2)
  case lload_n i =>
    simp only [ckE, Bool.and_eq_true, decide_eq_true_eq] at ck
    obtain ⟨⟨cd, cn1⟩, ca⟩ := ck
    obtain ⟨e1, n1, n2⟩ := nxt_el cn1
    subst ca
    obtain ⟨x, hl, hk⟩ := gl_el h
    exact so_lloadn C hl (dk_el cd) (hk.b n1 n2)
  case lstore i =>
    simp only [ckE, Bool.and_eq_true, decide_eq_true_eq] at ck
    obtain ⟨⟨⟨cd, cn1⟩, ca⟩, cm⟩ := ck
    obtain ⟨e1, n1, n2⟩ := nxt_el cn1
    subst ca
    obtain ⟨x, r, rfl, hk⟩ := g1_el h
    exact so_lstore C cm (dk_el cd) (hk.b n1 n2)
  case lstore_n i =>
    simp only [ckE, Bool.and_eq_true, decide_eq_true_eq] at ck
    obtain ⟨⟨⟨cd, cn1⟩, ca⟩, cm⟩ := ck
    obtain ⟨e1, n1, n2⟩ := nxt_el cn1
    subst ca
    obtain ⟨x, r, rfl, hk⟩ := g1_el h
    exact so_lstoren C cm (dk_el cd) (hk.b n1 n2)
  case aload i =>
    simp only [ckE, Bool.and_eq_true, decide_eq_true_eq] at ck
    obtain ⟨⟨cd, cn1⟩, ca⟩ := ck
    obtain ⟨e1, n1, n2⟩ := nxt_el cn1
    subst ca
    obtain ⟨x, hl, hk⟩ := gl_el h
    exact so_aload C hl (dk_el cd) (hk.b n1 n2)
  case aload_n i =>
    simp only [ckE, Bool.and_eq_true, decide_eq_true_eq] at ck
    obtain ⟨⟨cd, cn1⟩, ca⟩ := ck
    obtain ⟨e1, n1, n2⟩ := nxt_el cn1
    subst ca
    obtain ⟨x, hl, hk⟩ := gl_el h
    exact so_aloadn C hl (dk_el cd) (hk.b n1 n2)
  case astore i =>
    simp only [ckE, Bool.and_eq_true, decide_eq_true_eq] at ck
    obtain ⟨⟨⟨cd, cn1⟩, ca⟩, cm⟩ := ck
    obtain ⟨e1, n1, n2⟩ := nxt_el cn1
    subst ca
    obtain ⟨x, r, rfl, hk⟩ := g1_el h
    exact so_astore C cm (dk_el cd) (hk.b n1 n2)
  case astore_n i =>
    simp only [ckE, Bool.and_eq_true, decide_eq_true_eq] at ck
    obtain ⟨⟨⟨cd, cn1⟩, ca⟩, cm⟩ := ck
    obtain ⟨e1, n1, n2⟩ := nxt_el cn1
    subst ca
    obtain ⟨x, r, rfl, hk⟩ := g1_el h
    exact so_astoren C cm (dk_el cd) (hk.b n1 n2)
  case iinc i n =>
    simp only [ckE, Bool.and_eq_true, decide_eq_true_eq] at ck
    obtain ⟨⟨⟨⟨⟨cd, cn1⟩, ca⟩, cz⟩, cm⟩, cr⟩ := ck
    obtain ⟨e1, n1, n2⟩ := nxt_el cn1
    subst ca
    subst cz
    obtain ⟨x, hl, hi, hk⟩ := gl_el h
    exact so_iinc C hl cm hi (dk_el cd) (hk.b n1 n2)
  case iadd =>
    simp only [ckE, Bool.and_eq_true, decide_eq_true_eq] at ck
    obtain ⟨cd, cn1⟩ := ck
    obtain ⟨e1, n1, n2⟩ := nxt_el cn1
    obtain ⟨y, r, rfl, h5⟩ := g1_el h
    obtain ⟨x, r, rfl, hi, hk⟩ := g1_el h5
    exact so_iadd C hi (dk_el cd) (hk.b n1 n2)
  case isub =>
    simp only [ckE, Bool.and_eq_true, decide_eq_true_eq] at ck
    obtain ⟨cd, cn1⟩ := ck
    obtain ⟨e1, n1, n2⟩ := nxt_el cn1
    obtain ⟨y, r, rfl, h5⟩ := g1_el h
    obtain ⟨x, r, rfl, hi, hk⟩ := g1_el h5
    exact so_isub C hi (dk_el cd) (hk.b n1 n2)
  case imul =>
    simp only [ckE, Bool.and_eq_true, decide_eq_true_eq] at ck
    obtain ⟨cd, cn1⟩ := ck
    obtain ⟨e1, n1, n2⟩ := nxt_el cn1
    obtain ⟨y, r, rfl, h5⟩ := g1_el h
    obtain ⟨x, r, rfl, hi, hk⟩ := g1_el h5
    exact so_imul C hi (dk_el cd) (hk.b n1 n2)
  case idiv =>
    simp only [ckE, Bool.and_eq_true, decide_eq_true_eq] at ck
    obtain ⟨cd, cn1⟩ := ck
    obtain ⟨e1, n1, n2⟩ := nxt_el cn1
    obtain ⟨y, r, rfl, h5⟩ := g1_el h
    obtain ⟨x, r, rfl, hi, hk⟩ := g1_el h5
    exact so_idiv C hi (dk_el cd) (hk.b n1 n2)
  case irem =>
    simp only [ckE, Bool.and_eq_true, decide_eq_true_eq] at ck
    obtain ⟨cd, cn1⟩ := ck
    obtain ⟨e1, n1, n2⟩ := nxt_el cn1
    obtain ⟨y, r, rfl, h5⟩ := g1_el h
    obtain ⟨x, r, rfl, hi, hk⟩ := g1_el h5
    exact so_irem C hi (dk_el cd) (hk.b n1 n2)
  case ladd =>
    simp only [ckE, Bool.and_eq_true, decide_eq_true_eq] at ck
    obtain ⟨cd, cn1⟩ := ck
    obtain ⟨e1, n1, n2⟩ := nxt_el cn1
    obtain ⟨y, r, rfl, h5⟩ := g1_el h
    obtain ⟨x, r, rfl, hi, hk⟩ := g1_el h5
    exact so_ladd C hi (dk_el cd) (hk.b n1 n2)
  case lsub =>
    simp only [ckE, Bool.and_eq_true, decide_eq_true_eq] at ck
    obtain ⟨cd, cn1⟩ := ck
    obtain ⟨e1, n1, n2⟩ := nxt_el cn1
    obtain ⟨y, r, rfl, h5⟩ := g1_el h
    obtain ⟨x, r, rfl, hi, hk⟩ := g1_el h5
    exact so_lsub C hi (dk_el cd) (hk.b n1 n2)
  case lmul =>
    simp only [ckE, Bool.and_eq_true, decide_eq_true_eq] at ck
    obtain ⟨cd, cn1⟩ := ck
    obtain ⟨e1, n1, n2⟩ := nxt_el cn1
    obtain ⟨y, r, rfl, h5⟩ := g1_el h
    obtain ⟨x, r, rfl, hi, hk⟩ := g1_el h5
    exact so_lmul C hi (dk_el cd) (hk.b n1 n2)
  case iand =>
    simp only [ckE, Bool.and_eq_true, decide_eq_true_eq] at ck
    obtain ⟨cd, cn1⟩ := ck
    obtain ⟨e1, n1, n2⟩ := nxt_el cn1
    obtain ⟨y, r, rfl, h5⟩ := g1_el h
    obtain ⟨x, r, rfl, hk⟩ := g1_el h5
    exact so_iand C (dk_el cd) (hk.b n1 n2)
  case ior =>
    simp only [ckE, Bool.and_eq_true, decide_eq_true_eq] at ck
    obtain ⟨cd, cn1⟩ := ck
    obtain ⟨e1, n1, n2⟩ := nxt_el cn1
    obtain ⟨y, r, rfl, h5⟩ := g1_el h
    obtain ⟨x, r, rfl, hk⟩ := g1_el h5
    exact so_ior C (dk_el cd) (hk.b n1 n2)
  case ixor =>
    simp only [ckE, Bool.and_eq_true, decide_eq_true_eq] at ck
    obtain ⟨cd, cn1⟩ := ck
    obtain ⟨e1, n1, n2⟩ := nxt_el cn1
    obtain ⟨y, r, rfl, h5⟩ := g1_el h
    obtain ⟨x, r, rfl, hk⟩ := g1_el h5
    exact so_ixor C (dk_el cd) (hk.b n1 n2)
  case ishl =>
    simp only [ckE, Bool.and_eq_true, decide_eq_true_eq] at ck
    obtain ⟨cd, cn1⟩ := ck
    obtain ⟨e1, n1, n2⟩ := nxt_el cn1
    obtain ⟨y, r, rfl, h5⟩ := g1_el h
    obtain ⟨x, r, rfl, hk⟩ := g1_el h5
    exact so_ishl C (dk_el cd) (hk.b n1 n2)
  case ishr =>
    simp only [ckE, Bool.and_eq_true, decide_eq_true_eq] at ck
    obtain ⟨cd, cn1⟩ := ck
    obtain ⟨e1, n1, n2⟩ := nxt_el cn1
    obtain ⟨y, r, rfl, h5⟩ := g1_el h
    obtain ⟨x, r, rfl, hk⟩ := g1_el h5
    exact so_ishr C (dk_el cd) (hk.b n1 n2)
  case iushr =>
    simp only [ckE, Bool.and_eq_true, decide_eq_true_eq] at ck
    obtain ⟨cd, cn1⟩ := ck
    obtain ⟨e1, n1, n2⟩ := nxt_el cn1
    obtain ⟨y, r, rfl, h5⟩ := g1_el h
    obtain ⟨x, r, rfl, hk⟩ := g1_el h5
    exact so_iushr C (dk_el cd) (hk.b n1 n2)
  case land =>
    simp only [ckE, Bool.and_eq_true, decide_eq_true_eq] at ck
    obtain ⟨cd, cn1⟩ := ck
    obtain ⟨e1, n1, n2⟩ := nxt_el cn1
    obtain ⟨y, r, rfl, h5⟩ := g1_el h
    obtain ⟨x, r, rfl, hk⟩ := g1_el h5
    exact so_land C (dk_el cd) (hk.b n1 n2)
  case lor =>
    simp only [ckE, Bool.and_eq_true, decide_eq_true_eq] at ck
    obtain ⟨cd, cn1⟩ := ck
    obtain ⟨e1, n1, n2⟩ := nxt_el cn1
    obtain ⟨y, r, rfl, h5⟩ := g1_el h
    obtain ⟨x, r, rfl, hk⟩ := g1_el h5
    exact so_lor C (dk_el cd) (hk.b n1 n2)
  case lxor =>
    simp only [ckE, Bool.and_eq_true, decide_eq_true_eq] at ck
    obtain ⟨cd, cn1⟩ := ck
    obtain ⟨e1, n1, n2⟩ := nxt_el cn1
    obtain ⟨y, r, rfl, h5⟩ := g1_el h
    obtain ⟨x, r, rfl, hk⟩ := g1_el h5
    exact so_lxor C (dk_el cd) (hk.b n1 n2)
  case lshl =>
    simp only [ckE, Bool.and_eq_true, decide_eq_true_eq] at ck
    obtain ⟨cd, cn1⟩ := ck
    obtain ⟨e1, n1, n2⟩ := nxt_el cn1
    obtain ⟨y, r, rfl, h5⟩ := g1_el h
    obtain ⟨x, r, rfl, hk⟩ := g1_el h5
    exact so_lshl C (dk_el cd) (hk.b n1 n2)
  case lshr =>
    simp only [ckE, Bool.and_eq_true, decide_eq_true_eq] at ck
    obtain ⟨cd, cn1⟩ := ck
    obtain ⟨e1, n1, n2⟩ := nxt_el cn1
    obtain ⟨y, r, rfl, h5⟩ := g1_el h
    obtain ⟨x, r, rfl, hk⟩ := g1_el h5
    exact so_lshr C (dk_el cd) (hk.b n1 n2)
  case lushr =>
    simp only [ckE, Bool.and_eq_true, decide_eq_true_eq] at ck
    obtain ⟨cd, cn1⟩ := ck
    obtain ⟨e1, n1, n2⟩ := nxt_el cn1
    obtain ⟨y, r, rfl, h5⟩ := g1_el h
    obtain ⟨x, r, rfl, hk⟩ := g1_el h5
    exact so_lushr C (dk_el cd) (hk.b n1 n2)
  case lcmp =>
    simp only [ckE, Bool.and_eq_true, decide_eq_true_eq] at ck
    obtain ⟨cd, cn1⟩ := ck
    obtain ⟨e1, n1, n2⟩ := nxt_el cn1
    obtain ⟨y, r, rfl, h5⟩ := g1_el h
    obtain ⟨x, r, rfl, hk⟩ := g1_el h5
    exact so_lcmp C (dk_el cd) (hk.b n1 n2)
  case i2l =>
    simp only [ckE, Bool.and_eq_true, decide_eq_true_eq] at ck
    obtain ⟨cd, cn1⟩ := ck
    obtain ⟨e1, n1, n2⟩ := nxt_el cn1
    obtain ⟨x, r, rfl, hk⟩ := g1_el h
    exact so_i2l C (dk_el cd) (hk.b n1 n2)
  case l2i =>
    simp only [ckE, Bool.and_eq_true, decide_eq_true_eq] at ck
    obtain ⟨cd, cn1⟩ := ck
    obtain ⟨e1, n1, n2⟩ := nxt_el cn1
    obtain ⟨x, r, rfl, hk⟩ := g1_el h
    exact so_l2i C (dk_el cd) (hk.b n1 n2)
  case i2c =>
    simp only [ckE, Bool.and_eq_true, decide_eq_true_eq] at ck
    obtain ⟨cd, cn1⟩ := ck
    obtain ⟨e1, n1, n2⟩ := nxt_el cn1
    obtain ⟨x, r, rfl, hk⟩ := g1_el h
    exact so_i2c C (dk_el cd) (hk.b n1 n2)
  case ifCond k f =>
    simp only [ckE, Bool.and_eq_true, decide_eq_true_eq] at ck
    obtain ⟨⟨cd, cn1⟩, cj⟩ := ck
    obtain ⟨e1, n1, n2⟩ := nxt_el cn1
    obtain ⟨e2, j1, j2⟩ := jmp_el cj
    obtain ⟨x, r, rfl, h1, h2⟩ := g1_el h
    cases k
    case eq => exact so_if_eq C j2 (dk_el cd) (fun q => (h1 q).b j1 rfl) (fun q => (h2 q).b n1 n2)
    case ne => exact so_if_ne C j2 (dk_el cd) (fun q => (h1 q).b j1 rfl) (fun q => (h2 q).b n1 n2)
    case lt => exact so_if_lt C j2 (dk_el cd) (fun q => (h1 q).b j1 rfl) (fun q => (h2 q).b n1 n2)
    case ge => exact so_if_ge C j2 (dk_el cd) (fun q => (h1 q).b j1 rfl) (fun q => (h2 q).b n1 n2)
    case gt => exact so_if_gt C j2 (dk_el cd) (fun q => (h1 q).b j1 rfl) (fun q => (h2 q).b n1 n2)
    case le => exact so_if_le C j2 (dk_el cd) (fun q => (h1 q).b j1 rfl) (fun q => (h2 q).b n1 n2)
  case if_icmp k f =>
    simp only [ckE, Bool.and_eq_true, decide_eq_true_eq] at ck
    obtain ⟨⟨cd, cn1⟩, cj⟩ := ck
    obtain ⟨e1, n1, n2⟩ := nxt_el cn1
    obtain ⟨e2, j1, j2⟩ := jmp_el cj
    obtain ⟨y, r, rfl, h5⟩ := g1_el h
    obtain ⟨x, r, rfl, h1, h2⟩ := g1_el h5
    cases k
    case eq => exact so_icmp_eq C j2 (dk_el cd) (fun q => (h1 q).b j1 rfl) (fun q => (h2 q).b n1 n2)
    case ne => exact so_icmp_ne C j2 (dk_el cd) (fun q => (h1 q).b j1 rfl) (fun q => (h2 q).b n1 n2)
    case lt => exact so_icmp_lt C j2 (dk_el cd) (fun q => (h1 q).b j1 rfl) (fun q => (h2 q).b n1 n2)
    case ge => exact so_icmp_ge C j2 (dk_el cd) (fun q => (h1 q).b j1 rfl) (fun q => (h2 q).b n1 n2)
    case gt => exact so_icmp_gt C j2 (dk_el cd) (fun q => (h1 q).b j1 rfl) (fun q => (h2 q).b n1 n2)
    case le => exact so_icmp_le C j2 (dk_el cd) (fun q => (h1 q).b j1 rfl) (fun q => (h2 q).b n1 n2)
  case goto f =>
    simp only [ckE, Bool.and_eq_true, decide_eq_true_eq] at ck
    obtain ⟨cd, cj⟩ := ck
    obtain ⟨e2, j1, j2⟩ := jmp_el cj
    exact so_goto C j2 (dk_el cd) (h.b j1 rfl)
  case tableswitch d lo hi fs =>
    simp only [ckE, Bool.and_eq_true, decide_eq_true_eq] at ck
    obtain ⟨⟨⟨⟨cd, cj⟩, cz⟩, cl⟩, cs⟩ := ck
    obtain ⟨x, r, rfl, h1, h2⟩ := g1_el h
    clear h
    subst cz
    obtain ⟨len, cd⟩ : ∃ len, decode (byOf id) bp = .ok (Instr.tableswitch d z hi fs, len) := by
      split at cd
      · rename_i i2 len hde
        exact ⟨len, by rw [hde, of_decide_eq_true cd]⟩
      · cases cd
    by_cases hx : x < z ∨ hi < x
    · obtain ⟨e2, j1, j2⟩ := jmp_el cj
      exact so_tswOut C j2 hx cd ((h1 (by omega)).b j1 rfl)
    · obtain ⟨t, ht⟩ : ∃ t, tg[(x - z).toNat]? = some t := ⟨tg[(x - z).toNat]'(by omega), List.getElem?_eq_getElem (by omega)⟩
      obtain ⟨f, f1, f2⟩ := jmps_el tg _ _ t cs ht
      obtain ⟨e2, j1, j2⟩ := jmp_el f2
      exact so_tswIn C j2 hx (by rw [← Array.getElem?_toList]; exact f1) cd ((swc_el tg z _ t h2 ht (by omega)).b j1 rfl)
  case dup =>
    simp only [ckE, Bool.and_eq_true, decide_eq_true_eq] at ck
    obtain ⟨cd, cn1⟩ := ck
    obtain ⟨e1, n1, n2⟩ := nxt_el cn1
    split at h
    · split at h
      · exact h.elim
      · rename_i hv
        exact so_dup C (fun g => by rw [g] at hv; cases hv) (dk_el cd) (h.b n1 n2)
    · exact h.elim
  case pop =>
    simp only [ckE, Bool.and_eq_true, decide_eq_true_eq] at ck
    obtain ⟨cd, cn1⟩ := ck
    obtain ⟨e1, n1, n2⟩ := nxt_el cn1
    split at h
    · split at h
      · exact h.elim
      · rename_i hv
        exact so_pop C (fun g => by rw [g] at hv; cases hv) (dk_el cd) (h.b n1 n2)
    · exact h.elim
  case dup2 =>
    simp only [ckE, Bool.and_eq_true, decide_eq_true_eq] at ck
    obtain ⟨cd, cn1⟩ := ck
    obtain ⟨e1, n1, n2⟩ := nxt_el cn1
    split at h
    · split at h
      · rename_i hv
        exact so_dup2a C (Nat.eq_of_beq_eq_true hv) (dk_el cd) (h.b n1 n2)
      · rename_i hv
        split at h
        · split at h
          · exact h.elim
          · rename_i hu
            exact so_dup2b C (fun g => by rw [g] at hv; cases hv) (fun g => by rw [g] at hu; cases hu) (dk_el cd) (h.b n1 n2)
        · exact h.elim
    · exact h.elim
  case iaload =>
    simp only [ckE, Bool.and_eq_true, decide_eq_true_eq] at ck
    obtain ⟨cd, cn1⟩ := ck
    obtain ⟨e1, n1, n2⟩ := nxt_el cn1
    obtain ⟨j, r, rfl, h5⟩ := g1_el h
    obtain ⟨q, r, rfl, n, hq, hj, hk⟩ := g1_el h5
    by_cases h0 : 0 ≤ q
    · exact so_iald C hq h0 hj (dk_el cd) (hk.b n1 n2)
    · exact so_iald_ro C hq (by omega) hj (dk_el cd) (hk.b n1 n2)
  case baload =>
    simp only [ckE, Bool.and_eq_true, decide_eq_true_eq] at ck
    obtain ⟨cd, cn1⟩ := ck
    obtain ⟨e1, n1, n2⟩ := nxt_el cn1
    obtain ⟨j, r, rfl, h5⟩ := g1_el h
    obtain ⟨q, r, rfl, n, hq, hj, hk⟩ := g1_el h5
    by_cases h0 : 0 ≤ q
    · rcases hq with hq | hq
      · exact so_zald C hq h0 hj (dk_el cd) (hk.b n1 n2)
      · intro ad H locs lsA a1 a2 a3 a4 a5 a6 a7
        obtain ⟨N, rs, hw, -, -⟩ := arK_el hq h0
        have := (a3.2.2.2.1 _ _ hw).2.2.2
        dsimp only at this
        omega
    · rcases hq with hq | hq
      · have := (arK_ro hq (by omega)).1
        omega
      · exact so_bald_ro C hq (by omega) hj (dk_el cd) (hk.b n1 n2)
  case laload =>
    simp only [ckE, Bool.and_eq_true, decide_eq_true_eq] at ck
    obtain ⟨cd, cn1⟩ := ck
    obtain ⟨e1, n1, n2⟩ := nxt_el cn1
    obtain ⟨j, r, rfl, h5⟩ := g1_el h
    obtain ⟨q, r, rfl, n, hq, hj, hk⟩ := g1_el h5
    by_cases h0 : 0 ≤ q
    · exact so_lald C hq h0 hj (dk_el cd) (hk.b n1 n2)
    · have := (arK_ro hq (by omega)).1
      omega
  case aaload =>
    simp only [ckE, Bool.and_eq_true, decide_eq_true_eq] at ck
    obtain ⟨cd, cn1⟩ := ck
    obtain ⟨e1, n1, n2⟩ := nxt_el cn1
    obtain ⟨j, r, rfl, h5⟩ := g1_el h
    obtain ⟨q, r, rfl, t, n, v, hq, t4, t6, hj, hv, hk⟩ := g1_el h5
    by_cases h0 : 0 ≤ q
    · exact so_aald C hq t4 t6 h0 hj hv (dk_el cd) (hk.b n1 n2)
    · have := (arK_ro hq (by omega)).1
      omega
  case iastore =>
    simp only [ckE, Bool.and_eq_true, decide_eq_true_eq] at ck
    obtain ⟨cd, cn1⟩ := ck
    obtain ⟨e1, n1, n2⟩ := nxt_el cn1
    obtain ⟨x, r, rfl, h5⟩ := g1_el h
    obtain ⟨j, r, rfl, h6⟩ := g1_el h5
    obtain ⟨q, r, rfl, n, hq, h0, hj, hk⟩ := g1_el h6
    exact so_iast C hq h0 hj (dk_el cd) (hk.b n1 n2)
  case lastore =>
    simp only [ckE, Bool.and_eq_true, decide_eq_true_eq] at ck
    obtain ⟨cd, cn1⟩ := ck
    obtain ⟨e1, n1, n2⟩ := nxt_el cn1
    obtain ⟨x, r, rfl, h5⟩ := g1_el h
    obtain ⟨j, r, rfl, h6⟩ := g1_el h5
    obtain ⟨q, r, rfl, n, hq, h0, hj, hk⟩ := g1_el h6
    exact so_last C hq h0 hj (dk_el cd) (hk.b n1 n2)
  case bastore =>
    simp only [ckE, Bool.and_eq_true, decide_eq_true_eq] at ck
    obtain ⟨cd, cn1⟩ := ck
    obtain ⟨e1, n1, n2⟩ := nxt_el cn1
    obtain ⟨x, r, rfl, h5⟩ := g1_el h
    obtain ⟨j, r, rfl, h6⟩ := g1_el h5
    obtain ⟨q, r, rfl, n, hq, h0, hj, hb1, hk⟩ := g1_el h6
    exact so_zast C hq h0 hj hb1 (dk_el cd) (hk.b n1 n2)
  case aastore =>
    simp only [ckE, Bool.and_eq_true, decide_eq_true_eq] at ck
    obtain ⟨⟨cd, cn1⟩, ca⟩ := ck
    obtain ⟨e1, n1, n2⟩ := nxt_el cn1
    obtain ⟨x, r, rfl, h5⟩ := g1_el h
    obtain ⟨j, r, rfl, h6⟩ := g1_el h5
    obtain ⟨q, r, rfl, n, hq, h0, x0, hob, hj, hk⟩ := g1_el h6
    subst ca
    exact so_aast C hq h0 x0 hob hj (dk_el cd) (hk.b n1 n2)
  case arraylength =>
    simp only [ckE, Bool.and_eq_true, decide_eq_true_eq] at ck
    obtain ⟨cd, cn1⟩ := ck
    obtain ⟨e1, n1, n2⟩ := nxt_el cn1
    obtain ⟨q, r, rfl, t, n, hq, hn, hk⟩ := g1_el h
    exact so_alen_ro C hq hn.1 hn.2 (dk_el cd) (hk.b n1 n2)
  case getstatic i =>
    simp only [ckE, Bool.and_eq_true, decide_eq_true_eq] at ck
    obtain ⟨⟨cd, cn1⟩, ck⟩ := ck
    obtain ⟨e1, n1, n2⟩ := nxt_el cn1
    split at ck
    · simp only [Bool.and_eq_true, decide_eq_true_eq] at ck
      obtain ⟨⟨⟨c1, c2⟩, c3⟩, c4⟩ := ck
      subst c3; subst c4
      exact so_gsC C c1 c2 (dk_el cd) (h.b n1 n2)
    · simp only [Bool.and_eq_true, decide_eq_true_eq] at ck
      obtain ⟨⟨⟨c1, c2⟩, c3⟩, c4⟩ := ck
      subst c3; subst c4
      exact so_gsF C c1 c2 (dk_el cd) (h.b n1 n2)
    · simp only [Bool.and_eq_true, decide_eq_true_eq] at ck
      obtain ⟨⟨⟨c1, c3⟩, c4⟩, c5⟩ := ck
      subst c3
      exact so_gsA C c1 c4 c5 (dk_el cd) (h.b n1 n2)
    · cases ck
  case getfield i =>
    simp only [ckE, Bool.and_eq_true, decide_eq_true_eq] at ck
    obtain ⟨⟨cd, cn1⟩, ck⟩ := ck
    obtain ⟨e1, n1, n2⟩ := nxt_el cn1
    obtain ⟨q, r, rfl, hob, h5⟩ := g1_el h
    clear h
    have h := h5
    clear h5
    split at ck
    · simp only [Bool.and_eq_true, decide_eq_true_eq] at ck
      obtain ⟨c1, ck⟩ := ck
      have hWI13 : ∀ {ls : Lc_} {st : List Vl_}, (-19 ≤ q ∧ q ≤ -10 → Wb l D kA ro RM id A p e s m args below meth c n0 ad0 Z bp ls st w M cn) → Wb l D kA ro RM id A p e s m args below meth c n0 ad0 Z bp ls st w M cn := fun g ad H locs lsA a1 a2 a3 a4 a5 a6 a7 => g (obK_13 (fun i x hx h0 => ((a3.2.2.2.1 i x hx).2.1 h0).1) hob) ad H locs lsA a1 a2 a3 a4 a5 a6 a7
      refine hWI13 fun hq => ?_
      split at ck
      · simp only [Bool.and_eq_true, decide_eq_true_eq] at ck
        obtain ⟨c2, c3⟩ := ck
        subst c3
        obtain ⟨v, hv, hk⟩ := h
        unfold rfK at hv
        rw [if_pos (by omega), if_pos ⟨hq.1, hq.2, rfl⟩] at hv
        cases hv
        exact so_strV C c1 c2 hq.1 hq.2 (dk_el cd) (hk.b n1 n2)
      · simp only [Bool.and_eq_true, decide_eq_true_eq] at ck
        obtain ⟨⟨c2, c3⟩, c4⟩ := ck
        subst c4; subst c3
        exact so_strC C c1 c2 hq.1 hq.2 (dk_el cd) (h.b n1 n2)
    · rename_i h13
      simp only [Bool.and_eq_true, decide_eq_true_eq] at ck
      obtain ⟨c1, c2⟩ := ck
      subst c2
      have h13 : a ≠ 13 := fun g => h13 g
      split at h
      · rename_i e3
        simp only [List.cons.injEq, and_true] at e3
        obtain ⟨v, hv, hk⟩ := h
        refine so_get C h13 hob c1 (v := (2, v)) (fun ad rs hw hwi => ?_) (dk_el cd) (hk.b n1 n2)
        obtain ⟨h0, -⟩ := obK_el hob h13
        have hrs : rs[b]? = some v := by unfold rfK at hv; rw [if_neg (by omega), hw] at hv; exact hv
        refine ⟨?_, (hwi.1 _ _ hw).1 v (List.mem_of_getElem? hrs)⟩
        unfold cF
        rw [e3, List.getD_eq_getElem?_getD, hrs]
        rfl
      · rename_i e3
        simp only [List.cons.injEq, and_true] at e3
        refine so_get C h13 hob c1 (v := (1, M q b)) (fun ad rs hw hwi => ⟨?_, hwi.2.1 q b⟩) (dk_el cd) (h.b n1 n2)
        unfold cF
        rw [e3]
        rfl
      · rename_i e2 e3
        have g2 : fTag a b ≠ 2 := fun g => e2 (by rw [g])
        have g1 : fTag a b ≠ 1 := fun g => e3 (by rw [g])
        refine so_get C h13 hob c1 (v := (0, M q b)) (fun ad rs hw hwi => ⟨?_, hwi.2.2.1 q b ?_⟩) (dk_el cd) (h.b n1 n2)
        · unfold cF
          split
          · rename_i g; exact absurd g g1
          · rename_i g; exact absurd g g2
          · rfl
        · rw [lg_obj (obK_el hob h13).1 hw]
          exact beq_eq_false_iff_ne.mpr g1
  case putfield i =>
    simp only [ckE, Bool.and_eq_true, decide_eq_true_eq] at ck
    obtain ⟨⟨⟨⟨cd, cn1⟩, c1⟩, c2⟩, c3⟩ := ck
    obtain ⟨e1, n1, n2⟩ := nxt_el cn1
    subst c2
    have hal : a ≠ 13 := by
      intro g
      simp only [fdOK, Bool.and_eq_true, decide_eq_true_eq] at c1
      rw [g] at c1
      exact absurd c1.2 (by decide)
    split at h
    · rename_i e3
      simp only [List.cons.injEq, and_true] at e3
      obtain ⟨x, r, rfl, h5⟩ := g1_el h
      obtain ⟨q, r, rfl, hob, h0, hk⟩ := g1_el h5
      exact so_putR C hal hob c1 c3 e3 (dk_el cd) (hk.b n1 n2)
    · rename_i e3
      simp only [List.cons.injEq, and_true] at e3
      obtain ⟨x, r, rfl, h5⟩ := g1_el h
      obtain ⟨q, r, rfl, hob, h0, hk⟩ := g1_el h5
      exact so_putL C hal hob c1 c3 e3 (dk_el cd) (hk.b n1 n2)
    · rename_i e3
      simp only [List.cons.injEq, and_true] at e3
      obtain ⟨x, r, rfl, h5⟩ := g1_el h
      obtain ⟨q, r, rfl, hob, h0, hx, hk⟩ := g1_el h5
      exact so_putI C hal hob c1 c3 (Or.inr ⟨e3, hx⟩) (dk_el cd) (hk.b n1 n2)
    · rename_i e2 e3 e4
      have g2 : fTag a b ≠ 2 := fun g => e2 (by rw [g])
      have g1 : fTag a b ≠ 1 := fun g => e3 (by rw [g])
      have g3 : fTag a b ≠ 3 := fun g => e4 (by rw [g])
      obtain ⟨x, r, rfl, h5⟩ := g1_el h
      obtain ⟨q, r, rfl, hob, h0, hk⟩ := g1_el h5
      have g0 : fTag a b = 0 := by
        have c1b := c1
        simp only [fdOK, Bool.and_eq_true, decide_eq_true_eq] at c1b
        have hc := ftyC_at c1b.2 c1b.1.2
        unfold ftyC at hc
        split at hc
        · assumption
        · exact absurd (by assumption) g1
        · exact absurd (by assumption) g3
        · exact absurd (by assumption) g2
        · cases hc
      exact so_putI C hal hob c1 c3 (Or.inl g0) (dk_el cd) (hk.b n1 n2)
  case new i =>
    simp only [ckE, Bool.and_eq_true, decide_eq_true_eq] at ck
    obtain ⟨⟨⟨⟨⟨cd, cn1⟩, cl⟩, cb⟩, ca⟩, ct⟩ := ck
    obtain ⟨e1, n1, n2⟩ := nxt_el cn1
    subst ct
    subst cb
    obtain ⟨hbd, hk⟩ := bud_iff.mp h
    exact so_new C cl ca hbd (dk_el cd) (hk.b n1 n2)
  case newarray t =>
    simp only [ckE, Bool.and_eq_true, decide_eq_true_eq] at ck
    obtain ⟨⟨⟨cd, cn1⟩, ct⟩, ck⟩ := ck
    obtain ⟨e1, n1, n2⟩ := nxt_el cn1
    subst ct
    obtain ⟨n, r, rfl, hn, h5⟩ := g1_el h
    obtain ⟨hbd, hk⟩ := bud_iff.mp h5
    split at ck
    · have ca := of_decide_eq_true ck
      subst ca
      exact so_newa_i C hn hbd (dk_el cd) (hk.b n1 n2)
    · have ca := of_decide_eq_true ck
      subst ca
      exact so_newa_l C hn hbd (dk_el cd) (hk.b n1 n2)
    · have ca := of_decide_eq_true ck
      subst ca
      exact so_newa_z C hn hbd (dk_el cd) (hk.b n1 n2)
    · cases ck
  case anewarray i =>
    simp only [ckE, Bool.and_eq_true, decide_eq_true_eq] at ck
    obtain ⟨⟨⟨cd, cn1⟩, cl⟩, ct⟩ := ck
    obtain ⟨e1, n1, n2⟩ := nxt_el cn1
    subst ct
    obtain ⟨n, r, rfl, hn, h5⟩ := g1_el h
    obtain ⟨hbd, hk⟩ := bud_iff.mp h5
    exact so_anewa C cl hn hbd (dk_el cd) (hk.b n1 n2)
  case multianewarray i dd =>
    simp only [ckE, Bool.and_eq_true, Bool.or_eq_true, decide_eq_true_eq] at ck
    obtain ⟨⟨⟨⟨⟨cd, cn1⟩, c2⟩, cl⟩, cab⟩, ct⟩ := ck
    obtain ⟨e1, n1, n2⟩ := nxt_el cn1
    subst ct
    obtain ⟨k, r, rfl, h5⟩ := g1_el h
    obtain ⟨n, r, rfl, hn, h6⟩ := g1_el h5
    obtain ⟨hbd, hk⟩ := bud_iff.mp h6
    rcases cab with ⟨ca, cb⟩ | ⟨ca, cb⟩
    · subst ca; subst cb
      exact so_mna_int C cl hn hbd (dk_el cd) (hk.b n1 n2)
    · subst ca; subst cb
      exact so_mna_long C cl hn hbd (dk_el cd) (hk.b n1 n2)
  case ireturn =>
    simp only [ckE, Bool.and_eq_true] at ck
    obtain ⟨cd, ck⟩ := ck
    split at h
    · rename_i v
      split at h
      · rename_i e3
        have e3 := Nat.eq_of_beq_eq_true e3
        obtain ⟨t, x⟩ := v
        dsimp only at e3 h
        subst e3
        refine (hret bp ls w M cn).1 x (dk_el cd) ?_ h.2
        have hh := h.1
        clear h
        match a, hh, ck with
        | 0, _, hc => exact ⟨_, of_decide_eq_true hc, rfl⟩
        | 1, h, hc => exact ⟨_, of_decide_eq_true hc, by rcases h with h | h <;> rw [h] <;> rfl⟩
        | 2, h, hc => exact ⟨_, of_decide_eq_true hc, nar2 h⟩
        | a + 3, h, hc => exact ⟨_, of_decide_eq_true hc, nar3 h⟩
      · exact h.elim
    · exact h.elim
  case lreturn =>
    simp only [ckE, Bool.and_eq_true, decide_eq_true_eq] at ck
    obtain ⟨cd, ck⟩ := ck
    split at h
    · rename_i v
      split at h
      · rename_i e3
        have e3 := Nat.eq_of_beq_eq_true e3
        obtain ⟨t, x⟩ := v
        dsimp only at e3 h
        subst e3
        exact (hret bp ls w M cn).2.1 x (dk_el cd) ck h
      · exact h.elim
    · exact h.elim
  case return_ =>
    simp only [ckE, Bool.and_eq_true, decide_eq_true_eq] at ck
    obtain ⟨cd, ck⟩ := ck
    split at h
    · exact (hret bp ls w M cn).2.2 (dk_el cd) ck h
    · exact h.elim
  case invokevirtual i =>
    split at h
    · rename_i n ci mc ms MC MS
      simp only [ckE, Bool.and_eq_true, Bool.or_eq_true, decide_eq_true_eq] at ck
      obtain ⟨⟨⟨⟨⟨⟨⟨cd, cn1⟩, ccl⟩, cn2⟩, cvt⟩, co⟩, c14⟩, cl⟩ := ck
      obtain ⟨e1, n1, n2⟩ := nxt_el cn1
      obtain ⟨k1, k2, k3, k4, k5, k6, k7⟩ := clOK_el ccl
      subst k1; subst k2; subst k4; subst k5
      subst cn2
      obtain ⟨hbd, h⟩ := bud_iff.mp h
      obtain ⟨⟨g1, g2, g3⟩, g4, -⟩ := callG_iff.mp h
      obtain ⟨q, as, hrv, hob, hk⟩ := g4 rfl
      have hal : as.length = npOf a := by
        have := congrArg List.length hrv
        rw [List.length_reverse, List.length_take, List.length_cons] at this
        omega
      rw [← hrv] at hk
      exact so_callv C ccl cvt co c14 cl hrv hal hob g2 g3 hbd (dk_el cd) (Pm_mono _ _ _ _ _ _ _ _ _ (fun v w' M' hv => hv.b n1 n2) hk)
    · exact h.elim
  case invokestatic i =>
    split at h
    · simp only [ckE, Bool.and_eq_true, decide_eq_true_eq] at ck
      obtain ⟨⟨⟨⟨cd, cn1⟩, cl⟩, c1⟩, c2⟩ := ck
      obtain ⟨e1, n1, n2⟩ := nxt_el cn1
      obtain ⟨y, r, rfl, h5⟩ := g1_el h
      obtain ⟨x, r, rfl, h6⟩ := g1_el h5
      clear h h5
      have h := h6
      clear h6
      split at h
      · rename_i g8
        exact so_mmax C cl (Nat.le_of_ble_eq_true g8) c2 c1 (dk_el cd) (h.b n1 n2)
      · exact h.elim
    · simp only [ckE, Bool.and_eq_true, decide_eq_true_eq] at ck
      obtain ⟨⟨⟨⟨cd, cn1⟩, cl⟩, c1⟩, c2⟩ := ck
      obtain ⟨e1, n1, n2⟩ := nxt_el cn1
      obtain ⟨y, r, rfl, h5⟩ := g1_el h
      obtain ⟨x, r, rfl, h6⟩ := g1_el h5
      clear h h5
      have h := h6
      clear h6
      split at h
      · rename_i g8
        exact so_mmin C cl (Nat.le_of_ble_eq_true g8) c2 c1 (dk_el cd) (h.b n1 n2)
      · exact h.elim
    · rename_i n mc ms MC MS
      simp only [ckE, Bool.and_eq_true, Bool.or_eq_true, decide_eq_true_eq] at ck
      obtain ⟨⟨⟨⟨⟨cd, cn1⟩, ccl⟩, cn2⟩, cst⟩, cl⟩ := ck
      obtain ⟨e1, n1, n2⟩ := nxt_el cn1
      obtain ⟨k1, k2, k3, k4, k5, k6, k7⟩ := clOK_el ccl
      subst k1; subst k2; subst k4; subst k5
      subst cn2
      obtain ⟨hbd, h⟩ := bud_iff.mp h
      obtain ⟨⟨g1, g2, g3⟩, -, g4⟩ := callG_iff.mp h
      have hk := g4 rfl
      exact so_calls C ccl cst cl g1 g2 g3 hbd (dk_el cd) (Pm_mono _ _ _ _ _ _ _ _ _ (fun v w' M' hv => hv.b n1 n2) hk)
    · exact h.elim
  case invokespecial i =>
    split at h
    · simp only [ckE, Bool.and_eq_true, decide_eq_true_eq] at ck
      obtain ⟨⟨⟨⟨cd, cn1⟩, cl⟩, c1⟩, c2⟩ := ck
      obtain ⟨e1, n1, n2⟩ := nxt_el cn1
      split at h
      · rename_i v
        split at h
        · rename_i e3
          have e3 := Nat.eq_of_beq_eq_true e3
          obtain ⟨t, x⟩ := v
          dsimp only at e3 h
          subst e3
          exact so_obj C cl h.1 c2 c1 (by unfold catS; simp) (dk_el cd) (h.2.b n1 n2)
        · exact h.elim
      · exact h.elim
    · rename_i n mc ms MC MS
      simp only [ckE, Bool.and_eq_true, Bool.or_eq_true, decide_eq_true_eq] at ck
      obtain ⟨⟨⟨⟨⟨⟨cd, cn1⟩, ccl⟩, cn2⟩, csp⟩, cl⟩, crt⟩ := ck
      obtain ⟨e1, n1, n2⟩ := nxt_el cn1
      obtain ⟨k1, k2, k3, k4, k5, k6, k7⟩ := clOK_el ccl
      subst k1; subst k2; subst k4; subst k5
      subst cn2
      obtain ⟨hbd, h⟩ := bud_iff.mp h
      obtain ⟨⟨g1, g2, g3⟩, g4, -⟩ := callG_iff.mp h
      obtain ⟨q, as, hrv, hq0, hk⟩ := g4 rfl
      have hal : as.length = npOf a := by
        have := congrArg List.length hrv
        rw [List.length_reverse, List.length_take, List.length_cons] at this
        omega
      rw [← hrv] at hk
      exact so_calli C ccl csp crt cl hrv hal hq0 g2 g3 hbd (dk_el cd) (Pm_mono _ _ _ _ _ _ _ _ _ (fun v w' M' hv => hv.b n1 n2) hk)
    · exact h.elim
end SNB
end
section
section SNC
variable {l : Launch} {D : va_G} {kA : Nat → ClassId} {ro : Int → Option Nat} {RM : Mm_}
theorem Pm_forg : Forg (Pm l D kA ro RM) := by
  intro id pc ls ls' st w M cn Q hl hs h A p e s m args below meth c n0 ad0 C ad H locs lsA e0 a1 a2 a3 a4 a5 a6 a7 he
  exact h A p e s m args below meth c n0 ad0 C ad H locs lsA e0 a1 a2 a3 (a4.forget hl hs) (fun i v hv => a5 i v (hs i v hv)) a6 a7 he
theorem Pm_step : Step (Pm l D kA ro RM) := by
  intro id pc ls st w M cn Q e0 he h A p e s m args below meth c n0 ad0 C
  refine Wat.of fun e1 he1 => ?_
  have e2 : e0 = e1 := Option.some.inj (he.symm.trans he1)
  subst e2
  exact step_sound C (ret_ok C) (ck_all id pc e0 he) (st1_mono (cPof_mono Pm_mono) (fun pc ls st w M cn hk => hk A p e s m args below meth c n0 ad0 C) e0 pc ls st w M cn h)
/-- THE PURE MACHINE'S JUDGEMENT HOLDS OF THE MACHINE -/
theorem Pm_clo : Clo (Pm l D kA ro RM) := ⟨Pm_mono, Pm_forg, Pm_step⟩
end SNC
end
section
/-! THE CLAIM OUT OF ONE WALK OF THE LAW'S BODY. Your part is whole_start (and what it stands on); all else here is the same for every law, but numbers. -/
def R_law : String := "BorrowedWordsLaw"
def lw_P (b : Addr) (xs : List Int32) (args : Array Value) (s : State) : Prop := args = #[.ref b] ∧ s.IntsAt b xs ∧ xs.length ≤ 2560 ∧ (Jvm.Cond.and given_1 narrow_1).before args s = true
def lw_Q (_ : Array Value) (s : State) (o : Outcome) (t : State) : Prop := o = .returned (some (.int 1)) ∧ Framed s o t [] 600000 7302250
def lw_Z (below : List Frame) (a : Array Value) (s : State) : State → Prop := fun t => ∃ o, t.status = .running ∧ Ended t below o ∧ lw_Q a s o t
/-- the law's own end, with 1 on the stack, nothing written that was there before, its room as the claim has it -/
theorem lw_ret {p : Program} {l : Launch} {e : Env} {s : State} {m : MethodId} {below : List Frame} {meth : Method} {c : Code} {b : Nat} (hx : p.tables.exec = Jvm.exec) (hb : c.code = code) (hr : meth.sig.returnType = ret) (hlocks : meth.locks = false) {pc : Nat} {H : Heap} {ls : Array Slot} (hdg : decode code pc = .ok (.ireturn, 1)) : W p l e room_1 s m #[Value.ref b] below meth c H [] 600000 7302250 (lw_Z below #[Value.ref b] s) (F0 m pc ls [.int 1]) := by
  intro T hT X
  obtain ⟨fs, hret, hrun, hended, hW, hframe⟩ := X.leave (v := some (.int 1)) (hlocks := hlocks) (fun h => by rw [hr] at h; cases h)
  have hmeth' : T.vm.method? m = some meth := X.method'
  refine ⟨T.setFrames fs, ?_, .returned (some (.int 1)), hrun, hended, rfl, ⟨_, rfl⟩, hW, hframe⟩
  jvm_step X.here [X.here.top, hx, hb, hdg, hmeth', hr, ret, narrow_b1]
  (try refine ⟨rfl, ?_⟩); (try refine ⟨rfl, ?_⟩)
  first | (intro acts; rw [hret _ acts rfl rfl rfl]) | rw [hret _ _ rfl rfl rfl]
  exact Steps.refl _
/-- what holds at the law's entry: the machine, the code, the tables' words (any of lw_tbl by 'hts w (by decide +kernel)'), the script of L ints xs at the cell b, what the Statement gives of the start (any of its parts by flat_of_before) -/
def lw_At (p : Program) (s : State) (m : MethodId) (meth : Method) (c : Code) (b L : Nat) (xs : Nat → Int32) : Prop :=
  p.tables.exec = Jvm.exec ∧ c.code = code ∧ meth.sig.returnType = ret ∧ c.maxLocals = 4 ∧ s.vm.findClass R_law = some m.cls ∧ (∀ w ∈ lw_tbl, w.before #[Value.ref b] s = true) ∧ va_X b L xs s s.heap ∧ b < s.heap.size ∧ meth.locks = false ∧ (Jvm.Cond.and given_1 narrow_1).before #[Value.ref b] s = true

/-! THE LAW'S OWN JUDGEMENT, and what surrounds it: the read-only cells out of the Statement's premises -/
def strB : List (List Int) := [[108, 101, 97, 115, 116], [115, 108, 105, 112, 115], [109, 101, 97, 110], [99, 111, 109, 109, 111, 110], [102, 114, 101, 101], [108, 105, 103, 104, 116], [104, 101, 97, 118, 121], [115, 116, 114, 105, 107, 101], [121, 101, 115], [110, 111]]
/-- the read-only memory: the script at -2, the static rows at -3, -4, -5, the strings' bytes at -30 - i -/
def RMx (L : Nat) (xs : Nat → Int32) : Mm_ := fun a j =>
  if a = -2 then (if j = -1 then (L : Int) else if 0 ≤ j ∧ j < L then (xs j.toNat).toInt else 0)
  else if j = -1 then (if -5 ≤ a ∧ a ≤ -3 then 7 else if -39 ≤ a ∧ a ≤ -30 then ((strB.getD (-a - 30).toNat []).length : Int) else 0)
  else if a = -3 then ([4, 0, 0, 1, 900, 10, 50] : List Int).getD j.toNat 0
  else if a = -4 then ([2, 0, 0, 0, 0, 0, 0] : List Int).getD j.toNat 0
  else if a = -5 then ([20, 3, 1, 1, 999, 100, 100] : List Int).getD j.toNat 0
  else if -39 ≤ a ∧ a ≤ -30 then (strB.getD (-a - 30).toNat []).getD j.toNat 0
  else 0
theorem getD_in {l : List Int} {n : Nat} (h : ∀ x ∈ l, inI x) : inI (l.getD n 0) := by
  rw [List.getD_eq_getElem?_getD]
  cases hx : l[n]? with
  | none => exact in0
  | some x => exact h x (List.mem_of_getElem? hx)
theorem strB_in : ∀ l ∈ strB, (∀ x ∈ l, inI x) ∧ l.length ≤ 6 := by
  unfold inI
  decide +kernel
theorem strB_at (n : Nat) : (∀ x ∈ strB.getD n [], inI x) ∧ (strB.getD n []).length ≤ 6 := by
  rw [List.getD_eq_getElem?_getD]
  cases hx : strB[n]? with
  | none => exact ⟨fun x h => (by cases h), Nat.zero_le _⟩
  | some l => exact strB_in l (List.mem_of_getElem? hx)
theorem RMx_in {L : Nat} (hL : L ≤ 2560) (xs : Nat → Int32) (a j : Int) : inI (RMx L xs a j) := by
  unfold RMx
  have g1 : ∀ x ∈ ([4, 0, 0, 1, 900, 10, 50] : List Int), inI x := by unfold inI; decide +kernel
  have g2 : ∀ x ∈ ([2, 0, 0, 0, 0, 0, 0] : List Int), inI x := by unfold inI; decide +kernel
  have g3 : ∀ x ∈ ([20, 3, 1, 1, 999, 100, 100] : List Int), inI x := by unfold inI; decide +kernel
  have g4 := strB_at (-a - 30).toNat
  split
  · split
    · unfold inI; omega
    · split
      · exact inI_to _
      · exact in0
  · split
    · split
      · unfold inI; omega
      · split
        · unfold inI; omega
        · exact in0
    · split
      · exact getD_in g1
      · split
        · exact getD_in g2
        · split
          · exact getD_in g3
          · split
            · exact getD_in g4.1
            · exact in0
theorem WI0 {L : Nat} (hL : L ≤ 2560) (xs : Nat → Int32) : WI (RMx L xs) [] (RMx L xs) :=
  ⟨fun i c h => (by cases i <;> cases h), fun a j => inI_L (RMx_in hL xs a j), fun a j _ => RMx_in hL xs a j, fun _ _ _ => rfl⟩
def LAWI : Nat := 210
/-- the judgement of every method, and of the law its own end -/
def Pw (l : Launch) (D : va_G) (kA : Nat → ClassId) (ro : Int → Option Nat) (RM : Mm_) : Jg_ := fun id pc ls st w M cn Q =>
  Pm l D kA ro RM id pc ls st w M cn Q ∧ (id = LAWI → (∀ v w' M', Q v w' M' → v = some (0, 1)) → ∀ (p : Program) (e : Env) (s : State) (m : MethodId) (b : Nat) (below : List Frame) (meth : Method) (c : Code), Cx D kA ro RM LAWI (fun q : Nat => s.heap.size ≤ q) p s m #[Value.ref b] meth c →
    Wat l D kA ro RM LAWI (fun q : Nat => s.heap.size ≤ q) p e s m #[Value.ref b] below meth c 0 (fun _ => 0) (lw_Z below #[Value.ref b] s) pc ls st w M cn)
theorem st1_cP {cP cP' : Nat → List Vl_ → Wd_ → Mm_ → Qp_ → Prop} {k : Nat → Lc_ → List Vl_ → Wd_ → Mm_ → Cn_ → Prop} {Q : Qp_} (hc : ∀ id as w M (Q : Qp_), cP id as w M Q → cP' id as w M Q) (e : In_) (pc : Nat) (ls : Lc_) (st : List Vl_) (w : Wd_) (M : Mm_) (cn : Cn_) : st1 cP k Q e pc ls st w M cn → st1 cP' k Q e pc ls st w M cn := by
  obtain ⟨ins, bp, a, b, z, tg⟩ := e
  intro q
  cases ins
  all_goals try exact q
  all_goals simp only [st1] at q ⊢
  all_goals (repeat' first
    | (refine bud_mono ?_ q; clear q; intro q)
    | (refine callG_mono ?_ q; clear q; intro x y r q)
    | exact q
    | (refine And.imp ?_ ?_ q <;> clear q <;> intro q)
    | exact hc _ _ _ _ _ q
    | (split at q))
section LWM
variable {l : Launch} {D : va_G} {kA : Nat → ClassId} {ro : Int → Option Nat} {RM : Mm_}
theorem Pw_mono : Mono (Pw l D kA ro RM) := by
  intro id pc ls st w M cn Q Q' hq h
  exact ⟨Pm_mono _ _ _ _ _ _ _ _ _ hq h.1, fun e1 h1 => h.2 e1 (fun v w' M' hv => h1 v w' M' (hq v w' M' hv))⟩
theorem Pw_forg : Forg (Pw l D kA ro RM) := by
  intro id pc ls ls' st w M cn Q hl hs h
  refine ⟨Pm_forg _ _ _ _ _ _ _ _ _ hl hs h.1, ?_⟩
  intro e1 h1 p e s m b below meth c C ad H locs lsA e0 a1 a2 a3 a4 a5 a6 a7 he
  exact h.2 e1 h1 p e s m b below meth c C ad H locs lsA e0 a1 a2 a3 (a4.forget hl hs) (fun i v hv => a5 i v (hs i v hv)) a6 a7 he
theorem law_ret {p : Program} {e : Env} {s : State} {m : MethodId} {b : Nat} {below : List Frame} {meth : Method} {c : Code} (C : Cx D kA ro RM LAWI (fun q : Nat => s.heap.size ≤ q) p s m #[Value.ref b] meth c) {Q : Qp_} (hQ : ∀ v w' M', Q v w' M' → v = some (0, 1)) : RetOK l D kA ro RM LAWI (fun q : Nat => s.heap.size ≤ q) p e s m #[Value.ref b] below meth c 0 (fun _ => 0) (lw_Z below #[Value.ref b] s) Q := by
  obtain ⟨hx, hb, hr, hlk, hml, hown, hnm, hts, hen, hK, hA⟩ := C
  intro bp ls w M cn
  refine ⟨fun x hd _ hq => ?_, fun x hd h1 hq => ?_, fun hd h1 hq => ?_⟩
  · intro ad H locs lsA a1 a2 a3 a4 a5 a6 a7
    have e1 := hQ _ _ _ hq
    simp only [Option.some.injEq, Prod.mk.injEq, true_and] at e1
    subst e1
    refine va_forget (fun q hq => a3.2.2.1.2.2 q hq) ?_
    refine W.widen (k := 600000) (n := 7302250) a7.1 a7.2 ?_
    exact lw_ret hx hb hr hlk hd
  · have e1 := hQ _ _ _ hq
    simp at e1
  · have e1 := hQ _ _ _ hq
    simp at e1
theorem Pw_step : Step (Pw l D kA ro RM) := by
  intro id pc ls st w M cn Q e0 he h
  refine ⟨Pm_step _ _ _ _ _ _ _ _ _ he (st1_mono (cPof_mono Pm_mono) (fun pc ls st w M cn hk => hk.1) e0 pc ls st w M cn (st1_cP (fun id as w M Q hk => hk.1) e0 pc ls st w M cn h)), ?_⟩
  intro e1 h1 p e s m b below meth c C
  subst e1
  refine Wat.of fun e2 he2 => ?_
  have e3 : e0 = e2 := Option.some.inj (he.symm.trans he2)
  subst e3
  exact step_sound C (law_ret C h1) (ck_all LAWI pc e0 he) (st1_mono (cPof_mono Pm_mono) (fun pc ls st w M cn hk => hk.2 rfl h1 p e s m b below meth c C) e0 pc ls st w M cn (st1_cP (fun id as w M Q hk => hk.1) e0 pc ls st w M cn h))
theorem Pw_clo : Clo (Pw l D kA ro RM) := ⟨Pw_mono, Pw_forg, Pw_step⟩
end LWM
end
section
/-! WHAT THE STATEMENT SAYS OF THE START: strings, statics, classes -/
def NF : List Jvm.Cond := flatC (Jvm.Cond.and given_1 narrow_1)
def sIdx : List Nat := [80, 82, 84, 86, 88, 90, 92, 94, 72, 78]
def sLen : List Nat := [5, 5, 4, 6, 4, 5, 5, 6, 3, 2]
def sByt : List (List Int32) := [[108, 101, 97, 115, 116], [115, 108, 105, 112, 115], [109, 101, 97, 110], [99, 111, 109, 109, 111, 110], [102, 114, 101, 101], [108, 105, 103, 104, 116], [104, 101, 97, 118, 121], [115, 116, 114, 105, 107, 101], [121, 101, 115], [110, 111]]
def sTm (i : Nat) : Term := .string "BorrowedWords$RuleReader" (sIdx.getD i 0)
def sVal (i : Nat) : Term := .field (sTm i) "java/lang/String" "value" "[B"
theorem nf_ex : (List.range 10).all (fun i => decide (Jvm.Cond.exactly (sTm i) "java/lang/String" ∈ NF)) = true := by decide +kernel
theorem nf_co : (List.range 10).all (fun i => decide (Jvm.Cond.eq (.field (sTm i) "java/lang/String" "coder" "B") (.int 0) ∈ NF)) = true := by decide +kernel
theorem nf_ar : (List.range 10).all (fun i => decide (Jvm.Cond.arrayOf (sVal i) .byte ∈ NF)) = true := by decide +kernel
theorem nf_le : (List.range 10).all (fun i => decide (Jvm.Cond.eq (.length (sVal i)) (.int (Int32.ofNat (sLen.getD i 0))) ∈ NF)) = true := by decide +kernel
theorem nf_el : (List.range 10).all (fun i => (List.range (sLen.getD i 0)).all (fun j => decide (Jvm.Cond.eq (.elem (sVal i) (.int (Int32.ofNat j))) (.int ((sByt.getD i []).getD j 0)) ∈ NF))) = true := by decide +kernel
theorem nf_ne : (List.range 10).all (fun i => (List.range 10).all (fun j => decide (i = j) || (decide (Jvm.Cond.not (Jvm.Cond.eq (sTm i) (sTm j)) ∈ NF) || decide (Jvm.Cond.not (Jvm.Cond.eq (sTm j) (sTm i)) ∈ NF)))) = true := by decide +kernel
def aTm (n : String) : Term := .static "BorrowedWords" n "[I"
def aVal (z : Int) : List Int32 := if z = -3 then [4, 0, 0, 1, 900, 10, 50] else if z = -4 then [2, 0, 0, 0, 0, 0, 0] else [20, 3, 1, 1, 999, 100, 100]
theorem nf_sar : ([-3, -4, -5] : List Int).all (fun z => decide (Jvm.Cond.arrayOf (aTm (stN_ z)) .int ∈ NF)) = true := by decide +kernel
theorem nf_sle : ([-3, -4, -5] : List Int).all (fun z => decide (Jvm.Cond.eq (.length (aTm (stN_ z))) (.int 7) ∈ NF)) = true := by decide +kernel
theorem nf_sel : ([-3, -4, -5] : List Int).all (fun z => (List.range 7).all (fun j => decide (Jvm.Cond.eq (.elem (aTm (stN_ z)) (.int (Int32.ofNat j))) (.int ((aVal z).getD j 0)) ∈ NF))) = true := by decide +kernel
theorem nf_cs : Jvm.Cond.eq (.static "java/lang/String" "COMPACT_STRINGS" "Z") (.int 1) ∈ NF := by decide +kernel
theorem nf_fm : Jvm.Cond.isRef (.static "jdk/internal/util/Preconditions" "SIOOBE_FORMATTER" "Ljava/util/function/BiFunction;") ∈ NF := by decide +kernel
theorem ls_COMPACT_STRINGS : Jvm.Cond.laysStatic "java/lang/String" "COMPACT_STRINGS" "Z" ∈ tables_1 := (tb3 (List.mem_of_getElem? (i := 129) rfl))
theorem ls_SIOOBE_FORMATTER : Jvm.Cond.laysStatic "jdk/internal/util/Preconditions" "SIOOBE_FORMATTER" "Ljava/util/function/BiFunction;" ∈ tables_1 := (tb3 (List.mem_of_getElem? (i := 145) rfl))
theorem ls_LOWEST : Jvm.Cond.laysStatic "BorrowedWords" "LOWEST" "[I" ∈ tables_1 := (tb3 (List.mem_of_getElem? (i := 198) rfl))
theorem ls_HIGHEST : Jvm.Cond.laysStatic "BorrowedWords" "HIGHEST" "[I" ∈ tables_1 := (tb3 (List.mem_of_getElem? (i := 200) rfl))
theorem ls_AT_FIRST : Jvm.Cond.laysStatic "BorrowedWords" "AT_FIRST" "[I" ∈ tables_1 := (tb3 (List.mem_of_getElem? (i := 223) rfl))
theorem in_pre : Jvm.Cond.initialized "jdk/internal/util/Preconditions" ∈ GW := (gw1 17 rfl rfl)
theorem in_str : Jvm.Cond.initialized "java/lang/String" ∈ GW := (gw1 15 rfl rfl)
theorem in_bw : Jvm.Cond.initialized "BorrowedWords" ∈ GW := (gw1 1 rfl rfl)
def roX (b tA tB tC : Nat) (f : Option Nat) (adK adV : Nat → Nat) : Int → Option Nat := fun r =>
  if r = -2 then some b else if r = -3 then some tA else if r = -4 then some tB else if r = -5 then some tC else if r = -6 then f
  else if -19 ≤ r ∧ r ≤ -10 then some (adK (-r - 10).toNat) else if -39 ≤ r ∧ r ≤ -30 then some (adV (-r - 30).toNat) else none
theorem arr_of {s : State} {args : Array Value} {ty : FieldType} (h : (Jvm.Cond.arrayClass ty).before args s = true) : ∃ cA, ArrOfT s cA ty ∧ s.vm.findClass ("[" ++ ty.toString) = some cA := by
  unfold Jvm.Cond.before at h
  simp only [Cond.holds, Cond.value, beq_iff_eq] at h
  cases hc : s.vm.findClass ("[" ++ ty.toString) with
  | none => simp [hc] at h
  | some cA =>
    simp only [hc, Option.bind_some, Option.map_eq_some_iff] at h
    obtain ⟨k, hk, hb⟩ := h
    cases hkind : k.kind with
    | array comp t2 =>
      simp only [hkind, decide_eq_true_eq] at hb
      subst hb
      exact ⟨cA, fun N z => ⟨(fun k h => by cases h), k, hk, comp, hkind⟩, rfl⟩
    | _ => simp [hkind] at hb
theorem arr_ra {s : State} {cA : ClassId} {ty : FieldType} (h : s.vm.findClass ("[" ++ ty.toString) = some cA) (hn : ∀ C, ty ≠ .object C) : va_RA s cA ty := by
  cases ty with
  | object C => exact absurd rfl (hn C)
  | _ => exact h
theorem vk_R_any {own tx : String} {k a : Nat} {A : Array Value} {U : State} (h1 : (Jvm.Cond.stringRef own k tx).before A U = true) (h2 : (Term.string own k).eval A U none [] U = some (.ref a)) : vk_R own k tx a U := vk_R.of h1 h2
section LWS
variable {p : Program} {e : Env} {s : State} {m : MethodId} {below : List Frame} {meth : Method} {c : Code} {b L : Nat} {xs : Nat → Int32}
theorem EN_of (C0 : lw_At p s m meth c b L xs) (hL : L ≤ 2560) : ∃ ro : Int → Option Nat, ro (-2) = some b ∧ EN ro (RMx L xs) (fun q : Nat => s.heap.size ≤ q) s := by
  obtain ⟨hx, hb, hr, hml, hown, hts, hX, hbl, hlk, hgv⟩ := C0
  have hs := flat_of_before _ hgv
  have hA : ∀ a : Nat, a < s.heap.size → ¬ (fun q : Nat => s.heap.size ≤ q) a := fun a ha h => by dsimp only at h; omega
  have ht1 : ∀ w ∈ tables_1, w.before #[Value.ref b] s = true := fun w hw => hts w (List.mem_append_right _ hw)
  have htG : ∀ w ∈ GW, w.before #[Value.ref b] s = true := fun w hw => hts w (List.mem_filter.mp hw).1
  have all1 : ∀ {f : Nat → Bool}, (List.range 10).all f = true → ∀ i, i < 10 → f i = true := fun h i hi => List.all_eq_true.mp h i (List.mem_range.mpr hi)
  obtain ⟨adK, adV, hS, hT⟩ := vk_Sof (args := #[Value.ref b]) (s := s) (N := 10) (tm := sTm) (len := sLen) (byt := sByt) (A := fun q : Nat => s.heap.size ≤ q)
    (fun i hi => by have : (List.range 10).all (fun i => decide (sLen.getD i 0 < 2 ^ 31)) = true := by decide
                    exact of_decide_eq_true (all1 this i hi))
    (fun i hi => hs _ (of_decide_eq_true (all1 nf_ex i hi))) (fun i hi => hs _ (of_decide_eq_true (all1 nf_co i hi))) (fun i hi => hs _ (of_decide_eq_true (all1 nf_ar i hi))) (fun i hi => hs _ (of_decide_eq_true (all1 nf_le i hi)))
    (fun i hi j hj => hs _ (of_decide_eq_true (List.all_eq_true.mp (all1 nf_el i hi) j (List.mem_range.mpr hj))))
    (fun i j hi hj hne => by
      have h := all1 (all1 nf_ne i hi) j hj
      simp only [Bool.or_eq_true, decide_eq_true_eq] at h
      rcases h with h | h | h
      · exact absurd h hne
      · exact Or.inl (hs _ h)
      · exact Or.inr (hs _ h)) hA
  have hst : ∀ z : Int, z ∈ ([-3, -4, -5] : List Int) → ∃ t : Nat, (aTm (stN_ z)).eval #[Value.ref b] s none [] s = some (.ref t) ∧ va_T .int t 7 (fun j => .int ((aVal z).getD j 0)) (fun q : Nat => s.heap.size ≤ q) s s.heap := by
    intro z hz
    exact va_Tof (by decide) (hs _ (of_decide_eq_true (List.all_eq_true.mp nf_sar z hz))) (va_eqt (hs _ (of_decide_eq_true (List.all_eq_true.mp nf_sle z hz)))) (fun j hj => va_eqt (hs _ (of_decide_eq_true (List.all_eq_true.mp (List.all_eq_true.mp nf_sel z hz) j (List.mem_range.mpr hj))))) hA
  obtain ⟨tA, hA1, hA2⟩ := hst (-3) (by decide)
  obtain ⟨tB, hB1, hB2⟩ := hst (-4) (by decide)
  obtain ⟨tC, hC1, hC2⟩ := hst (-5) (by decide)
  have hfm := va_Zqof (A := fun q : Nat => s.heap.size ≤ q) (ht1 _ ls_SIOOBE_FORMATTER) (htG _ in_pre) (hs _ nf_fm) hA
  obtain ⟨f, hf⟩ : ∃ f : Option Nat, va_Z "jdk/internal/util/Preconditions" "SIOOBE_FORMATTER" "Ljava/util/function/BiFunction;" (va_rf f) (fun q : Nat => s.heap.size ≤ q) s s.heap := by
    rcases hfm with h | ⟨t, h⟩
    · exact ⟨none, h⟩
    · exact ⟨some t, h⟩
  refine ⟨roX b tA tB tC f adK adV, rfl, fun w hw => ?_, ?_, ?_, ?_, ?_, ?_, ?_, hf, ?_, ?_⟩
  · have := ht1 w (NW_tb w hw)
    refine va_Nw.of ?_ this
    have hn := List.all_eq_true.mp NW_nst w hw
    cases w <;> first | rfl | cases hn
  · exact va_AO.of (ht1 _ ao_T)
  · exact ht1 _ ao_I
  · exact ht1 _ ao_L
  · intro z z1 z2
    obtain ⟨s1, s2, s3, s4⟩ := hS.1 (-z - 10).toNat (by omega)
    have e1 : roX b tA tB tC f adK adV z = some (adK (-z - 10).toNat) := by
      unfold roX
      rw [if_neg (by omega), if_neg (by omega), if_neg (by omega), if_neg (by omega), if_neg (by omega), if_pos ⟨z1, z2⟩]
    have e2 : roX b tA tB tC f adK adV (z - 20) = some (adV (-z - 10).toNat) := by
      unfold roX
      rw [if_neg (by omega), if_neg (by omega), if_neg (by omega), if_neg (by omega), if_neg (by omega), if_neg (by omega), if_pos (by omega), show (-(z - 20) - 30).toNat = (-z - 10).toNat by omega]
    refine ⟨_, _, e1, e2, s1, ?_, s3, ?_⟩
    · have e3 : RMx L xs z 1 = 0 := by
        unfold RMx
        rw [if_neg (by omega), if_neg (by omega), if_neg (by omega), if_neg (by omega), if_neg (by omega), if_neg (by omega)]
      rw [e3]
      exact s2
    · have hz : (-z - 10).toNat < 10 := by omega
      have e4 : (RMx L xs (z - 20) (-1)).toNat = sLen.getD (-z - 10).toNat 0 ∧ ∀ j : Nat, Int32.ofInt (RMx L xs (z - 20) j) = (sByt.getD (-z - 10).toNat []).getD j 0 := by
        unfold RMx
        rw [if_neg (by omega), if_pos rfl, if_neg (by omega), if_pos (by omega), show (-(z - 20) - 30).toNat = (-z - 10).toNat by omega]
        generalize (-z - 10).toNat = i at hz
        refine ⟨?_, fun j => ?_⟩
        · have : (List.range 10).all (fun i => decide (((strB.getD i []).length : Int).toNat = sLen.getD i 0)) = true := by decide
          exact of_decide_eq_true (all1 this i hz)
        · rw [if_neg (by omega), if_neg (by omega), if_neg (by omega), if_neg (by omega), if_neg (by omega), if_pos (by omega)]
          have key : ∀ l : List Int, Int32.ofInt (l.getD j 0) = (l.map Int32.ofInt).getD j 0 := by
            intro l
            rw [List.getD_eq_getElem?_getD, List.getD_eq_getElem?_getD, List.getElem?_map]
            cases l[j]? <;> rfl
          have e5 : (List.range 10).all (fun i => decide ((strB.getD i []).map Int32.ofInt = sByt.getD i [])) = true := by decide
          rw [show ((j : Int)).toNat = j from rfl, key, of_decide_eq_true (all1 e5 i hz)]
      rw [e4.1, show (fun j : Nat => Value.int (Int32.ofInt (RMx L xs (z - 20) j))) = fun j => Value.int ((sByt.getD (-z - 10).toNat []).getD j 0) from funext fun j => by rw [e4.2 j]]
      exact s4
  · intro q hq
    have h1 := ht1 _ (srL_ok q hq)
    have hq2 : q.1 < 10 ∧ sIdx.getD q.1 0 = q.2.1 := by
      have : srL.all (fun q => decide (q.1 < 10 ∧ sIdx.getD q.1 0 = q.2.1)) = true := by decide
      exact of_decide_eq_true (List.all_eq_true.mp this q hq)
    have h2 := hT q.1 hq2.1
    unfold sTm at h2
    rw [hq2.2] at h2
    have e1 : roX b tA tB tC f adK adV (-(q.1 : Int) - 10) = some (adK q.1) := by
      unfold roX
      rw [if_neg (by omega), if_neg (by omega), if_neg (by omega), if_neg (by omega), if_neg (by omega), if_pos (by omega), show (-(-(q.1 : Int) - 10) - 10).toNat = q.1 by omega]
    exact ⟨_, e1, vk_R_any h1 h2⟩
  · exact va_Zof (ht1 _ ls_COMPACT_STRINGS) (htG _ in_str) (va_eqt (hs _ nf_cs)) hA
  · intro z z1 z2
    rcases (show z = -3 ∨ z = -4 ∨ z = -5 by omega) with rfl | rfl | rfl
    · exact ⟨tA, rfl, va_Zof (ht1 _ ls_AT_FIRST) (htG _ in_bw) hA1 hA⟩
    · exact ⟨tB, rfl, va_Zof (ht1 _ ls_LOWEST) (htG _ in_bw) hB1 hA⟩
    · exact ⟨tC, rfl, va_Zof (ht1 _ ls_HIGHEST) (htG _ in_bw) hC1 hA⟩
  · intro z z1 z2
    rcases (show z = -2 ∨ z = -3 ∨ z = -4 ∨ z = -5 by omega) with rfl | rfl | rfl | rfl
    · refine ⟨b, rfl, ?_⟩
      obtain ⟨scr, x1, x2, x3, x4, x5⟩ := hX
      have eL : (RMx L xs (-2) (-1)).toNat = L := rfl
      rw [eL]
      refine ⟨scr, x1, x2, x3, Nat.le_of_eq x4.symm, by rw [x4], fun j hj => ?_, hA b hbl⟩
      rw [x5 j hj]
      show some (Value.int (xs j)) = some (Value.int (Int32.ofInt (RMx L xs (-2) j)))
      have e1 : RMx L xs (-2) j = (xs j).toInt := by
        unfold RMx
        rw [if_pos rfl, if_neg (by omega), if_pos (by omega)]
        first | done | rfl
      rw [e1, Int32.ofInt_toInt]
    · exact ⟨tA, rfl, by have e1 : (fun j : Nat => Value.int (Int32.ofInt (RMx L xs (-3) j))) = fun j => Value.int ((aVal (-3)).getD j 0) := funext fun j => by
                           have e2 : RMx L xs (-3) j = ([4, 0, 0, 1, 900, 10, 50] : List Int).getD j 0 := by unfold RMx; rw [if_neg (by omega), if_neg (by omega), if_pos rfl]; rfl
                           rw [e2]
                           match j with
                           | 0 => rfl
                           | 1 => rfl
                           | 2 => rfl
                           | 3 => rfl
                           | 4 => rfl
                           | 5 => rfl
                           | 6 => rfl
                           | j + 7 => rfl
                         rw [e1]; exact hA2⟩
    · exact ⟨tB, rfl, by have e1 : (fun j : Nat => Value.int (Int32.ofInt (RMx L xs (-4) j))) = fun j => Value.int ((aVal (-4)).getD j 0) := funext fun j => by
                           have e2 : RMx L xs (-4) j = ([2, 0, 0, 0, 0, 0, 0] : List Int).getD j 0 := by unfold RMx; rw [if_neg (by omega), if_neg (by omega), if_neg (by omega), if_pos rfl]; rfl
                           rw [e2]
                           match j with
                           | 0 => rfl
                           | 1 => rfl
                           | 2 => rfl
                           | 3 => rfl
                           | 4 => rfl
                           | 5 => rfl
                           | 6 => rfl
                           | j + 7 => rfl
                         rw [e1]; exact hB2⟩
    · exact ⟨tC, rfl, by have e1 : (fun j : Nat => Value.int (Int32.ofInt (RMx L xs (-5) j))) = fun j => Value.int ((aVal (-5)).getD j 0) := funext fun j => by
                           have e2 : RMx L xs (-5) j = ([20, 3, 1, 1, 999, 100, 100] : List Int).getD j 0 := by unfold RMx; rw [if_neg (by omega), if_neg (by omega), if_neg (by omega), if_neg (by omega), if_pos rfl]; rfl
                           rw [e2]
                           match j with
                           | 0 => rfl
                           | 1 => rfl
                           | 2 => rfl
                           | 3 => rfl
                           | 4 => rfl
                           | 5 => rfl
                           | 6 => rfl
                           | j + 7 => rfl
                         rw [e1]; exact hC2⟩
end LWS
section LWT
variable {p : Program} {e : Env} {s : State} {m : MethodId} {below : List Frame} {meth : Method} {c : Code} {b L : Nat} {xs : Nat → Int32}
/-- FROM THE PURE MACHINE TO THE LAW'S WALK: if every closed judgement holds of the law's entry, the machine comes to the law's end with true -/
theorem law_start (l : Launch) (hL : L ≤ 2560) (C0 : lw_At p s m meth c b L xs) (hlaw : ∀ P : Jg_, Clo P → P LAWI 0 [some (2, -2), none, none, none] [] [] (RMx L xs) (0, 0) (fun v _ _ => v = some (0, 1))) : W p l e room_1 s m #[Value.ref b] below meth c s.heap [] 0 0 (lw_Z below #[Value.ref b] s) (entryFrame m ([Value.ref b] : List Value).toArray 4) := by
  obtain ⟨ro, hro, hen⟩ := EN_of C0 hL
  obtain ⟨hx, hb, hr, hml, hown, hts, hX, hbl, hlk, hgv⟩ := C0
  have htG : ∀ w ∈ GW, w.before #[Value.ref b] s = true := fun w hw => hts w (List.mem_filter.mp hw).1
  have hcl : ∀ k : Nat, ∃ q : ClassId × (Nat → Nat), ∀ r : vw_C, cls_[k]? = some r → u_Kn s r.1 r.2.1 r.2.2 q.1 q.2 := by
    intro k
    cases hk : cls_[k]? with
    | none => exact ⟨(0, fun _ => 0), fun r h => by cases h⟩
    | some r =>
      obtain ⟨k1, -, -, k4, -⟩ := ck_ok k r hk
      obtain ⟨cC, iS, h⟩ := u_known htG k1 (htG _ k4)
      exact ⟨(cC, iS), fun r2 h2 => by cases h2; exact h⟩
  have hD : ∃ D : va_G, ∀ (k : Nat) (r : vw_C), cls_[k]? = some r → u_Kn s r.1 r.2.1 r.2.2 (D.1 k) (D.2 k) := ⟨(fun k => (Classical.choose (hcl k)).1, fun k => (Classical.choose (hcl k)).2), fun k r h => Classical.choose_spec (hcl k) r h⟩
  obtain ⟨D, hD⟩ := hD
  obtain ⟨c1, a1, f1⟩ := arr_of (htG _ ac_int)
  obtain ⟨c2, a2, f2⟩ := arr_of (htG _ ac_long)
  obtain ⟨c3, a3, f3⟩ := arr_of (htG _ ac_boolean)
  obtain ⟨comp4, c4, k4, h41, -, h43, h44, h45⟩ := Cond.arrayOver_spec hen.2.1
  obtain ⟨comp5, c5, k5, h51, -, h53, h54, h55⟩ := AOA_spec hen.2.2.1
  obtain ⟨comp6, c6, k6, h61, -, h63, h64, h65⟩ := AOA_spec hen.2.2.2.1
  have hK : ∃ kA : Nat → ClassId, va_K D cls_ (TY kA) s := by
    refine ⟨fun t => match t with | 1 => c1 | 2 => c2 | 3 => c3 | 4 => c4 | 5 => c5 | _ => c6, hD, fun k q hq => ?_⟩
    match k, hq with
    | 0, hq => cases hq; exact ⟨a1, f1⟩
    | 1, hq => cases hq; exact ⟨a2, f2⟩
    | 2, hq => cases hq; exact ⟨a3, f3⟩
    | 3, hq => cases hq; exact ⟨fun N z => ⟨(fun k h => by cases h), k4, h43, comp4, h44⟩, k4, comp4, h43, h44, h41, h45⟩
    | 4, hq => cases hq; exact ⟨fun N z => ⟨(fun k h => by cases h), k5, h53, comp5, h54⟩, h55⟩
    | 5, hq => cases hq; exact ⟨fun N z => ⟨(fun k h => by cases h), k6, h63, comp6, h64⟩, h65⟩
    | k + 6, hq => cases hq
  obtain ⟨kA, hK⟩ := hK
  have hw := (hlaw (Pw l D kA ro (RMx L xs)) Pw_clo).2 rfl (fun v _ _ h => h) p e s m b below meth c ⟨hx, hb, hr, hlk, hml, hown, fun g => absurd g (by decide), htG, hen, hK, fun q h => h⟩
  have hl := lv_entry ([.ref b]) (n := 4) (Nat.le_of_ble_eq_true rfl)
  rw [lg_entry_eq]
  generalize (lg_sl ([.ref b]) ++ List.replicate (4 - (lg_sl ([.ref b])).length) Slot.unset).toArray = lsA at hl ⊢
  have e0 : cV ro (fun _ => 0) (2, -2) = .ref b := cV_ro (by omega) hro
  have hlh : LH ro (fun _ => 0) lsA (mxL LAWI) [some (2, -2), none, none, none] := by
    refine LH.of hl rfl (fun i v hv => ?_)
    match i, hv with
    | 0, hv => cases hv; rw [e0]; exact List.mem_cons_self
    | 1, hv => cases hv
    | 2, hv => cases hv
    | 3, hv => cases hv
    | i + 4, hv => cases hv
  have hgo := hw (fun _ => 0) s.heap [] lsA (Nat.le_refl _) (fun _ h => absurd h (Nat.not_lt_zero _)) ⟨fun k q h => (by cases k <;> cases h), ⟨fun i j x y h => (by cases i <;> cases h), fun k q h => (by cases k <;> cases h)⟩, va_S.rf, WI0 hL xs⟩ hlh (fun i v hv => by
    match i, hv with
    | 0, hv => cases hv; show (-2 : Int) < 0; omega
    | 1, hv => cases hv
    | 2, hv => cases hv
    | 3, hv => cases hv
    | i + 4, hv => cases hv) (fun v h => by cases h) ⟨Nat.zero_le _, Nat.zero_le _⟩ (e0 := (.new 7, 0, 11, 10, 0, [600000, 7302250])) rfl
  exact hgo
end LWT
end
section
/-! PLACES OF THE CELLS: texts and their words, rows of rows, strings -/
def TX (t : Int) : Prop := ∃ x : Int, (0 ≤ x ∧ x < 10) ∧ t = 3 + 2 * x
def TW (t : Int) : Prop := TX (t - 1)
def TA (t : Int) : Prop := t = 108 ∨ t = 109
def TS (t : Int) : Prop := -19 ≤ t ∧ t ≤ -10
def TV (t : Int) : Prop := -39 ≤ t ∧ t ≤ -30
def TR (b n t : Int) : Prop := ∃ y : Int, (0 ≤ y ∧ y < n) ∧ t = b + 1 + y
def mskL : List Bool → Lc_ → Lc_
  | _, [] => []
  | [], _ :: l => none :: mskL [] l
  | true :: m, v :: l => v :: mskL m l
  | false :: m, _ :: l => none :: mskL m l
theorem mskL_len : ∀ (m : List Bool) (l : Lc_), (mskL m l).length = l.length
  | _, [] => by cases ‹List Bool› <;> rfl
  | [], _ :: l => by show (mskL [] l).length + 1 = _; rw [mskL_len [] l]; rfl
  | true :: m, _ :: l => by show (mskL m l).length + 1 = _; rw [mskL_len m l]; rfl
  | false :: m, _ :: l => by show (mskL m l).length + 1 = _; rw [mskL_len m l]; rfl
theorem mskL_sub : ∀ (m : List Bool) (l : Lc_), lsub (mskL m l) l
  | m, [] => fun i v h => by cases m <;> cases i <;> cases h
  | [], _ :: l => fun i v h => by
    cases i with
    | zero => cases h
    | succ i => exact mskL_sub [] l i v h
  | true :: m, _ :: l => fun i v h => by
    cases i with
    | zero => exact h
    | succ i => exact mskL_sub m l i v h
  | false :: m, _ :: l => fun i v h => by
    cases i with
    | zero => cases h
    | succ i => exact mskL_sub m l i v h
theorem Clo.mk {P : Jg_} (hP : Clo P) {id pc : Nat} {ls : Lc_} {st : List Vl_} {w : Wd_} {M : Mm_} {cn : Cn_} {Q : Qp_} (m : List Bool) (h : P id pc (mskL m ls) st w M cn Q) : P id pc ls st w M cn Q := hP.2.1 _ _ _ _ _ _ _ _ _ (mskL_len m ls).symm (mskL_sub m ls) h
theorem cmp_lt (x y : Int) : cmpL x y < 0 ↔ x < y := by
  unfold cmpL
  split
  · omega
  · split <;> omega
theorem cmp_ge (x y : Int) : 0 ≤ cmpL x y ↔ y ≤ x := by
  unfold cmpL
  split
  · omega
  · split <;> omega
theorem cmp_gt (x y : Int) : 0 < cmpL x y ↔ y < x := by
  unfold cmpL
  split
  · omega
  · split <;> omega
theorem cmp_le (x y : Int) : cmpL x y ≤ 0 ↔ x ≤ y := by
  unfold cmpL
  split
  · omega
  · split <;> omega
theorem cmp_eq (x y : Int) : cmpL x y = 0 ↔ x = y := by
  unfold cmpL
  split
  · omega
  · split <;> omega
theorem cmp_ne (x y : Int) : ¬ cmpL x y = 0 ↔ ¬ x = y := not_congr (cmp_eq x y)
theorem ten {x : Int} (h : 0 ≤ x ∧ x < 10) : x = 0 ∨ x = 1 ∨ x = 2 ∨ x = 3 ∨ x = 4 ∨ x = 5 ∨ x = 6 ∨ x = 7 ∨ x = 8 ∨ x = 9 := by omega
theorem tx_of {x : Int} (h : 0 ≤ x ∧ x < 10) : TX (3 + 2 * x) := ⟨x, h, rfl⟩
theorem tx_nn {t : Int} (h : TX t) : 0 ≤ t := by obtain ⟨x, h, rfl⟩ := h; omega
theorem tw_nn {t : Int} (h : TW t) : 0 ≤ t := by have := tx_nn h; omega
theorem tx_w {t : Int} (h : TX t) : TW (t + 1) := by unfold TW; rw [show t + 1 - 1 = t by omega]; exact h
theorem tx_ob {t : Int} (h : TX t) : obK WF t = some 0 := by
  obtain ⟨x, h, rfl⟩ := h
  rcases ten h with rfl | rfl | rfl | rfl | rfl | rfl | rfl | rfl | rfl | rfl <;> rfl
theorem tx_rf {t : Int} (h : TX t) : rfK WF t 0 = some (t + 1) := by
  obtain ⟨x, h, rfl⟩ := h
  rcases ten h with rfl | rfl | rfl | rfl | rfl | rfl | rfl | rfl | rfl | rfl <;> rfl
theorem tw_ar {t : Int} {M : Mm_} (h : TW t) : arK WF M t = some (1, 60) := by
  obtain ⟨x, h, e⟩ := h
  rw [show t = 4 + 2 * x by omega]
  rcases ten h with rfl | rfl | rfl | rfl | rfl | rfl | rfl | rfl | rfl | rfl <;> rfl
theorem rf_texts {x : Int} (h : 0 ≤ x ∧ x < 10) : rfK WF 2 x.toNat = some (3 + 2 * x) := by
  rcases ten h with rfl | rfl | rfl | rfl | rfl | rfl | rfl | rfl | rfl | rfl <;> rfl
theorem ta_nn {t : Int} (h : TA t) : 0 ≤ t := by rcases h with rfl | rfl <;> decide
theorem ta_ar {t : Int} {M : Mm_} (h : TA t) : arK WF M t = some (1, 60) := by rcases h with rfl | rfl <;> rfl
theorem ts_ob {t : Int} (h : TS t) : obK WF t = some 13 := by
  unfold TS at h
  unfold obK
  rw [if_pos (by omega), if_pos h]
theorem ts_rf {t : Int} (h : TS t) : rfK WF t 0 = some (t - 20) := by
  unfold TS at h
  unfold rfK
  rw [if_pos (by omega), if_pos ⟨h.1, h.2, rfl⟩]
theorem ts_v {t : Int} (h : TS t) : TV (t - 20) := by unfold TS at h; unfold TV; omega
theorem tv_neg {t : Int} (h : TV t) : t < 0 := by unfold TV at h; omega
theorem tv_ar {t : Int} {M : Mm_} (h : TV t) : arK WF M t = some (8, M t (-1)) := by
  unfold TV at h
  unfold arK roK
  rw [if_pos (by omega), if_neg (by omega), if_pos h]
theorem tr_of38 {y : Int} (h : 0 ≤ y ∧ y < 8) : TR 38 8 (39 + y) := ⟨y, h, by omega⟩
theorem tr_nn38 {t : Int} (h : TR 38 8 t) : 0 ≤ t := by obtain ⟨y, h, rfl⟩ := h; omega
theorem rf_row38 {y : Int} (h : 0 ≤ y ∧ y < 8) : rfK WF 38 y.toNat = some (39 + y) := by
  rcases (show y = 0 ∨ y = 1 ∨ y = 2 ∨ y = 3 ∨ y = 4 ∨ y = 5 ∨ y = 6 ∨ y = 7 by omega) with rfl | rfl | rfl | rfl | rfl | rfl | rfl | rfl <;> rfl
theorem tr_ar38 {t : Int} {M : Mm_} (h : TR 38 8 t) : arK WF M t = some (1, 7) := by
  obtain ⟨y, h, rfl⟩ := h
  rcases (show y = 0 ∨ y = 1 ∨ y = 2 ∨ y = 3 ∨ y = 4 ∨ y = 5 ∨ y = 6 ∨ y = 7 by omega) with rfl | rfl | rfl | rfl | rfl | rfl | rfl | rfl <;> rfl
theorem tr_of48 {y : Int} (h : 0 ≤ y ∧ y < 10) : TR 48 10 (49 + y) := ⟨y, h, by omega⟩
theorem tr_nn48 {t : Int} (h : TR 48 10 t) : 0 ≤ t := by obtain ⟨y, h, rfl⟩ := h; omega
theorem rf_row48 {y : Int} (h : 0 ≤ y ∧ y < 10) : rfK WF 48 y.toNat = some (49 + y) := by
  rcases (show y = 0 ∨ y = 1 ∨ y = 2 ∨ y = 3 ∨ y = 4 ∨ y = 5 ∨ y = 6 ∨ y = 7 ∨ y = 8 ∨ y = 9 by omega) with rfl | rfl | rfl | rfl | rfl | rfl | rfl | rfl | rfl | rfl <;> rfl
theorem tr_ar48 {t : Int} {M : Mm_} (h : TR 48 10 t) : arK WF M t = some (2, 60) := by
  obtain ⟨y, h, rfl⟩ := h
  rcases (show y = 0 ∨ y = 1 ∨ y = 2 ∨ y = 3 ∨ y = 4 ∨ y = 5 ∨ y = 6 ∨ y = 7 ∨ y = 8 ∨ y = 9 by omega) with rfl | rfl | rfl | rfl | rfl | rfl | rfl | rfl | rfl | rfl <;> rfl
theorem tr_of71 {y : Int} (h : 0 ≤ y ∧ y < 10) : TR 71 10 (72 + y) := ⟨y, h, by omega⟩
theorem tr_nn71 {t : Int} (h : TR 71 10 t) : 0 ≤ t := by obtain ⟨y, h, rfl⟩ := h; omega
theorem rf_row71 {y : Int} (h : 0 ≤ y ∧ y < 10) : rfK WF 71 y.toNat = some (72 + y) := by
  rcases (show y = 0 ∨ y = 1 ∨ y = 2 ∨ y = 3 ∨ y = 4 ∨ y = 5 ∨ y = 6 ∨ y = 7 ∨ y = 8 ∨ y = 9 by omega) with rfl | rfl | rfl | rfl | rfl | rfl | rfl | rfl | rfl | rfl <;> rfl
theorem tr_ar71 {t : Int} {M : Mm_} (h : TR 71 10 t) : arK WF M t = some (1, 60) := by
  obtain ⟨y, h, rfl⟩ := h
  rcases (show y = 0 ∨ y = 1 ∨ y = 2 ∨ y = 3 ∨ y = 4 ∨ y = 5 ∨ y = 6 ∨ y = 7 ∨ y = 8 ∨ y = 9 by omega) with rfl | rfl | rfl | rfl | rfl | rfl | rfl | rfl | rfl | rfl <;> rfl
theorem tr_of82 {y : Int} (h : 0 ≤ y ∧ y < 10) : TR 82 10 (83 + y) := ⟨y, h, by omega⟩
theorem tr_nn82 {t : Int} (h : TR 82 10 t) : 0 ≤ t := by obtain ⟨y, h, rfl⟩ := h; omega
theorem rf_row82 {y : Int} (h : 0 ≤ y ∧ y < 10) : rfK WF 82 y.toNat = some (83 + y) := by
  rcases (show y = 0 ∨ y = 1 ∨ y = 2 ∨ y = 3 ∨ y = 4 ∨ y = 5 ∨ y = 6 ∨ y = 7 ∨ y = 8 ∨ y = 9 by omega) with rfl | rfl | rfl | rfl | rfl | rfl | rfl | rfl | rfl | rfl <;> rfl
theorem tr_ar82 {t : Int} {M : Mm_} (h : TR 82 10 t) : arK WF M t = some (1, 60) := by
  obtain ⟨y, h, rfl⟩ := h
  rcases (show y = 0 ∨ y = 1 ∨ y = 2 ∨ y = 3 ∨ y = 4 ∨ y = 5 ∨ y = 6 ∨ y = 7 ∨ y = 8 ∨ y = 9 by omega) with rfl | rfl | rfl | rfl | rfl | rfl | rfl | rfl | rfl | rfl <;> rfl
theorem tr_of94 {y : Int} (h : 0 ≤ y ∧ y < 10) : TR 94 10 (95 + y) := ⟨y, h, by omega⟩
theorem tr_nn94 {t : Int} (h : TR 94 10 t) : 0 ≤ t := by obtain ⟨y, h, rfl⟩ := h; omega
theorem rf_row94 {y : Int} (h : 0 ≤ y ∧ y < 10) : rfK WF 94 y.toNat = some (95 + y) := by
  rcases (show y = 0 ∨ y = 1 ∨ y = 2 ∨ y = 3 ∨ y = 4 ∨ y = 5 ∨ y = 6 ∨ y = 7 ∨ y = 8 ∨ y = 9 by omega) with rfl | rfl | rfl | rfl | rfl | rfl | rfl | rfl | rfl | rfl <;> rfl
theorem tr_ar94 {t : Int} {M : Mm_} (h : TR 94 10 t) : arK WF M t = some (2, 60) := by
  obtain ⟨y, h, rfl⟩ := h
  rcases (show y = 0 ∨ y = 1 ∨ y = 2 ∨ y = 3 ∨ y = 4 ∨ y = 5 ∨ y = 6 ∨ y = 7 ∨ y = 8 ∨ y = 9 by omega) with rfl | rfl | rfl | rfl | rfl | rfl | rfl | rfl | rfl | rfl <;> rfl
end
section
/-! BITS: the pure machine's bit operations over natural numbers; sets of places as numbers -/
theorem z_sl : ∀ n, n < 32 → ((nI n &&& 31).toBitVec.smod 32).toNat = n := by decide +kernel
theorem z_su : ∀ n, n < 32 → (((nI n).toUInt32 &&& Int32.toUInt32 31).toBitVec % 32).toNat = n := by decide +kernel
theorem z_ll : ∀ k, k < 64 → ((nI k).toInt64 &&& 63) = lN k := by decide +kernel
theorem z_lu : ∀ k, k < 64 → ((nI k).toInt64.toUInt64 &&& Int64.toUInt64 63) = UInt64.ofNat k := by decide +kernel
theorem z_sm : ∀ k, k < 64 → (BitVec.ofNat 64 k).smod 64 = BitVec.ofNat 64 k := by decide +kernel
theorem z_I (a : Nat) : Int32.ofInt (a : Int) = nI a := Int32.ofInt_eq_ofNat
theorem z_L (a : Nat) : Int64.ofInt (a : Int) = lN a := Int64.ofInt_eq_ofNat
theorem z_bI (a : Nat) : (nI a).toBitVec = BitVec.ofNat 32 a := rfl
theorem z_bL (a : Nat) : (lN a).toBitVec = BitVec.ofNat 64 a := rfl
theorem z_tI {n : Nat} (h : n < 2147483648) : (nI n).toInt = (n : Int) := nI_toInt h
theorem z_tL {n : Nat} (h : n < 9223372036854775808) : (lN n).toInt = (n : Int) := pk_lT h
theorem z_andI (a b : Nat) : nI a &&& nI b = nI (a &&& b) := by
  apply Int32.toBitVec_inj.mp
  rw [Int32.toBitVec_and, z_bI, z_bI, z_bI]
  exact (BitVec.ofNat_and ..).symm
theorem z_orI (a b : Nat) : nI a ||| nI b = nI (a ||| b) := by
  apply Int32.toBitVec_inj.mp
  rw [Int32.toBitVec_or, z_bI, z_bI, z_bI]
  exact (BitVec.ofNat_or ..).symm
theorem z_xorI (a b : Nat) : nI a ^^^ nI b = nI (a ^^^ b) := by
  apply Int32.toBitVec_inj.mp
  rw [Int32.toBitVec_xor, z_bI, z_bI, z_bI]
  exact (BitVec.ofNat_xor ..).symm
theorem z_andL (a b : Nat) : lN a &&& lN b = lN (a &&& b) := by
  apply Int64.toBitVec_inj.mp
  rw [Int64.toBitVec_and, z_bL, z_bL, z_bL]
  exact (BitVec.ofNat_and ..).symm
theorem z_orL (a b : Nat) : lN a ||| lN b = lN (a ||| b) := by
  apply Int64.toBitVec_inj.mp
  rw [Int64.toBitVec_or, z_bL, z_bL, z_bL]
  exact (BitVec.ofNat_or ..).symm
theorem z_xorL (a b : Nat) : lN a ^^^ lN b = lN (a ^^^ b) := by
  apply Int64.toBitVec_inj.mp
  rw [Int64.toBitVec_xor, z_bL, z_bL, z_bL]
  exact (BitVec.ofNat_xor ..).symm
theorem andI_n {a : Nat} (b : Nat) (ha : a < 2147483648) : andI a b = ((a &&& b : Nat) : Int) := by
  unfold andI
  rw [z_I, z_I, z_andI, z_tI (Nat.lt_of_le_of_lt Nat.and_le_left ha)]
theorem orI_n {a b : Nat} (ha : a < 2147483648) (hb : b < 2147483648) : orI a b = ((a ||| b : Nat) : Int) := by
  unfold orI
  rw [z_I, z_I, z_orI, z_tI (Nat.or_lt_two_pow (n := 31) ha hb)]
theorem andL_n {a : Nat} (b : Nat) (ha : a < 9223372036854775808) : andL a b = ((a &&& b : Nat) : Int) := by
  unfold andL
  rw [z_L, z_L, z_andL, z_tL (Nat.lt_of_le_of_lt Nat.and_le_left ha)]
theorem orL_n {a b : Nat} (ha : a < 9223372036854775808) (hb : b < 9223372036854775808) : orL a b = ((a ||| b : Nat) : Int) := by
  unfold orL
  rw [z_L, z_L, z_orL, z_tL (Nat.or_lt_two_pow (n := 63) ha hb)]
theorem shlI_n {a k : Nat} (hk : k < 32) (h : a * 2 ^ k < 2147483648) : shlI a k = ((a * 2 ^ k : Nat) : Int) := by
  unfold shlI
  rw [z_I, z_I, pk_shlN (nI k &&& 31) k (z_sl k hk) (by omega), z_tI h]
theorem shrI_n {a k : Nat} (ha : a < 2147483648) (hk : k < 32) : shrI a k = ((a / 2 ^ k : Nat) : Int) := by
  unfold shrI
  rw [z_I, z_I, pk_shrN (by omega) (nI k &&& 31) k (z_sl k hk), z_tI (Nat.lt_of_le_of_lt (Nat.div_le_self ..) ha)]
theorem ushrI_n {a k : Nat} (ha : a < 2147483648) (hk : k < 32) : ushrI a k = ((a / 2 ^ k : Nat) : Int) := by
  unfold ushrI
  rw [z_I, z_I, pk_ushrN (by omega) (nI k) k (z_su k hk), z_tI (Nat.lt_of_le_of_lt (Nat.div_le_self ..) ha)]
theorem z_shlL (n : Nat) {k : Nat} (hk : k < 64) : lN n <<< ((nI k).toInt64 &&& 63) = lN (n * 2 ^ k) := by
  rw [z_ll k hk]
  apply Int64.toBitVec_inj.mp
  rw [Int64.toBitVec_shiftLeft, z_bL, z_bL, z_bL, z_sm k hk]
  apply BitVec.eq_of_toNat_eq
  rw [BitVec.shiftLeft_eq', BitVec.toNat_shiftLeft, BitVec.toNat_ofNat, BitVec.toNat_ofNat, BitVec.toNat_ofNat, Nat.shiftLeft_eq, Nat.mod_eq_of_lt (show k < 2 ^ 64 by omega), Nat.mod_mul_mod]
theorem z_shrL {n k : Nat} (hn : n < 2 ^ 64) (hk : k < 64) : ((lN n).toUInt64 >>> ((nI k).toInt64.toUInt64 &&& Int64.toUInt64 63)).toInt64 = lN (n / 2 ^ k) := by
  rw [z_lu k hk]
  apply Int64.toBitVec_inj.mp
  sorry
theorem shlL_n {a k : Nat} (hk : k < 64) (h : a * 2 ^ k < 9223372036854775808) : shlL a k = ((a * 2 ^ k : Nat) : Int) := by
  unfold shlL
  rw [z_L, z_I, z_shlL a hk, z_tL h]
theorem ushrL_n {a k : Nat} (ha : a < 9223372036854775808) (hk : k < 64) : ushrL a k = ((a / 2 ^ k : Nat) : Int) := by
  unfold ushrL
  rw [z_L, z_I, z_shrL (by omega) hk, z_tL (Nat.lt_of_le_of_lt (Nat.div_le_self ..) ha)]
theorem bit_n (a k : Nat) : a / 2 ^ k &&& 1 = if a.testBit k then 1 else 0 := by
  rw [Nat.and_one_is_mod, Nat.testBit_eq_decide_div_mod_eq]
  by_cases h : a / 2 ^ k % 2 = 1
  · rw [h]
    simp
  · have : a / 2 ^ k % 2 = 0 := by omega
    rw [this]
    simp
/-- a set of places, as a number -/
def mset (p : Int → Bool) : Nat → Nat
  | 0 => 0
  | n + 1 => mset p n + (if p n then 2 ^ n else 0)
theorem mset_lt (p : Int → Bool) : ∀ n, mset p n < 2 ^ n
  | 0 => by decide
  | n + 1 => by
    have := mset_lt p n
    unfold mset
    rw [Nat.pow_succ]
    split <;> omega
theorem mset_le (p : Int → Bool) {m n : Nat} (h : m ≤ n) : mset p m < 2 ^ n := Nat.lt_of_lt_of_le (mset_lt p m) (Nat.pow_le_pow_right (by decide) h)
theorem mset_or (p : Int → Bool) (n : Nat) : mset p n ||| 2 ^ n = mset p n + 2 ^ n := by
  have h := Nat.two_pow_add_eq_or_of_lt (mset_lt p n) 1
  rw [Nat.mul_one] at h
  rw [Nat.or_comm, ← h, Nat.add_comm]
theorem mset_tb (p : Int → Bool) (k : Nat) : ∀ n, (mset p n).testBit k = (decide (k < n) && p k)
  | 0 => by simp [mset]
  | n + 1 => by
    have ih := mset_tb p k n
    unfold mset
    split
    · rename_i hp
      rw [← mset_or, Nat.testBit_or, ih, Nat.testBit_two_pow]
      by_cases h1 : k < n
      · simp [h1, show k < n + 1 by omega, show ¬ n = k by omega]
      · by_cases h2 : n = k
        · subst h2
          simp [hp]
        · simp [h1, h2, show ¬ k < n + 1 by omega]
    · rename_i hp
      rw [Nat.add_zero, ih]
      by_cases h1 : k < n
      · simp [h1, show k < n + 1 by omega]
      · by_cases h2 : k = n
        · subst h2
          simp [hp]
        · simp [h1, show ¬ k < n + 1 by omega]
theorem mset_cong {p q : Int → Bool} : ∀ {n : Nat}, (∀ k : Nat, k < n → p k = q k) → mset p n = mset q n
  | 0, _ => rfl
  | n + 1, h => by
    unfold mset
    rw [mset_cong (fun k hk => h k (by omega)), h n (by omega)]
/-- how many -/
def cntB (p : Int → Bool) : Nat → Nat
  | 0 => 0
  | n + 1 => cntB p n + (if p n then 1 else 0)
theorem cntB_le (p : Int → Bool) : ∀ n, cntB p n ≤ n
  | 0 => Nat.le_refl _
  | n + 1 => by
    have := cntB_le p n
    unfold cntB
    split <;> omega
theorem cntB_cong {p q : Int → Bool} : ∀ {n : Nat}, (∀ k : Nat, k < n → p k = q k) → cntB p n = cntB q n
  | 0, _ => rfl
  | n + 1, h => by
    unfold cntB
    rw [cntB_cong (fun k hk => h k (by omega)), h n (by omega)]
theorem upd_s (M : Mm_) (a i v : Int) : updM M a i v a i = v := if_pos ⟨rfl, rfl⟩
theorem upd_c {M : Mm_} {a b : Int} (h : b ≠ a) (i v j : Int) : updM M a i v b j = M b j := if_neg fun q => h q.1
theorem upd_i {M : Mm_} {i j : Int} (h : j ≠ i) (a v b : Int) : updM M a i v b j = M b j := if_neg fun q => h q.2
theorem upd_e (M : Mm_) (a i v b j : Int) : updM M a i v b j = if b = a ∧ j = i then v else M b j := rfl
end
