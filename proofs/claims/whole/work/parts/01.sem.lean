/-! THE PURE MACHINE: what an instruction asks, over whole numbers. A cell: kind, size (or class), references. Memory: cell, place, number. -/
abbrev Cl_ : Type := Nat × Nat × List Int
abbrev Wd_ : Type := List Cl_
abbrev Mm_ : Type := Int → Int → Int
abbrev Vl_ : Type := Nat × Int
abbrev Lc_ : Type := List (Option Vl_)
abbrev Qp_ : Type := Option Vl_ → Wd_ → Mm_ → Prop
/-- an instruction: itself, its byte, two places, a number, a list of places -/
abbrev In_ : Type := Instr × Nat × Nat × Nat × Int × List Nat
abbrev Cn_ : Type := Nat × Nat
def inI (x : Int) : Prop := -2147483648 ≤ x ∧ x ≤ 2147483647
def inL (x : Int) : Prop := -9223372036854775808 ≤ x ∧ x ≤ 9223372036854775807
def andI (x y : Int) : Int := (Int32.ofInt x &&& Int32.ofInt y).toInt
def orI (x y : Int) : Int := (Int32.ofInt x ||| Int32.ofInt y).toInt
def xorI (x y : Int) : Int := (Int32.ofInt x ^^^ Int32.ofInt y).toInt
def shlI (x y : Int) : Int := (Int32.ofInt x <<< (Int32.ofInt y &&& 31)).toInt
def shrI (x y : Int) : Int := (Int32.ofInt x >>> (Int32.ofInt y &&& 31)).toInt
def ushrI (x y : Int) : Int := ((Int32.ofInt x).toUInt32 >>> ((Int32.ofInt y).toUInt32 &&& Int32.toUInt32 31)).toInt32.toInt
def andL (x y : Int) : Int := (Int64.ofInt x &&& Int64.ofInt y).toInt
def orL (x y : Int) : Int := (Int64.ofInt x ||| Int64.ofInt y).toInt
def xorL (x y : Int) : Int := (Int64.ofInt x ^^^ Int64.ofInt y).toInt
def shlL (x y : Int) : Int := (Int64.ofInt x <<< ((Int32.ofInt y).toInt64 &&& 63)).toInt
def shrL (x y : Int) : Int := (Int64.ofInt x >>> ((Int32.ofInt y).toInt64 &&& 63)).toInt
def ushrL (x y : Int) : Int := ((Int64.ofInt x).toUInt64 >>> ((Int32.ofInt y).toInt64.toUInt64 &&& Int64.toUInt64 63)).toInt64.toInt
def l2iI (x : Int) : Int := (Int64.ofInt x).toInt32.toInt
def i2cI (x : Int) : Int := x % 65536
def cmpL (x y : Int) : Int := if x < y then -1 else if x = y then 0 else 1
def maxI (x y : Int) : Int := if x < y then y else x
def minI (x y : Int) : Int := if y < x then y else x
def updM (M : Mm_) (a i v : Int) : Mm_ := fun b j => if b = a ∧ j = i then v else M b j
def zeroM (M : Mm_) (a : Int) : Mm_ := fun b j => if b = a then 0 else M b j
/-- the cell of a reference that is not read-only -/
def cellOf (w : Wd_) (r : Int) : Option Cl_ := if r < 0 then none else w[r.toNat]?
/-- a row's kind and length: 1 int, 2 long, 3 boolean, 4 texts, 5 rows of int, 6 rows of long, 8 bytes (read-only) -/
def roK (M : Mm_) (r : Int) : Option (Nat × Int) :=
  if -5 ≤ r ∧ r ≤ -2 then some (1, M r (-1)) else if -39 ≤ r ∧ r ≤ -30 then some (8, M r (-1)) else none
def arK (w : Wd_) (M : Mm_) (r : Int) : Option (Nat × Int) :=
  if r < 0 then roK M r else match w[r.toNat]? with
    | some (0, _, _) => none
    | some (t, n, _) => some (t, (n : Int))
    | none => none
/-- the class of an object; 13: a String -/
def obK (w : Wd_) (r : Int) : Option Nat :=
  if r < 0 then (if -19 ≤ r ∧ r ≤ -10 then some 13 else none) else match w[r.toNat]? with
    | some (0, c, _) => some c
    | _ => none
def rfK (w : Wd_) (r : Int) (k : Nat) : Option Int :=
  if r < 0 then (if -19 ≤ r ∧ r ≤ -10 ∧ k = 0 then some (r - 20) else none) else match w[r.toNat]? with
    | some (_, _, rs) => rs[k]?
    | none => none
def setR (w : Wd_) (r : Int) (k : Nat) (q : Int) : Wd_ := w.modify r.toNat (fun c => (c.1, c.2.1, c.2.2.set k q))
def catV (v : Vl_) : Nat := if v.1 = 1 then 2 else 1
def catS (l : List Vl_) : Nat := (l.map catV).sum
def kilL (ls : Lc_) (i : Nat) : Lc_ := match i with
  | 0 => ls
  | j + 1 => match ls[j]? with
    | some (some (1, _)) => ls.set j none
    | _ => ls
def setL (ls : Lc_) (i : Nat) (v : Vl_) : Lc_ := (kilL ls i).set i (some v)
def setL2 (ls : Lc_) (i : Nat) (v : Vl_) : Lc_ := ((kilL ls i).set i (some v)).set (i + 1) none
def argL : List Vl_ → Lc_
  | [] => []
  | (1, x) :: l => some (1, x) :: none :: argL l
  | v :: l => some v :: argL l
def entL (as : List Vl_) (n : Nat) : Lc_ := let l := argL as; l ++ List.replicate (n - l.length) none
def swc (x : Int) (k : Nat → Prop) : Int → List Nat → Prop
  | _, [] => True
  | lo, t :: ts => (x = lo → k t) ∧ swc x k (lo + 1) ts
def cnd (c : Jvm.ClassFile.Cond) (x y : Int) : Prop := match c with
  | .eq => x = y
  | .ne => ¬ x = y
  | .lt => x < y
  | .ge => y ≤ x
  | .gt => y < x
  | .le => x ≤ y
/-- there is room for more cells and slots -/
def bud (cn : Cn_) (a b MC MS : Nat) (p : Prop) : Prop := match Nat.ble (cn.1 + a) MC with
  | true => match Nat.ble (cn.2 + b) MS with
    | true => p
    | false => False
  | false => False
def g1 (t : Nat) (st : List Vl_) (k : Int → List Vl_ → Prop) : Prop := match st with
  | v :: r => match Nat.beq v.1 t with
    | true => k v.2 r
    | false => False
  | [] => False
def gl (t : Nat) (ls : Lc_) (i : Nat) (k : Int → Prop) : Prop := match ls[i]? with
  | some (some v) => match Nat.beq v.1 t with
    | true => k v.2
    | false => False
  | _ => False
/-- the arguments of a call are there, the rest is small, they fit the locals; the first is a reference, where there is a receiver -/
def callG (st : List Vl_) (n : Nat) (rcv : Bool) (mx : Nat) (k : Int → List Vl_ → List Vl_ → Prop) : Prop :=
  match Nat.ble n st.length && (Nat.ble (catS (st.drop n)) 8 && Nat.ble (catS (st.take n)) mx) with
  | true => match rcv with
    | true => match (st.take n).reverse with
      | v :: as => match Nat.beq v.1 2 with
        | true => k v.2 (v :: as) (st.drop n)
        | false => False
      | [] => False
    | false => k 0 (st.take n).reverse (st.drop n)
  | false => False
/-- what one instruction asks: k, what comes behind it; Q, what a return must give; cP, what a call must give -/
def st1 (cP : Nat → List Vl_ → Wd_ → Mm_ → Qp_ → Prop) (k : Nat → Lc_ → List Vl_ → Wd_ → Mm_ → Cn_ → Prop) (Q : Qp_) (e : In_) (pc : Nat) (ls : Lc_) (st : List Vl_) (w : Wd_) (M : Mm_) (cn : Cn_) : Prop :=
  match e with
  | (ins, _, a, b, z, tg) =>
  match ins with
  | .iconst _ => k (pc + 1) ls ((0, z) :: st) w M cn
  | .bipush _ => k (pc + 1) ls ((0, z) :: st) w M cn
  | .sipush _ => k (pc + 1) ls ((0, z) :: st) w M cn
  | .ldc _ => k (pc + 1) ls ((a, z) :: st) w M cn
  | .ldc_w _ => k (pc + 1) ls ((0, z) :: st) w M cn
  | .ldc2_w _ => k (pc + 1) ls ((1, z) :: st) w M cn
  | .lconst _ => k (pc + 1) ls ((1, z) :: st) w M cn
  | .iload _ => gl 0 ls a fun x => k (pc + 1) ls ((0, x) :: st) w M cn
  | .iload_n _ => gl 0 ls a fun x => k (pc + 1) ls ((0, x) :: st) w M cn
  | .lload _ => gl 1 ls a fun x => k (pc + 1) ls ((1, x) :: st) w M cn
  | .lload_n _ => gl 1 ls a fun x => k (pc + 1) ls ((1, x) :: st) w M cn
  | .aload _ => gl 2 ls a fun x => k (pc + 1) ls ((2, x) :: st) w M cn
  | .aload_n _ => gl 2 ls a fun x => k (pc + 1) ls ((2, x) :: st) w M cn
  | .istore _ => g1 0 st fun x r => k (pc + 1) (setL ls a (0, x)) r w M cn
  | .istore_n _ => g1 0 st fun x r => k (pc + 1) (setL ls a (0, x)) r w M cn
  | .lstore _ => g1 1 st fun x r => k (pc + 1) (setL2 ls a (1, x)) r w M cn
  | .lstore_n _ => g1 1 st fun x r => k (pc + 1) (setL2 ls a (1, x)) r w M cn
  | .astore _ => g1 2 st fun x r => k (pc + 1) (setL ls a (2, x)) r w M cn
  | .astore_n _ => g1 2 st fun x r => k (pc + 1) (setL ls a (2, x)) r w M cn
  | .iinc _ _ => gl 0 ls a fun x => inI (x + z) ∧ k (pc + 1) (setL ls a (0, x + z)) st w M cn
  | .iadd => g1 0 st fun y r => g1 0 r fun x r => inI (x + y) ∧ k (pc + 1) ls ((0, x + y) :: r) w M cn
  | .isub => g1 0 st fun y r => g1 0 r fun x r => inI (x - y) ∧ k (pc + 1) ls ((0, x - y) :: r) w M cn
  | .imul => g1 0 st fun y r => g1 0 r fun x r => inI (x * y) ∧ k (pc + 1) ls ((0, x * y) :: r) w M cn
  | .idiv => g1 0 st fun y r => g1 0 r fun x r => (0 ≤ x ∧ 0 < y) ∧ k (pc + 1) ls ((0, x / y) :: r) w M cn
  | .irem => g1 0 st fun y r => g1 0 r fun x r => (0 ≤ x ∧ 0 < y) ∧ k (pc + 1) ls ((0, x % y) :: r) w M cn
  | .iand => g1 0 st fun y r => g1 0 r fun x r => k (pc + 1) ls ((0, andI x y) :: r) w M cn
  | .ior => g1 0 st fun y r => g1 0 r fun x r => k (pc + 1) ls ((0, orI x y) :: r) w M cn
  | .ixor => g1 0 st fun y r => g1 0 r fun x r => k (pc + 1) ls ((0, xorI x y) :: r) w M cn
  | .ishl => g1 0 st fun y r => g1 0 r fun x r => k (pc + 1) ls ((0, shlI x y) :: r) w M cn
  | .ishr => g1 0 st fun y r => g1 0 r fun x r => k (pc + 1) ls ((0, shrI x y) :: r) w M cn
  | .iushr => g1 0 st fun y r => g1 0 r fun x r => k (pc + 1) ls ((0, ushrI x y) :: r) w M cn
  | .ladd => g1 1 st fun y r => g1 1 r fun x r => inL (x + y) ∧ k (pc + 1) ls ((1, x + y) :: r) w M cn
  | .lsub => g1 1 st fun y r => g1 1 r fun x r => inL (x - y) ∧ k (pc + 1) ls ((1, x - y) :: r) w M cn
  | .lmul => g1 1 st fun y r => g1 1 r fun x r => inL (x * y) ∧ k (pc + 1) ls ((1, x * y) :: r) w M cn
  | .land => g1 1 st fun y r => g1 1 r fun x r => k (pc + 1) ls ((1, andL x y) :: r) w M cn
  | .lor => g1 1 st fun y r => g1 1 r fun x r => k (pc + 1) ls ((1, orL x y) :: r) w M cn
  | .lxor => g1 1 st fun y r => g1 1 r fun x r => k (pc + 1) ls ((1, xorL x y) :: r) w M cn
  | .lshl => g1 0 st fun y r => g1 1 r fun x r => k (pc + 1) ls ((1, shlL x y) :: r) w M cn
  | .lshr => g1 0 st fun y r => g1 1 r fun x r => k (pc + 1) ls ((1, shrL x y) :: r) w M cn
  | .lushr => g1 0 st fun y r => g1 1 r fun x r => k (pc + 1) ls ((1, ushrL x y) :: r) w M cn
  | .i2l => g1 0 st fun x r => k (pc + 1) ls ((1, x) :: r) w M cn
  | .l2i => g1 1 st fun x r => k (pc + 1) ls ((0, l2iI x) :: r) w M cn
  | .i2c => g1 0 st fun x r => k (pc + 1) ls ((0, i2cI x) :: r) w M cn
  | .lcmp => g1 1 st fun y r => g1 1 r fun x r => k (pc + 1) ls ((0, cmpL x y) :: r) w M cn
  | .ifCond c _ => g1 0 st fun x r => (cnd c x 0 → k a ls r w M cn) ∧ (¬ cnd c x 0 → k (pc + 1) ls r w M cn)
  | .if_icmp c _ => g1 0 st fun y r => g1 0 r fun x r => (cnd c x y → k a ls r w M cn) ∧ (¬ cnd c x y → k (pc + 1) ls r w M cn)
  | .goto _ => k a ls st w M cn
  | .tableswitch _ _ _ _ => g1 0 st fun x r => (x < z ∨ z + tg.length ≤ x → k a ls r w M cn) ∧ swc x (fun t => k t ls r w M cn) z tg
  | .dup => match st with
    | v :: r => match Nat.beq v.1 1 with
      | true => False
      | false => k (pc + 1) ls (v :: v :: r) w M cn
    | [] => False
  | .dup2 => match st with
    | v :: r => match Nat.beq v.1 1 with
      | true => k (pc + 1) ls (v :: v :: r) w M cn
      | false => match r with
        | u :: r => match Nat.beq u.1 1 with
          | true => False
          | false => k (pc + 1) ls (v :: u :: v :: u :: r) w M cn
        | [] => False
    | [] => False
  | .pop => match st with
    | v :: r => match Nat.beq v.1 1 with
      | true => False
      | false => k (pc + 1) ls r w M cn
    | [] => False
  | .iaload => g1 0 st fun i r => g1 2 r fun q r => ∃ n, arK w M q = some (1, n) ∧ (0 ≤ i ∧ i < n) ∧ k (pc + 1) ls ((0, M q i) :: r) w M cn
  | .baload => g1 0 st fun i r => g1 2 r fun q r => ∃ n, (arK w M q = some (3, n) ∨ arK w M q = some (8, n)) ∧ (0 ≤ i ∧ i < n) ∧ k (pc + 1) ls ((0, M q i) :: r) w M cn
  | .laload => g1 0 st fun i r => g1 2 r fun q r => ∃ n, arK w M q = some (2, n) ∧ (0 ≤ i ∧ i < n) ∧ k (pc + 1) ls ((1, M q i) :: r) w M cn
  | .aaload => g1 0 st fun i r => g1 2 r fun q r => ∃ t n v, arK w M q = some (t, n) ∧ 4 ≤ t ∧ t ≤ 6 ∧ (0 ≤ i ∧ i < n) ∧ rfK w q i.toNat = some v ∧ k (pc + 1) ls ((2, v) :: r) w M cn
  | .iastore => g1 0 st fun x r => g1 0 r fun i r => g1 2 r fun q r => ∃ n, arK w M q = some (1, n) ∧ 0 ≤ q ∧ (0 ≤ i ∧ i < n) ∧ k (pc + 1) ls r w (updM M q i x) cn
  | .bastore => g1 0 st fun x r => g1 0 r fun i r => g1 2 r fun q r => ∃ n, arK w M q = some (3, n) ∧ 0 ≤ q ∧ (0 ≤ i ∧ i < n) ∧ (x = 0 ∨ x = 1) ∧ k (pc + 1) ls r w (updM M q i x) cn
  | .lastore => g1 1 st fun x r => g1 0 r fun i r => g1 2 r fun q r => ∃ n, arK w M q = some (2, n) ∧ 0 ≤ q ∧ (0 ≤ i ∧ i < n) ∧ k (pc + 1) ls r w (updM M q i x) cn
  | .aastore => g1 2 st fun x r => g1 0 r fun i r => g1 2 r fun q r => ∃ n, arK w M q = some (4, n) ∧ 0 ≤ q ∧ 0 ≤ x ∧ obK w x = some a ∧ (0 ≤ i ∧ i < n) ∧ k (pc + 1) ls r (setR w q i.toNat x) M cn
  | .arraylength => g1 2 st fun q r => ∃ t n, arK w M q = some (t, n) ∧ (q < 0 ∧ 0 ≤ n) ∧ k (pc + 1) ls ((0, n) :: r) w M cn
  | .getstatic _ => k (pc + 1) ls ((b, z) :: st) w M cn
  | .getfield _ => g1 2 st fun q r => obK w q = some a ∧ (match tg with
    | [2] => ∃ v, rfK w q b = some v ∧ k (pc + 1) ls ((2, v) :: r) w M cn
    | [1] => k (pc + 1) ls ((1, M q b) :: r) w M cn
    | _ => k (pc + 1) ls ((0, M q b) :: r) w M cn)
  | .putfield _ => match tg with
    | [2] => g1 2 st fun x r => g1 2 r fun q r => obK w q = some a ∧ 0 ≤ q ∧ k (pc + 1) ls r (setR w q b x) M cn
    | [1] => g1 1 st fun x r => g1 2 r fun q r => obK w q = some a ∧ 0 ≤ q ∧ k (pc + 1) ls r w (updM M q b x) cn
    | [3] => g1 0 st fun x r => g1 2 r fun q r => obK w q = some a ∧ 0 ≤ q ∧ (x = 0 ∨ x = 1) ∧ k (pc + 1) ls r w (updM M q b x) cn
    | _ => g1 0 st fun x r => g1 2 r fun q r => obK w q = some a ∧ 0 ≤ q ∧ k (pc + 1) ls r w (updM M q b x) cn
  | .new _ => match tg with
    | [MC, MS] => bud cn 1 b MC MS (k (pc + 1) ls ((2, (w.length : Int)) :: st) (w ++ [(0, a, List.replicate b (-1))]) (zeroM M w.length) (cn.1 + 1, cn.2 + b))
    | _ => False
  | .newarray _ => match tg with
    | [MC, MS] => g1 0 st fun n r => (0 ≤ n ∧ n ≤ 4000) ∧ bud cn 1 n.toNat MC MS (k (pc + 1) ls ((2, (w.length : Int)) :: r) (w ++ [(a, n.toNat, [])]) (zeroM M w.length) (cn.1 + 1, cn.2 + n.toNat))
    | _ => False
  | .anewarray _ => match tg with
    | [MC, MS] => g1 0 st fun n r => (0 ≤ n ∧ n ≤ 4000) ∧ bud cn 1 n.toNat MC MS (k (pc + 1) ls ((2, (w.length : Int)) :: r) (w ++ [(4, n.toNat, List.replicate n.toNat (-1))]) (zeroM M w.length) (cn.1 + 1, cn.2 + n.toNat))
    | _ => False
  | .multianewarray _ _ => match tg with
    | [MC, MS] => g1 0 st fun m r => g1 0 r fun n r => (0 ≤ n ∧ n ≤ 4000 ∧ 0 ≤ m ∧ m ≤ 4000) ∧ bud cn (1 + n.toNat) (n.toNat + n.toNat * m.toNat) MC MS (k (pc + 1) ls ((2, (w.length : Int)) :: r) (w ++ (a, n.toNat, (List.range n.toNat).map (fun i : Nat => (w.length : Int) + 1 + (i : Int))) :: List.replicate n.toNat (b, m.toNat, [])) (fun x j => if (w.length : Int) ≤ x then 0 else M x j) (cn.1 + 1 + n.toNat, cn.2 + n.toNat + n.toNat * m.toNat))
    | _ => False
  | .ireturn => match st with
    | [v] => match Nat.beq v.1 0 with
      | true => (match a with
        | 0 => True
        | 1 => v.2 = 0 ∨ v.2 = 1
        | 2 => -128 ≤ v.2 ∧ v.2 < 128
        | _ => 0 ≤ v.2 ∧ v.2 < 65536) ∧ Q (some (0, v.2)) w M
      | false => False
    | _ => False
  | .lreturn => match st with
    | [v] => match Nat.beq v.1 1 with
      | true => Q (some (1, v.2)) w M
      | false => False
    | _ => False
  | .return_ => match st with
    | [] => Q none w M
    | _ => False
  | .invokevirtual _ => match tg with
    | [n, ci, mc, ms, MC, MS] => bud cn mc ms MC MS (callG st n true (mxL a) fun q as r => obK w q = some ci ∧ cP a as w M (fun v w' M' => k (pc + 1) ls (v.toList ++ r) w' M' (cn.1 + mc, cn.2 + ms)))
    | _ => False
  | .invokestatic _ => match tg with
    | [0] => g1 0 st fun y r => g1 0 r fun x r => match Nat.ble (catS r) 8 with
      | true => k (pc + 1) ls ((0, maxI x y) :: r) w M cn
      | false => False
    | [1] => g1 0 st fun y r => g1 0 r fun x r => match Nat.ble (catS r) 8 with
      | true => k (pc + 1) ls ((0, minI x y) :: r) w M cn
      | false => False
    | [n, mc, ms, MC, MS] => bud cn mc ms MC MS (callG st n false (mxL a) fun _ as r => cP a as w M (fun v w' M' => k (pc + 1) ls (v.toList ++ r) w' M' (cn.1 + mc, cn.2 + ms)))
    | _ => False
  | .invokespecial _ => match tg with
    | [] => match st with
      | [v] => match Nat.beq v.1 2 with
        | true => 0 ≤ v.2 ∧ k (pc + 1) ls [] w M cn
        | false => False
      | _ => False
    | [n, mc, ms, MC, MS] => bud cn mc ms MC MS (callG st n true (mxL a) fun q as r => 0 ≤ q ∧ cP a as w M (fun v w' M' => k (pc + 1) ls (v.toList ++ r) w' M' (cn.1 + mc, cn.2 + ms)))
    | _ => False
  | _ => False
