/-! EVERY INSTRUCTION IS WHAT THE CLASS FILES HOLD: decoded, its next and its targets, its links, its room -/
def dk (bs : ByteArray) (bp : Nat) (ins : Instr) (n : Nat) : Bool := decide (decode bs bp = .ok (ins, n))
def nxt (cd : List In_) (pc t : Nat) : Bool := match cd[pc + 1]? with
  | some e => decide (e.2.1 = t)
  | none => false
def jmp (cd : List In_) (a : Nat) (t : Int) : Bool := match cd[a]? with
  | some e => decide (t = (e.2.1 : Int))
  | none => false
def rgI (z : Int) : Bool := decide (-2147483648 ≤ z) && decide (z ≤ 2147483647)
def rgL (z : Int) : Bool := decide (-9223372036854775808 ≤ z) && decide (z ≤ 9223372036854775807)
def jmps (cd : List In_) (bp : Nat) : List Nat → List Int → Bool
  | [], [] => true
  | t :: ts, o :: os => jmp cd t ((bp : Int) + o) && jmps cd bp ts os
  | _, _ => false
def fdOK (o i a b : Nat) : Bool := (decide ((o, i, a, b) ∈ flL) || decide ((o, i, a, b) ∈ fnL)) && decide (b < nF a) && decide (a < cls_.length)
def clOK (id a mc ms MC MS : Nat) : Bool := decide (mcOf id = MC) && decide (msOf id = MS) && decide (a ∈ mkL) && decide (mcOf a = mc) && decide (msOf a = ms) && decide ((rmT_ a).1 + 1 ≤ (rmT_ id).1) && decide (8 + (mxL a + 11) + (rmT_ a).2.1 ≤ (rmT_ id).2.1)
def ckE (id o : Nat) (cd : List In_) (bs : ByteArray) (pc : Nat) (e : In_) : Bool :=
  match e with
  | (ins, bp, a, b, z, tg) =>
  match ins with
  | .iconst i => dk bs bp (.iconst i) 1 && nxt cd pc (bp + 1) && decide (z = i) && rgI z
  | .bipush i => dk bs bp (.bipush i) 2 && nxt cd pc (bp + 2) && decide (z = i) && decide (-128 ≤ z) && decide (z < 128)
  | .sipush i => dk bs bp (.sipush i) 3 && nxt cd pc (bp + 3) && decide (z = i) && decide (-32768 ≤ z) && decide (z < 32768)
  | .ldc i => dk bs bp (.ldc i) 2 && nxt cd pc (bp + 2) && decide (a = 2) && decide (o = 4) && decide (-19 ≤ z) && decide (z ≤ -10) && decide ((srL.map (fun q => ((q.1 : Int), q.2.1))).elem (-z - 10, i) = true)
  | .ldc_w i => dk bs bp (.ldc_w i) 3 && nxt cd pc (bp + 3) && decide ((o, i, z) ∈ kiL) && rgI z
  | .ldc2_w i => dk bs bp (.ldc2_w i) 3 && nxt cd pc (bp + 3) && decide ((o, i, z) ∈ klL) && rgL z
  | .lconst i => dk bs bp (.lconst i) 1 && nxt cd pc (bp + 1) && decide (z = (i.val : Int))
  | .iload i => dk bs bp (.iload i) 2 && nxt cd pc (bp + 2) && decide (a = i)
  | .iload_n i => dk bs bp (.iload_n i) 1 && nxt cd pc (bp + 1) && decide (a = i.val)
  | .lload i => dk bs bp (.lload i) 2 && nxt cd pc (bp + 2) && decide (a = i)
  | .lload_n i => dk bs bp (.lload_n i) 1 && nxt cd pc (bp + 1) && decide (a = i.val)
  | .aload i => dk bs bp (.aload i) 2 && nxt cd pc (bp + 2) && decide (a = i)
  | .aload_n i => dk bs bp (.aload_n i) 1 && nxt cd pc (bp + 1) && decide (a = i.val)
  | .istore i => dk bs bp (.istore i) 2 && nxt cd pc (bp + 2) && decide (a = i) && decide (a < mxL id)
  | .istore_n i => dk bs bp (.istore_n i) 1 && nxt cd pc (bp + 1) && decide (a = i.val) && decide (a < mxL id)
  | .lstore i => dk bs bp (.lstore i) 2 && nxt cd pc (bp + 2) && decide (a = i) && decide (a + 1 < mxL id)
  | .lstore_n i => dk bs bp (.lstore_n i) 1 && nxt cd pc (bp + 1) && decide (a = i.val) && decide (a + 1 < mxL id)
  | .astore i => dk bs bp (.astore i) 2 && nxt cd pc (bp + 2) && decide (a = i) && decide (a < mxL id)
  | .astore_n i => dk bs bp (.astore_n i) 1 && nxt cd pc (bp + 1) && decide (a = i.val) && decide (a < mxL id)
  | .iinc i n => dk bs bp (.iinc i n) 3 && nxt cd pc (bp + 3) && decide (a = i) && decide (z = n) && decide (a < mxL id) && rgI z
  | .iadd => dk bs bp .iadd 1 && nxt cd pc (bp + 1)
  | .isub => dk bs bp .isub 1 && nxt cd pc (bp + 1)
  | .imul => dk bs bp .imul 1 && nxt cd pc (bp + 1)
  | .idiv => dk bs bp .idiv 1 && nxt cd pc (bp + 1)
  | .irem => dk bs bp .irem 1 && nxt cd pc (bp + 1)
  | .iand => dk bs bp .iand 1 && nxt cd pc (bp + 1)
  | .ior => dk bs bp .ior 1 && nxt cd pc (bp + 1)
  | .ixor => dk bs bp .ixor 1 && nxt cd pc (bp + 1)
  | .ishl => dk bs bp .ishl 1 && nxt cd pc (bp + 1)
  | .ishr => dk bs bp .ishr 1 && nxt cd pc (bp + 1)
  | .iushr => dk bs bp .iushr 1 && nxt cd pc (bp + 1)
  | .ladd => dk bs bp .ladd 1 && nxt cd pc (bp + 1)
  | .lsub => dk bs bp .lsub 1 && nxt cd pc (bp + 1)
  | .lmul => dk bs bp .lmul 1 && nxt cd pc (bp + 1)
  | .land => dk bs bp .land 1 && nxt cd pc (bp + 1)
  | .lor => dk bs bp .lor 1 && nxt cd pc (bp + 1)
  | .lxor => dk bs bp .lxor 1 && nxt cd pc (bp + 1)
  | .lshl => dk bs bp .lshl 1 && nxt cd pc (bp + 1)
  | .lshr => dk bs bp .lshr 1 && nxt cd pc (bp + 1)
  | .lushr => dk bs bp .lushr 1 && nxt cd pc (bp + 1)
  | .i2l => dk bs bp .i2l 1 && nxt cd pc (bp + 1)
  | .l2i => dk bs bp .l2i 1 && nxt cd pc (bp + 1)
  | .i2c => dk bs bp .i2c 1 && nxt cd pc (bp + 1)
  | .lcmp => dk bs bp .lcmp 1 && nxt cd pc (bp + 1)
  | .ifCond c f => dk bs bp (.ifCond c f) 3 && nxt cd pc (bp + 3) && jmp cd a ((bp : Int) + f)
  | .if_icmp c f => dk bs bp (.if_icmp c f) 3 && nxt cd pc (bp + 3) && jmp cd a ((bp : Int) + f)
  | .goto f => dk bs bp (.goto f) 3 && jmp cd a ((bp : Int) + f)
  | .tableswitch d lo hi fs => (match decode bs bp with
    | .ok (i, _) => decide (i = .tableswitch d lo hi fs)
    | .error _ => false) && jmp cd a ((bp : Int) + d) && decide (z = lo) && decide (z + tg.length = hi + 1) && jmps cd bp tg fs.toList
  | .dup => dk bs bp .dup 1 && nxt cd pc (bp + 1)
  | .dup2 => dk bs bp .dup2 1 && nxt cd pc (bp + 1)
  | .pop => dk bs bp .pop 1 && nxt cd pc (bp + 1)
  | .iaload => dk bs bp .iaload 1 && nxt cd pc (bp + 1)
  | .baload => dk bs bp .baload 1 && nxt cd pc (bp + 1)
  | .laload => dk bs bp .laload 1 && nxt cd pc (bp + 1)
  | .aaload => dk bs bp .aaload 1 && nxt cd pc (bp + 1)
  | .iastore => dk bs bp .iastore 1 && nxt cd pc (bp + 1)
  | .bastore => dk bs bp .bastore 1 && nxt cd pc (bp + 1)
  | .lastore => dk bs bp .lastore 1 && nxt cd pc (bp + 1)
  | .aastore => dk bs bp .aastore 1 && nxt cd pc (bp + 1) && decide (a = 0)
  | .arraylength => dk bs bp .arraylength 1 && nxt cd pc (bp + 1)
  | .getstatic i => dk bs bp (.getstatic i) 3 && nxt cd pc (bp + 3) && (match a with
    | 1 => decide (o = 13) && decide (i = 38) && decide (b = 0) && decide (z = 1)
    | 2 => decide (o = 13) && decide (i = 1053) && decide (b = 2) && decide (z = -6)
    | 3 => decide ((o, i, z) ∈ fsL) && decide (b = 2) && decide (-5 ≤ z) && decide (z ≤ -3)
    | _ => false)
  | .getfield i => dk bs bp (.getfield i) 3 && nxt cd pc (bp + 3) && (match a with
    | 13 => decide (o = 13) && (match b with
      | 0 => decide (i = 9) && decide (tg = [2])
      | _ => decide (i = 15) && decide (b = 1) && decide (tg = [0]))
    | _ => fdOK o i a b && decide (tg = [fTag a b]))
  | .putfield i => dk bs bp (.putfield i) 3 && nxt cd pc (bp + 3) && fdOK o i a b && decide (tg = [fTag a b]) && (match (fdr a b).2.2.2 with
    | true => decide ((yOf id).name = "<init>") && decide ((fdr a b).1 = owN o) && decide ((o, i, a, b) ∈ flL)
    | false => true)
  | .new i => dk bs bp (.new i) 3 && nxt cd pc (bp + 3) && decide ((o, i, a) ∈ clL) && decide (b = nF a) && decide (a < cls_.length) && decide (tg = [mcOf id, msOf id])
  | .newarray t => dk bs bp (.newarray t) 2 && nxt cd pc (bp + 2) && decide (tg = [mcOf id, msOf id]) && (match t with
    | .int => decide (a = 1)
    | .long => decide (a = 2)
    | .boolean => decide (a = 3)
    | _ => false)
  | .anewarray i => dk bs bp (.anewarray i) 3 && nxt cd pc (bp + 3) && decide ((o, i, 0) ∈ clL) && decide (tg = [mcOf id, msOf id])
  | .multianewarray i d => dk bs bp (.multianewarray i 2) 4 && nxt cd pc (bp + 4) && decide (d = 2) && decide ((o, i, a) ∈ cmL) && ((decide (a = 5) && decide (b = 1)) || (decide (a = 6) && decide (b = 2))) && decide (tg = [mcOf id, msOf id])
  | .ireturn => dk bs bp .ireturn 1 && (match a with
    | 0 => decide (retOf id = some .int)
    | 1 => decide (retOf id = some .boolean)
    | 2 => decide (retOf id = some .byte)
    | _ => decide (retOf id = some .char))
  | .lreturn => dk bs bp .lreturn 1 && decide (retOf id = some .long)
  | .return_ => dk bs bp .return_ 1 && decide (retOf id = none)
  | .invokevirtual i => match tg with
    | [n, ci, mc, ms, MC, MS] => dk bs bp (.invokevirtual i) 3 && nxt cd pc (bp + 3) && clOK id a mc ms MC MS && decide (n = npOf a + 1) && decide (a ∈ vtL) && decide (owN ci = (yOf a).cls) && decide (ci < 14) && (decide ((o, i, a) ∈ mlL) || decide ((o, i, a) ∈ mnL))
    | _ => true
  | .invokestatic i => match tg with
    | [0] => dk bs bp (.invokestatic i) 3 && nxt cd pc (bp + 3) && decide ((o, i) ∈ maxL) && decide (32 ≤ (rmT_ id).2.1) && decide (1 ≤ (rmT_ id).1)
    | [1] => dk bs bp (.invokestatic i) 3 && nxt cd pc (bp + 3) && decide ((o, i) ∈ minL) && decide (32 ≤ (rmT_ id).2.1) && decide (1 ≤ (rmT_ id).1)
    | [n, mc, ms, MC, MS] => dk bs bp (.invokestatic i) 3 && nxt cd pc (bp + 3) && clOK id a mc ms MC MS && decide (n = npOf a) && decide (a ∈ stL) && decide ((o, i, a) ∈ mlL)
    | _ => true
  | .invokespecial i => match tg with
    | [] => dk bs bp (.invokespecial i) 3 && nxt cd pc (bp + 3) && decide ((o, i) ∈ obL) && decide (32 ≤ (rmT_ id).2.1) && decide (1 ≤ (rmT_ id).1)
    | [n, mc, ms, MC, MS] => dk bs bp (.invokespecial i) 3 && nxt cd pc (bp + 3) && clOK id a mc ms MC MS && decide (n = npOf a + 1) && decide (a ∈ spL) && (decide ((o, i, a) ∈ mlL) || decide ((o, i, a) ∈ mnL)) && decide (retOf a = none)
    | _ => true
  | _ => true
def ckM (id : Nat) (lo n : Nat) : Bool := (List.range n).all fun j => match (codeOf id)[lo + j]? with
  | some e => ckE id (ownOf id) (codeOf id) (byOf id) (lo + j) e
  | none => true
theorem ckM_use {id lo n pc : Nat} {e : In_} (h : ckM id lo n = true) (h1 : lo ≤ pc) (h2 : pc < lo + n) (he : (codeOf id)[pc]? = some e) : ckE id (ownOf id) (codeOf id) (byOf id) pc e = true := by
  have := List.all_eq_true.mp h (pc - lo) (List.mem_range.mpr (by omega))
  rw [show lo + (pc - lo) = pc by omega, he] at this
  exact this
