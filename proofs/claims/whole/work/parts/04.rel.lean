/-! CLASSES AND FIELDS (printed by wip/tools/gen_rel.py), and the cells as the machine holds them -/
def fld0 : u_T := fun k => match k with
  | 0 => ("BorrowedWords$Text", "words", "[I", true)
  | 1 => ("BorrowedWords$Text", "stops", "J", false)
  | 2 => ("BorrowedWords$Text", "writer", "I", false)
  | 3 => ("BorrowedWords$Text", "day", "I", false)
  | _ => ("BorrowedWords$Text", "size", "I", false)
def fty0 : Nat → FieldType := fun k => match k with
  | 0 => .array (.int)
  | 1 => .long
  | 2 => .int
  | 3 => .int
  | _ => .int
def fld1 : u_T := fun k => match k with
  | 0 => ("BorrowedWords$Shelf", "texts", "[LBorrowedWords$Text;", true)
  | _ => ("BorrowedWords$Shelf", "size", "I", false)
def fty1 : Nat → FieldType := fun k => match k with
  | 0 => .array (.object "BorrowedWords$Text")
  | _ => .int
def fld2 : u_T := fun k => match k with
  | 0 => ("BorrowedWords$Lexicon", "meaning", "[I", true)
  | 1 => ("BorrowedWords$Lexicon", "sharing", "[I", true)
  | _ => ("BorrowedWords$Lexicon", "isCommon", "[Z", true)
def fty2 : Nat → FieldType := fun k => match k with
  | 0 => .array (.int)
  | 1 => .array (.int)
  | _ => .array (.boolean)
def fld3 : u_T := fun k => match k with
  | 0 => ("BorrowedWords$Marks", "shelf", "LBorrowedWords$Shelf;", true)
  | 1 => ("BorrowedWords$Marks", "citing", "[I", true)
  | 2 => ("BorrowedWords$Marks", "from", "[I", true)
  | 3 => ("BorrowedWords$Marks", "to", "[I", true)
  | 4 => ("BorrowedWords$Marks", "cited", "[I", true)
  | _ => ("BorrowedWords$Marks", "size", "I", false)
def fty3 : Nat → FieldType := fun k => match k with
  | 0 => .object "BorrowedWords$Shelf"
  | 1 => .array (.int)
  | 2 => .array (.int)
  | 3 => .array (.int)
  | 4 => .array (.int)
  | _ => .int
def fld4 : u_T := fun k => match k with
  | 0 => ("BorrowedWords$RuleReader", "bytes", "[I", true)
  | 1 => ("BorrowedWords$RuleReader", "told", "[I", true)
  | 2 => ("BorrowedWords$RuleReader", "struck", "I", false)
  | 3 => ("BorrowedWords$RuleReader", "length", "I", false)
  | 4 => ("BorrowedWords$RuleReader", "place", "I", false)
  | 5 => ("BorrowedWords$RuleReader", "faultNumber", "I", false)
  | _ => ("BorrowedWords$RuleReader", "faultPlace", "I", false)
def fty4 : Nat → FieldType := fun k => match k with
  | 0 => .array (.int)
  | 1 => .array (.int)
  | 2 => .int
  | 3 => .int
  | 4 => .int
  | 5 => .int
  | _ => .int
def fld5 : u_T := fun k => match k with
  | 0 => ("BorrowedWords$RuleBook", "days", "[I", true)
  | 1 => ("BorrowedWords$RuleBook", "struck", "[I", true)
  | 2 => ("BorrowedWords$RuleBook", "told", "[[I", true)
  | _ => ("BorrowedWords$RuleBook", "size", "I", false)
def fty5 : Nat → FieldType := fun k => match k with
  | 0 => .array (.int)
  | 1 => .array (.int)
  | 2 => .array (.array (.int))
  | _ => .int
def fld6 : u_T := fun k => match k with
  | 0 => ("BorrowedWords$Runs", "shelf", "LBorrowedWords$Shelf;", true)
  | 1 => ("BorrowedWords$Runs", "lexicon", "LBorrowedWords$Lexicon;", true)
  | 2 => ("BorrowedWords$Runs", "book", "LBorrowedWords$RuleBook;", true)
  | 3 => ("BorrowedWords$Runs", "sizes", "[[J", true)
  | 4 => ("BorrowedWords$Runs", "keys", "[I", true)
  | 5 => ("BorrowedWords$Runs", "ownAhead", "[I", true)
  | 6 => ("BorrowedWords$Runs", "placesOfKey", "[J", true)
  | 7 => ("BorrowedWords$Runs", "likes", "[J", true)
  | 8 => ("BorrowedWords$Runs", "along", "[J", true)
  | 9 => ("BorrowedWords$Runs", "looked", "I", false)
  | 10 => ("BorrowedWords$Runs", "size", "I", false)
  | 11 => ("BorrowedWords$Runs", "least", "I", false)
  | 12 => ("BorrowedWords$Runs", "slips", "I", false)
  | 13 => ("BorrowedWords$Runs", "byMeaning", "Z", false)
  | _ => ("BorrowedWords$Runs", "commonsCount", "Z", false)
def fty6 : Nat → FieldType := fun k => match k with
  | 0 => .object "BorrowedWords$Shelf"
  | 1 => .object "BorrowedWords$Lexicon"
  | 2 => .object "BorrowedWords$RuleBook"
  | 3 => .array (.array (.long))
  | 4 => .array (.int)
  | 5 => .array (.int)
  | 6 => .array (.long)
  | 7 => .array (.long)
  | 8 => .array (.long)
  | 9 => .int
  | 10 => .int
  | 11 => .int
  | 12 => .int
  | 13 => .boolean
  | _ => .boolean
def fld7 : u_T := fun k => match k with
  | 0 => ("BorrowedWords$Explanation", "runs", "LBorrowedWords$Runs;", true)
  | 1 => ("BorrowedWords$Explanation", "most", "[I", true)
  | 2 => ("BorrowedWords$Explanation", "fewestPieces", "[I", true)
  | 3 => ("BorrowedWords$Explanation", "choice", "[I", true)
  | 4 => ("BorrowedWords$Explanation", "starts", "[I", true)
  | 5 => ("BorrowedWords$Explanation", "sizes", "[I", true)
  | 6 => ("BorrowedWords$Explanation", "pieces", "I", false)
  | _ => ("BorrowedWords$Explanation", "taken", "J", false)
def fty7 : Nat → FieldType := fun k => match k with
  | 0 => .object "BorrowedWords$Runs"
  | 1 => .array (.int)
  | 2 => .array (.int)
  | 3 => .array (.int)
  | 4 => .array (.int)
  | 5 => .array (.int)
  | 6 => .int
  | _ => .long
def fld8 : u_T := fun k => match k with
  | 0 => ("BorrowedWords$Ways", "shelf", "LBorrowedWords$Shelf;", true)
  | 1 => ("BorrowedWords$Ways", "runs", "LBorrowedWords$Runs;", true)
  | 2 => ("BorrowedWords$Ways", "explanation", "LBorrowedWords$Explanation;", true)
  | 3 => ("BorrowedWords$Ways", "fromText", "[[I", true)
  | 4 => ("BorrowedWords$Ways", "fromPlace", "[[I", true)
  | 5 => ("BorrowedWords$Ways", "known", "Z", false)
  | 6 => ("BorrowedWords$Ways", "endText", "I", false)
  | 7 => ("BorrowedWords$Ways", "endPlace", "I", false)
  | 8 => ("BorrowedWords$Ways", "steps", "I", false)
  | _ => ("BorrowedWords$Ways", "visited", "I", false)
def fty8 : Nat → FieldType := fun k => match k with
  | 0 => .object "BorrowedWords$Shelf"
  | 1 => .object "BorrowedWords$Runs"
  | 2 => .object "BorrowedWords$Explanation"
  | 3 => .array (.array (.int))
  | 4 => .array (.array (.int))
  | 5 => .boolean
  | 6 => .int
  | 7 => .int
  | 8 => .int
  | _ => .int
def fld9 : u_T := fun k => match k with
  | 0 => ("BorrowedWords$RowTable", "shelf", "LBorrowedWords$Shelf;", true)
  | 1 => ("BorrowedWords$RowTable", "codes", "[[J", true)
  | 2 => ("BorrowedWords$RowTable", "sizes", "[I", true)
  | 3 => ("BorrowedWords$RowTable", "families", "[I", true)
  | 4 => ("BorrowedWords$RowTable", "upper", "I", false)
  | _ => ("BorrowedWords$RowTable", "lower", "I", false)
def fty9 : Nat → FieldType := fun k => match k with
  | 0 => .object "BorrowedWords$Shelf"
  | 1 => .array (.array (.long))
  | 2 => .array (.int)
  | 3 => .array (.int)
  | 4 => .int
  | _ => .int
def fld10 : u_T := fun k => match k with
  | 0 => ("BorrowedWords$Sentences", "endsOfX", "[I", true)
  | 1 => ("BorrowedWords$Sentences", "endsOfY", "[I", true)
  | 2 => ("BorrowedWords$Sentences", "partners", "[I", true)
  | 3 => ("BorrowedWords$Sentences", "chains", "[I", true)
  | 4 => ("BorrowedWords$Sentences", "countOfX", "I", false)
  | _ => ("BorrowedWords$Sentences", "kept", "I", false)
def fty10 : Nat → FieldType := fun k => match k with
  | 0 => .array (.int)
  | 1 => .array (.int)
  | 2 => .array (.int)
  | 3 => .array (.int)
  | 4 => .int
  | _ => .int
def fld11 : u_T := fun k => match k with
  | 0 => ("BorrowedWords", "shelf", "LBorrowedWords$Shelf;", true)
  | 1 => ("BorrowedWords", "lexicon", "LBorrowedWords$Lexicon;", true)
  | 2 => ("BorrowedWords", "marks", "LBorrowedWords$Marks;", true)
  | 3 => ("BorrowedWords", "reader", "LBorrowedWords$RuleReader;", true)
  | 4 => ("BorrowedWords", "book", "LBorrowedWords$RuleBook;", true)
  | 5 => ("BorrowedWords", "runs", "LBorrowedWords$Runs;", true)
  | 6 => ("BorrowedWords", "explanation", "LBorrowedWords$Explanation;", true)
  | 7 => ("BorrowedWords", "ways", "LBorrowedWords$Ways;", true)
  | 8 => ("BorrowedWords", "rowTable", "LBorrowedWords$RowTable;", true)
  | _ => ("BorrowedWords", "sentences", "LBorrowedWords$Sentences;", true)
def fty11 : Nat → FieldType := fun k => match k with
  | 0 => .object "BorrowedWords$Shelf"
  | 1 => .object "BorrowedWords$Lexicon"
  | 2 => .object "BorrowedWords$Marks"
  | 3 => .object "BorrowedWords$RuleReader"
  | 4 => .object "BorrowedWords$RuleBook"
  | 5 => .object "BorrowedWords$Runs"
  | 6 => .object "BorrowedWords$Explanation"
  | 7 => .object "BorrowedWords$Ways"
  | 8 => .object "BorrowedWords$RowTable"
  | _ => .object "BorrowedWords$Sentences"
def fld12 : u_T := fun k => match k with
  | 0 => ("BorrowedWordsModel", "texts", "I", false)
  | 1 => ("BorrowedWordsModel", "writers", "[I", true)
  | 2 => ("BorrowedWordsModel", "days", "[I", true)
  | 3 => ("BorrowedWordsModel", "many", "[I", true)
  | 4 => ("BorrowedWordsModel", "words", "[I", true)
  | 5 => ("BorrowedWordsModel", "stops", "[Z", true)
  | 6 => ("BorrowedWordsModel", "groups", "[I", true)
  | 7 => ("BorrowedWordsModel", "commons", "[Z", true)
  | 8 => ("BorrowedWordsModel", "isFound", "Z", false)
  | 9 => ("BorrowedWordsModel", "marks", "I", false)
  | 10 => ("BorrowedWordsModel", "markText", "[I", true)
  | 11 => ("BorrowedWordsModel", "markFrom", "[I", true)
  | 12 => ("BorrowedWordsModel", "markTo", "[I", true)
  | 13 => ("BorrowedWordsModel", "markOf", "[I", true)
  | 14 => ("BorrowedWordsModel", "rules", "I", false)
  | 15 => ("BorrowedWordsModel", "ruleDay", "[I", true)
  | 16 => ("BorrowedWordsModel", "ruleFirst", "[I", true)
  | 17 => ("BorrowedWordsModel", "clauses", "I", false)
  | 18 => ("BorrowedWordsModel", "clauseKind", "[I", true)
  | 19 => ("BorrowedWordsModel", "clauseNumber", "[I", true)
  | 20 => ("BorrowedWordsModel", "counts", "[Z", true)
  | 21 => ("BorrowedWordsModel", "laws", "[I", true)
  | 22 => ("BorrowedWordsModel", "text", "[I", true)
  | 23 => ("BorrowedWordsModel", "texted", "I", false)
  | 24 => ("BorrowedWordsModel", "faultPlace", "I", false)
  | 25 => ("BorrowedWordsModel", "at0", "I", false)
  | 26 => ("BorrowedWordsModel", "word", "J", false)
  | 27 => ("BorrowedWordsModel", "wordEnd", "I", false)
  | 28 => ("BorrowedWordsModel", "number", "I", false)
  | 29 => ("BorrowedWordsModel", "runs", "[I", true)
  | 30 => ("BorrowedWordsModel", "sources", "I", false)
  | 31 => ("BorrowedWordsModel", "taken", "[I", true)
  | 32 => ("BorrowedWordsModel", "pieces", "[I", true)
  | 33 => ("BorrowedWordsModel", "sizes", "[I", true)
  | 34 => ("BorrowedWordsModel", "whence", "[I", true)
  | 35 => ("BorrowedWordsModel", "upper", "I", false)
  | 36 => ("BorrowedWordsModel", "lower", "I", false)
  | 37 => ("BorrowedWordsModel", "near", "[I", true)
  | 38 => ("BorrowedWordsModel", "begins", "[I", true)
  | 39 => ("BorrowedWordsModel", "ends", "[I", true)
  | 40 => ("BorrowedWordsModel", "pairs", "[I", true)
  | _ => ("BorrowedWordsModel", "longest", "[I", true)
def fty12 : Nat → FieldType := fun k => match k with
  | 0 => .int
  | 1 => .array (.int)
  | 2 => .array (.int)
  | 3 => .array (.int)
  | 4 => .array (.int)
  | 5 => .array (.boolean)
  | 6 => .array (.int)
  | 7 => .array (.boolean)
  | 8 => .boolean
  | 9 => .int
  | 10 => .array (.int)
  | 11 => .array (.int)
  | 12 => .array (.int)
  | 13 => .array (.int)
  | 14 => .int
  | 15 => .array (.int)
  | 16 => .array (.int)
  | 17 => .int
  | 18 => .array (.int)
  | 19 => .array (.int)
  | 20 => .array (.boolean)
  | 21 => .array (.int)
  | 22 => .array (.int)
  | 23 => .int
  | 24 => .int
  | 25 => .int
  | 26 => .long
  | 27 => .int
  | 28 => .int
  | 29 => .array (.int)
  | 30 => .int
  | 31 => .array (.int)
  | 32 => .array (.int)
  | 33 => .array (.int)
  | 34 => .array (.int)
  | 35 => .int
  | 36 => .int
  | 37 => .array (.int)
  | 38 => .array (.int)
  | 39 => .array (.int)
  | 40 => .array (.int)
  | _ => .array (.int)
def cls_ : List vw_C := [("BorrowedWords$Text", fld0, 5), ("BorrowedWords$Shelf", fld1, 2), ("BorrowedWords$Lexicon", fld2, 3), ("BorrowedWords$Marks", fld3, 6), ("BorrowedWords$RuleReader", fld4, 7), ("BorrowedWords$RuleBook", fld5, 4), ("BorrowedWords$Runs", fld6, 15), ("BorrowedWords$Explanation", fld7, 8), ("BorrowedWords$Ways", fld8, 10), ("BorrowedWords$RowTable", fld9, 6), ("BorrowedWords$Sentences", fld10, 6), ("BorrowedWords", fld11, 10), ("BorrowedWordsModel", fld12, 42)]
def ftg_ : List (List Nat) := [[2, 1, 0, 0, 0], [2, 0], [2, 2, 2], [2, 2, 2, 2, 2, 0], [2, 2, 0, 0, 0, 0, 0], [2, 2, 2, 0], [2, 2, 2, 2, 2, 2, 2, 2, 2, 0, 0, 0, 0, 3, 3], [2, 2, 2, 2, 2, 2, 0, 1], [2, 2, 2, 2, 2, 3, 0, 0, 0, 0], [2, 2, 2, 2, 0, 0], [2, 2, 2, 2, 0, 0], [2, 2, 2, 2, 2, 2, 2, 2, 2, 2], [0, 2, 2, 2, 2, 2, 2, 2, 3, 0, 2, 2, 2, 2, 0, 2, 2, 0, 2, 2, 2, 2, 2, 0, 0, 0, 1, 0, 0, 2, 0, 2, 2, 2, 2, 0, 0, 2, 2, 2, 2, 2]]
def fTag (ci k : Nat) : Nat := (ftg_.getD ci []).getD k 0
def nF (ci : Nat) : Nat := (ftg_.getD ci []).length
def ftyS_ : List (Nat → FieldType) := [fty0, fty1, fty2, fty3, fty4, fty5, fty6, fty7, fty8, fty9, fty10, fty11, fty12]
def ftyOf (ci : Nat) : Nat → FieldType := ftyS_.getD ci (fun _ => .int)

def tyOf (t : Nat) : FieldType := match t with
  | 1 => .int
  | 2 => .long
  | 3 => .boolean
  | 4 => .object "BorrowedWords$Text"
  | 5 => .array .int
  | _ => .array .long
def TY (kA : Nat → ClassId) : List (ClassId × FieldType) := [(kA 1, tyOf 1), (kA 2, tyOf 2), (kA 3, tyOf 3), (kA 4, tyOf 4), (kA 5, tyOf 5), (kA 6, tyOf 6)]
def adr (ro : Int → Option Nat) (ad : Nat → Nat) (r : Int) : Option Nat := if r < 0 then (if r = -1 then none else ro r) else some (ad r.toNat)
def cV (ro : Int → Option Nat) (ad : Nat → Nat) (v : Vl_) : Value := match v with
  | (0, x) => .int (Int32.ofInt x)
  | (1, x) => .long (Int64.ofInt x)
  | (_, x) => va_rf (adr ro ad x)
def cF (ro : Int → Option Nat) (ad : Nat → Nat) (M : Mm_) (a : Int) (ci : Nat) (rs : List Int) (k : Nat) : Value := match fTag ci k with
  | 1 => .long (Int64.ofInt (M a k))
  | 2 => va_rf (adr ro ad (rs.getD k (-1)))
  | _ => .int (Int32.ofInt (M a k))
def cR (ro : Int → Option Nat) (ad : Nat → Nat) (rs : List Int) (j : Nat) : Option Nat := (rs[j]?).bind (adr ro ad)
def cC (kA : Nat → ClassId) (ro : Int → Option Nat) (ad : Nat → Nat) (M : Mm_) (a : Int) (c : Cl_) : va_E := match c with
  | (0, ci, rs) => .inr (ci, (List.range (nF ci)).map (cF ro ad M a ci rs))
  | (1, n, _) => .inl (kA 1, n, .inl (fun j => Int32.ofInt (M a j)))
  | (2, n, _) => .inl (kA 2, n, .inr (.inl (fun j => Int64.ofInt (M a j))))
  | (3, n, _) => .inl (kA 3, n, .inl (fun j => Int32.ofInt (M a j)))
  | (4, n, rs) => .inl (kA 4, n, .inr (.inr (.inr (.inr (cR ro ad rs)))))
  | (5, n, rs) => .inl (kA 5, n, .inr (.inr (.inr (.inr (cR ro ad rs)))))
  | (_, n, rs) => .inl (kA 6, n, .inr (.inr (.inr (.inr (cR ro ad rs)))))
def cW (kA : Nat → ClassId) (ro : Int → Option Nat) (ad : Nat → Nat) (w : Wd_) (M : Mm_) : va_W := w.mapIdx (fun i c => (ad i, cC kA ro ad M i c))
/-- is a slot a long's? -/
def isLg (w : Wd_) (a j : Int) : Bool := if a < 0 then false else match w[a.toNat]? with
  | some (2, _, _) => true
  | some (0, ci, _) => if j < 0 then false else fTag ci j.toNat == 1
  | _ => false
def okV (w : Wd_) (v : Vl_) : Prop := match v with
  | (0, x) => inI x
  | (1, x) => inL x
  | (_, x) => x < w.length
def okS (w : Wd_) (st : List Vl_) : Prop := ∀ v ∈ st, okV w v
def okL (w : Wd_) (ls : Lc_) : Prop := ∀ (i : Nat) (v : Vl_), ls[i]? = some (some v) → okV w v
/-- the cells are as they should be: references lie within, numbers fit, objects have their fields, what is read-only stays -/
def WI (RM : Mm_) (w : Wd_) (M : Mm_) : Prop :=
  (∀ (i : Nat) (c : Cl_), w[i]? = some c → (∀ r ∈ c.2.2, r < w.length) ∧ (c.1 = 0 → c.2.1 < cls_.length ∧ c.2.2.length = nF c.2.1) ∧ (4 ≤ c.1 → c.2.2.length = c.2.1) ∧ c.1 ≤ 6) ∧
  (∀ a j, inL (M a j)) ∧ (∀ a j, isLg w a j = false → inI (M a j)) ∧ (∀ a j, a < 0 → M a j = RM a j)
def LH (ro : Int → Option Nat) (ad : Nat → Nat) (lsA : Array Slot) (n : Nat) (ls : Lc_) : Prop := lsA.size = n ∧ ls.length = n ∧ lv_wf lsA ∧ ∀ (i : Nat) (v : Vl_), ls[i]? = some (some v) → lsA[i]? = some (.val (cV ro ad v))
def cL (ro : Int → Option Nat) (ad : Nat → Nat) (ls : Lc_) : List (Nat × Value) := (List.range ls.length).filterMap (fun i => match ls[i]? with
  | some (some v) => some (i, cV ro ad v)
  | _ => none)
theorem mem_cL {ro : Int → Option Nat} {ad : Nat → Nat} {ls : Lc_} {q : Nat × Value} : q ∈ cL ro ad ls ↔ ∃ v, ls[q.1]? = some (some v) ∧ q.2 = cV ro ad v := by
  unfold cL
  rw [List.mem_filterMap]
  constructor
  · rintro ⟨i, -, h⟩
    split at h
    · rename_i v hv
      cases h
      exact ⟨v, hv, rfl⟩
    · cases h
  · rintro ⟨v, hv, e⟩
    refine ⟨q.1, List.mem_range.mpr (List.getElem?_eq_some_iff.mp hv).1, ?_⟩
    rw [hv]
    show some (q.1, cV ro ad v) = some q
    rw [← e]
theorem LH.has {ro : Int → Option Nat} {ad : Nat → Nat} {lsA : Array Slot} {n : Nat} {ls : Lc_} (h : LH ro ad lsA n ls) : lv_has lsA n (cL ro ad ls) :=
  ⟨h.1, h.2.2.1, fun q hq => by obtain ⟨v, h1, h2⟩ := mem_cL.mp hq; rw [h2]; exact h.2.2.2 _ _ h1⟩
theorem LH.of {ro : Int → Option Nat} {ad : Nat → Nat} {lsA : Array Slot} {n : Nat} {ls : Lc_} {l : List (Nat × Value)} (h : lv_has lsA n l) (hn : ls.length = n) (hs : ∀ (i : Nat) (v : Vl_), ls[i]? = some (some v) → (i, cV ro ad v) ∈ l) : LH ro ad lsA n ls :=
  ⟨h.1, hn, h.2.1, fun i v hv => h.2.2 _ (hs i v hv)⟩
theorem LH.forget {ro : Int → Option Nat} {ad : Nat → Nat} {lsA : Array Slot} {n : Nat} {ls ls' : Lc_} (h : LH ro ad lsA n ls) (hn : ls.length = ls'.length) (hs : lsub ls' ls) : LH ro ad lsA n ls' :=
  ⟨h.1, hn ▸ h.2.1, h.2.2.1, fun i v hv => h.2.2.2 i v (hs i v hv)⟩
theorem inI_of32 {x : Int} (h : inI x) : (Int32.ofInt x).toInt = x := by
  rw [Int32.toInt_ofInt]
  unfold inI at h
  show Int.bmod x 4294967296 = x
  rw [Int.bmod_def]
  split <;> omega
theorem inL_of64 {x : Int} (h : inL x) : (Int64.ofInt x).toInt = x := by
  rw [Int64.toInt_ofInt]
  unfold inL at h
  show Int.bmod x 18446744073709551616 = x
  rw [Int.bmod_def]
  split <;> omega
theorem inI_to (x : Int32) : inI x.toInt := ⟨x.le_toInt, by have := x.toInt_lt; omega⟩
theorem inL_to (x : Int64) : inL x.toInt := ⟨x.le_toInt, by have := x.toInt_lt; omega⟩
theorem inI_L {x : Int} (h : inI x) : inL x := by unfold inI at h; unfold inL; omega
theorem of32_to (x : Int32) : Int32.ofInt x.toInt = x := Int32.ofInt_toInt x
theorem of64_to (x : Int64) : Int64.ofInt x.toInt = x := Int64.ofInt_toInt x
theorem clp_of {i : Int} (h : inI i) (h0 : 0 ≤ i) : (Int32.ofInt i).toNatClampNeg = i.toNat := by
  show (Int32.ofInt i).toInt.toNat = i.toNat
  rw [inI_of32 h]
theorem in_of {i n : Int} (h : inI i) (h0 : 0 ≤ i ∧ i < n) : vp_in (Int32.ofInt i) n.toNat := by
  rw [vp_in_iff, inI_of32 h]
  omega
