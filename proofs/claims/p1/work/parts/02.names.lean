def rR0 : String := "TypeGuard"
def rT0 : u_T := fun k => match k with
  | 0 => ("TypeGuard", "text", "[C", true)
  | 1 => ("TypeGuard", "textLength", "I", false)
  | 2 => ("TypeGuard", "reader", "LTypeGuard$Reader;", true)
  | 3 => ("TypeGuard", "policy", "LTypeGuard$Policy;", false)
  | 4 => ("TypeGuard", "sequence", "I", false)
  | 5 => ("TypeGuard", "processTypes", "[J", true)
  | 6 => ("TypeGuard", "objectTypes", "[J", true)
  | 7 => ("TypeGuard", "objectClasses", "[J", true)
  | 8 => ("TypeGuard", "entries", "LTypeGuard$VectorCache;", true)
  | _ => ("TypeGuard", "log", "LTypeGuard$NoteLog;", true)
def ry0 : Nat → FieldType := fun k => match k with
  | 0 => .array (.char)
  | 1 => .int
  | 2 => .object "TypeGuard$Reader"
  | 3 => .object "TypeGuard$Policy"
  | 4 => .int
  | 5 => .array (.long)
  | 6 => .array (.long)
  | 7 => .array (.long)
  | 8 => .object "TypeGuard$VectorCache"
  | _ => .object "TypeGuard$NoteLog"
def rR1 : String := "TypeGuard$Reader"
def rT1 : u_T := fun k => match k with
  | 0 => ("TypeGuard$Reader", "tokens", "LTypeGuard$Tokens;", true)
  | 1 => ("TypeGuard$Reader", "draft", "LTypeGuard$Policy;", false)
  | 2 => ("TypeGuard$Reader", "faultKind", "I", false)
  | 3 => ("TypeGuard$Reader", "faultPlace", "I", false)
  | 4 => ("TypeGuard$Reader", "condition", "I", false)
  | _ => ("TypeGuard$Reader", "behindElse", "Z", false)
def ry1 : Nat → FieldType := fun k => match k with
  | 0 => .object "TypeGuard$Tokens"
  | 1 => .object "TypeGuard$Policy"
  | 2 => .int
  | 3 => .int
  | 4 => .int
  | _ => .boolean
def rR2 : String := "TypeGuard$Tokens"
def rT2 : u_T := fun k => match k with
  | 0 => ("TypeGuard$Tokens", "sorts", "[C", true)
  | 1 => ("TypeGuard$Tokens", "places", "[I", true)
  | 2 => ("TypeGuard$Tokens", "names", "[J", true)
  | 3 => ("TypeGuard$Tokens", "size", "I", false)
  | _ => ("TypeGuard$Tokens", "at", "I", false)
def ry2 : Nat → FieldType := fun k => match k with
  | 0 => .array (.char)
  | 1 => .array (.int)
  | 2 => .array (.long)
  | 3 => .int
  | _ => .int
def rR3 : String := "TypeGuard$Policy"
def rT3 : u_T := fun k => match k with
  | 0 => ("TypeGuard$Policy", "types", "LTypeGuard$Names;", true)
  | 1 => ("TypeGuard$Policy", "attributes", "LTypeGuard$Names;", true)
  | 2 => ("TypeGuard$Policy", "classes", "LTypeGuard$Names;", true)
  | 3 => ("TypeGuard$Policy", "bools", "LTypeGuard$Names;", true)
  | 4 => ("TypeGuard$Policy", "permissions", "[LTypeGuard$Names;", true)
  | 5 => ("TypeGuard$Policy", "members", "[I", true)
  | 6 => ("TypeGuard$Policy", "states", "[Z", true)
  | 7 => ("TypeGuard$Policy", "rules", "[LTypeGuard$Rule;", true)
  | _ => ("TypeGuard$Policy", "ruleCount", "I", false)
def ry3 : Nat → FieldType := fun k => match k with
  | 0 => .object "TypeGuard$Names"
  | 1 => .object "TypeGuard$Names"
  | 2 => .object "TypeGuard$Names"
  | 3 => .object "TypeGuard$Names"
  | 4 => .array (.object "TypeGuard$Names")
  | 5 => .array (.int)
  | 6 => .array (.boolean)
  | 7 => .array (.object "TypeGuard$Rule")
  | _ => .int
def rR4 : String := "TypeGuard$Names"
def rT4 : u_T := fun k => match k with
  | 0 => ("TypeGuard$Names", "row", "[J", true)
  | _ => ("TypeGuard$Names", "size", "I", false)
def ry4 : Nat → FieldType := fun k => match k with
  | 0 => .array (.long)
  | _ => .int
def rR5 : String := "TypeGuard$Rule"
def rT5 : u_T := fun k => match k with
  | 0 => ("TypeGuard$Rule", "word", "LTypeGuard$Word;", false)
  | 1 => ("TypeGuard$Rule", "place", "I", false)
  | 2 => ("TypeGuard$Rule", "condition", "I", false)
  | 3 => ("TypeGuard$Rule", "behindElse", "Z", false)
  | 4 => ("TypeGuard$Rule", "source", "LTypeGuard$TypeSet;", true)
  | 5 => ("TypeGuard$Rule", "target", "LTypeGuard$TypeSet;", true)
  | 6 => ("TypeGuard$Rule", "self", "Z", false)
  | 7 => ("TypeGuard$Rule", "sourceTypes", "I", false)
  | 8 => ("TypeGuard$Rule", "targetTypes", "I", false)
  | 9 => ("TypeGuard$Rule", "classes", "I", false)
  | 10 => ("TypeGuard$Rule", "permissions", "[I", true)
  | _ => ("TypeGuard$Rule", "movedTo", "I", false)
def ry5 : Nat → FieldType := fun k => match k with
  | 0 => .object "TypeGuard$Word"
  | 1 => .int
  | 2 => .int
  | 3 => .boolean
  | 4 => .object "TypeGuard$TypeSet"
  | 5 => .object "TypeGuard$TypeSet"
  | 6 => .boolean
  | 7 => .int
  | 8 => .int
  | 9 => .int
  | 10 => .array (.int)
  | _ => .int
def rR6 : String := "TypeGuard$TypeSet"
def rT6 : u_T := fun k => match k with
  | 0 => ("TypeGuard$TypeSet", "inverted", "Z", false)
  | 1 => ("TypeGuard$TypeSet", "everything", "Z", false)
  | 2 => ("TypeGuard$TypeSet", "addedTypes", "I", false)
  | 3 => ("TypeGuard$TypeSet", "addedAttributes", "I", false)
  | 4 => ("TypeGuard$TypeSet", "removedTypes", "I", false)
  | _ => ("TypeGuard$TypeSet", "removedAttributes", "I", false)
def ry6 : Nat → FieldType := fun k => match k with
  | 0 => .boolean
  | 1 => .boolean
  | 2 => .int
  | 3 => .int
  | 4 => .int
  | _ => .int
def rR7 : String := "TypeGuard$Entry"
def rT7 : u_T := fun k => match k with
  | 0 => ("TypeGuard$Entry", "source", "I", false)
  | 1 => ("TypeGuard$Entry", "target", "I", false)
  | 2 => ("TypeGuard$Entry", "classNumber", "I", false)
  | 3 => ("TypeGuard$Entry", "sequence", "I", false)
  | 4 => ("TypeGuard$Entry", "lastAsk", "I", false)
  | 5 => ("TypeGuard$Entry", "allowed", "I", false)
  | 6 => ("TypeGuard$Entry", "audited", "I", false)
  | _ => ("TypeGuard$Entry", "hushed", "I", false)
def ry7 : Nat → FieldType := fun k => match k with
  | 0 => .int
  | 1 => .int
  | 2 => .int
  | 3 => .int
  | 4 => .int
  | 5 => .int
  | 6 => .int
  | _ => .int
def rR8 : String := "TypeGuard$VectorCache"
def rT8 : u_T := fun k => match k with
  | 0 => ("TypeGuard$VectorCache", "row", "[LTypeGuard$Entry;", true)
  | 1 => ("TypeGuard$VectorCache", "size", "I", false)
  | 2 => ("TypeGuard$VectorCache", "asks", "I", false)
  | 3 => ("TypeGuard$VectorCache", "hits", "I", false)
  | _ => ("TypeGuard$VectorCache", "misses", "I", false)
def ry8 : Nat → FieldType := fun k => match k with
  | 0 => .array (.object "TypeGuard$Entry")
  | 1 => .int
  | 2 => .int
  | 3 => .int
  | _ => .int
def rR9 : String := "TypeGuard$NoteLog"
def rT9 : u_T := fun k => match k with
  | 0 => ("TypeGuard$NoteLog", "rows", "[[I", true)
  | _ => ("TypeGuard$NoteLog", "total", "I", false)
def ry9 : Nat → FieldType := fun k => match k with
  | 0 => .array (.array (.int))
  | _ => .int
def rR10 : String := "TypeGuardModel"
def rT10 : u_T := fun k => match k with
  | 0 => ("TypeGuardModel", "thrown", "I", false)
  | 1 => ("TypeGuardModel", "text", "[I", true)
  | 2 => ("TypeGuardModel", "length", "I", false)
  | 3 => ("TypeGuardModel", "at", "I", false)
  | 4 => ("TypeGuardModel", "behind", "I", false)
  | 5 => ("TypeGuardModel", "token", "I", false)
  | 6 => ("TypeGuardModel", "sign", "I", false)
  | 7 => ("TypeGuardModel", "bad", "I", false)
  | 8 => ("TypeGuardModel", "place", "I", false)
  | 9 => ("TypeGuardModel", "faultKind", "I", false)
  | 10 => ("TypeGuardModel", "faultPlace", "I", false)
  | 11 => ("TypeGuardModel", "name", "J", false)
  | 12 => ("TypeGuardModel", "bank", "I", false)
  | 13 => ("TypeGuardModel", "many", "[I", true)
  | 14 => ("TypeGuardModel", "typeName", "[J", true)
  | 15 => ("TypeGuardModel", "attributeName", "[J", true)
  | 16 => ("TypeGuardModel", "className", "[J", true)
  | 17 => ("TypeGuardModel", "permission", "[J", true)
  | 18 => ("TypeGuardModel", "boolName", "[J", true)
  | 19 => ("TypeGuardModel", "has", "[I", true)
  | 20 => ("TypeGuardModel", "permissions", "[I", true)
  | 21 => ("TypeGuardModel", "value", "[Z", true)
  | 22 => ("TypeGuardModel", "kind", "[I", true)
  | 23 => ("TypeGuardModel", "word", "[I", true)
  | 24 => ("TypeGuardModel", "bool", "[I", true)
  | 25 => ("TypeGuardModel", "sources", "[I", true)
  | 26 => ("TypeGuardModel", "targets", "[I", true)
  | 27 => ("TypeGuardModel", "classes", "[I", true)
  | 28 => ("TypeGuardModel", "to", "[I", true)
  | 29 => ("TypeGuardModel", "branch", "[Z", true)
  | 30 => ("TypeGuardModel", "itself", "[Z", true)
  | 31 => ("TypeGuardModel", "bits", "[I", true)
  | 32 => ("TypeGuardModel", "in", "[I", true)
  | 33 => ("TypeGuardModel", "out", "[I", true)
  | 34 => ("TypeGuardModel", "number", "I", false)
  | 35 => ("TypeGuardModel", "process", "[J", true)
  | 36 => ("TypeGuardModel", "objectType", "[J", true)
  | 37 => ("TypeGuardModel", "objectClass", "[J", true)
  | 38 => ("TypeGuardModel", "key", "[I", true)
  | 39 => ("TypeGuardModel", "stamp", "[I", true)
  | 40 => ("TypeGuardModel", "vectors", "[I", true)
  | 41 => ("TypeGuardModel", "asked", "[I", true)
  | 42 => ("TypeGuardModel", "entries", "I", false)
  | 43 => ("TypeGuardModel", "clock", "I", false)
  | 44 => ("TypeGuardModel", "hits", "I", false)
  | 45 => ("TypeGuardModel", "misses", "I", false)
  | 46 => ("TypeGuardModel", "noted", "I", false)
  | _ => ("TypeGuardModel", "notes", "[I", true)
def ry10 : Nat → FieldType := fun k => match k with
  | 0 => .int
  | 1 => .array (.int)
  | 2 => .int
  | 3 => .int
  | 4 => .int
  | 5 => .int
  | 6 => .int
  | 7 => .int
  | 8 => .int
  | 9 => .int
  | 10 => .int
  | 11 => .long
  | 12 => .int
  | 13 => .array (.int)
  | 14 => .array (.long)
  | 15 => .array (.long)
  | 16 => .array (.long)
  | 17 => .array (.long)
  | 18 => .array (.long)
  | 19 => .array (.int)
  | 20 => .array (.int)
  | 21 => .array (.boolean)
  | 22 => .array (.int)
  | 23 => .array (.int)
  | 24 => .array (.int)
  | 25 => .array (.int)
  | 26 => .array (.int)
  | 27 => .array (.int)
  | 28 => .array (.int)
  | 29 => .array (.boolean)
  | 30 => .array (.boolean)
  | 31 => .array (.int)
  | 32 => .array (.int)
  | 33 => .array (.int)
  | 34 => .int
  | 35 => .array (.long)
  | 36 => .array (.long)
  | 37 => .array (.long)
  | 38 => .array (.int)
  | 39 => .array (.int)
  | 40 => .array (.int)
  | 41 => .array (.int)
  | 42 => .int
  | 43 => .int
  | 44 => .int
  | 45 => .int
  | 46 => .int
  | _ => .array (.int)
def kCl : List vw_C := [(rR0, rT0, 10), (rR1, rT1, 6), (rR2, rT2, 5), (rR3, rT3, 9), (rR4, rT4, 2), (rR5, rT5, 12), (rR6, rT6, 6), (rR7, rT7, 8), (rR8, rT8, 5), (rR9, rT9, 2), (rR10, rT10, 48)]
/-! A typed flat memory: the cells that the law makes stand from b on; cell k holds what cS says of a state. -/
abbrev CS : Type := (Nat → Nat → Int32) × (Nat → Nat → Int64) × (Nat → Nat → Nat) × (Nat → Nat → Bool)
abbrev MS : Type := CS
abbrev ST : Type := CS × MS × (Nat → Int64)
def gI (S : CS) (k j : Nat) : Int32 := S.1 k j
def gL (S : CS) (k j : Nat) : Int64 := S.2.1 k j
def gR (S : CS) (k j : Nat) : Nat := S.2.2.1 k j
def gB (S : CS) (k j : Nat) : Bool := S.2.2.2 k j
def pI (S : CS) (k j : Nat) (v : Int32) : CS := (va_up S.1 k (va_up (S.1 k) j v), S.2)
def pL (S : CS) (k j : Nat) (v : Int64) : CS := (S.1, va_up S.2.1 k (va_up (S.2.1 k) j v), S.2.2)
def pR (S : CS) (k j : Nat) (v : Nat) : CS := (S.1, S.2.1, va_up S.2.2.1 k (va_up (S.2.2.1 k) j v), S.2.2.2)
def pB (S : CS) (k j : Nat) (v : Bool) : CS := (S.1, S.2.1, S.2.2.1, va_up S.2.2.2 k (va_up (S.2.2.2 k) j v))
def bI : Bool → Int32
  | true => 1
  | false => 0
theorem bI_0 {x : Bool} (h : bI x = 0) : ¬ x = true := by
  intro e; rw [e] at h; exact absurd h (by decide)
theorem bI_1 {x : Bool} (h : ¬ bI x = 0) : x = true := by
  cases x with
  | true => rfl
  | false => exact absurd rfl h
theorem bI_nar (x : Bool) : narrow .boolean (.int (bI x)) = .int (bI x) := by cases x <;> decide
theorem bI_fit (x : Bool) : fits .boolean (.int (bI x)) = true := by cases x <;> decide
theorem bI_vp (x : Bool) : vp_nar .boolean (bI x) = bI x := by cases x <;> decide
abbrev txN (i : Int32) : Nat := i.toNatClampNeg
def inbd (i : Int32) (n : Nat) : Bool := (!decide (i < 0)) && decide (i.toNatClampNeg < n)
theorem inbd_in {i : Int32} {n : Nat} (h : inbd i n = true) : vp_in i n := by
  simp only [inbd, Bool.and_eq_true, Bool.not_eq_true', decide_eq_false_iff_not, decide_eq_true_eq] at h
  intro q
  rcases q with q | q
  · exact h.1 q
  · omega
theorem inbd_lt {i : Int32} {n : Nat} (h : inbd i n = true) : txN i < n := by
  simp only [inbd, Bool.and_eq_true, decide_eq_true_eq] at h
  exact h.2
def bd {α β : Type} (x : α) (f : α → Option β) : Option β := f x
theorem bd_some {α β : Type} {x : α} {f : α → Option β} {r : β} (h : bd x f = some r) : ∃ z, z = x ∧ f z = some r := ⟨x, rfl, h⟩
def iU (x y : Int32) : Int32 := (x.toUInt32 >>> (y.toUInt32 &&& Int32.toUInt32 31)).toInt32
def lSh (x : Int64) (y : Int32) : Int64 := x <<< (y.toInt64 &&& 63)
def lSr (x : Int64) (y : Int32) : Int64 := x >>> (y.toInt64 &&& 63)
def lSu (x : Int64) (y : Int32) : Int64 := (x.toUInt64 >>> (y.toInt64.toUInt64 &&& Int64.toUInt64 63)).toInt64
def iC (x : Int32) : Int32 := (x.toUInt32 % 65536).toInt32
theorem iC_vp (x : Int32) : vp_nar .char x = iC x := by
  rw [vp_nar_char]
  unfold iC
  congr 1
theorem iC_nar {x : Int32} (h : iC x = x) : narrow .char (.int x) = .int x := by
  have h1 := pk_nc x
  rw [show (x.toUInt32 % 65536).toInt32 = iC x from rfl, h] at h1
  exact h1
