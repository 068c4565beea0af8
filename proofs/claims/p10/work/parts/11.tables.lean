/-! the tables of this program -/
def cm_T0 : u_T := fun k => match k with
  | 0 => ("GoodsBook$Answer", "known", "Z", false)
  | 1 => ("GoodsBook$Answer", "row", "[I", true)
  | 2 => ("GoodsBook$Answer", "amount", "I", false)
  | _ => ("GoodsBook$Answer", "count", "I", false)
def cm_T1 : u_T := fun k => match k with
  | 0 => ("GoodsBook$Bonds", "held", "I", false)
  | 1 => ("GoodsBook$Bonds", "kind", "[I", true)
  | 2 => ("GoodsBook$Bonds", "a", "[I", true)
  | 3 => ("GoodsBook$Bonds", "b", "[I", true)
  | _ => ("GoodsBook$Bonds", "extra", "[I", true)
def cm_T2 : u_T := fun k => match k with
  | 0 => ("GoodsBook$Book", "pages", "I", false)
  | 1 => ("GoodsBook$Book", "views", "[I", true)
  | 2 => ("GoodsBook$Book", "goods", "LGoodsBook$Goods;", true)
  | 3 => ("GoodsBook$Book", "bonds", "LGoodsBook$Bonds;", true)
  | 4 => ("GoodsBook$Book", "years", "LGoodsBook$Years;", true)
  | 5 => ("GoodsBook$Book", "settings", "[I", true)
  | _ => ("GoodsBook$Book", "choices", "[I", true)
def cm_T3 : u_T := fun k => match k with
  | 0 => ("GoodsBook$Draft", "book", "LGoodsBook$Book;", true)
  | 1 => ("GoodsBook$Draft", "floor", "LGoodsBook$Floor;", true)
  | 2 => ("GoodsBook$Draft", "pages", "I", false)
  | 3 => ("GoodsBook$Draft", "views", "[I", true)
  | 4 => ("GoodsBook$Draft", "row", "[I", true)
  | 5 => ("GoodsBook$Draft", "pageAt", "[I", true)
  | 6 => ("GoodsBook$Draft", "plain", "[I", true)
  | 7 => ("GoodsBook$Draft", "crowd", "[I", true)
  | 8 => ("GoodsBook$Draft", "filled", "[I", true)
  | 9 => ("GoodsBook$Draft", "code", "[I", true)
  | 10 => ("GoodsBook$Draft", "rivals", "[I", true)
  | _ => ("GoodsBook$Draft", "openArea", "[I", true)
def cm_T4 : u_T := fun k => match k with
  | 0 => ("GoodsBook$Floor", "goods", "LGoodsBook$Goods;", true)
  | 1 => ("GoodsBook$Floor", "known", "[B", true)
  | 2 => ("GoodsBook$Floor", "spots", "[I", true)
  | 3 => ("GoodsBook$Floor", "areas", "[I", true)
  | 4 => ("GoodsBook$Floor", "piece", "[I", true)
  | _ => ("GoodsBook$Floor", "isMeasured", "Z", false)
def cm_T5 : u_T := fun k => match k with
  | 0 => ("GoodsBook$Goods", "held", "I", false)
  | 1 => ("GoodsBook$Goods", "kind", "[I", true)
  | 2 => ("GoodsBook$Goods", "family", "[I", true)
  | 3 => ("GoodsBook$Goods", "wide", "[I", true)
  | 4 => ("GoodsBook$Goods", "high", "[I", true)
  | _ => ("GoodsBook$Goods", "sale", "[I", true)
def cm_T6 : u_T := fun k => match k with
  | 0 => ("GoodsBook$Sack", "goods", "LGoodsBook$Goods;", true)
  | 1 => ("GoodsBook$Sack", "seen", "I", false)
  | _ => ("GoodsBook$Sack", "most", "[I", true)
def cm_T7 : u_T := fun k => match k with
  | 0 => ("GoodsBook$Search", "draft", "LGoodsBook$Draft;", true)
  | 1 => ("GoodsBook$Search", "bonds", "LGoodsBook$Bonds;", true)
  | 2 => ("GoodsBook$Search", "like", "[I", true)
  | 3 => ("GoodsBook$Search", "row", "[I", true)
  | 4 => ("GoodsBook$Search", "amount", "I", false)
  | 5 => ("GoodsBook$Search", "isFound", "Z", false)
  | 6 => ("GoodsBook$Search", "banned", "I", false)
  | 7 => ("GoodsBook$Search", "ties", "[I", true)
  | 8 => ("GoodsBook$Search", "tieFrom", "[I", true)
  | _ => ("GoodsBook$Search", "openExtras", "[I", true)
def cm_T8 : u_T := fun k => match k with
  | 0 => ("GoodsBook$Sheets", "laneOf", "[I", true)
  | 1 => ("GoodsBook$Sheets", "length", "[I", true)
  | _ => ("GoodsBook$Sheets", "items", "[I", true)
def cm_T9 : u_T := fun k => match k with
  | 0 => ("GoodsBook$Tape", "bytes", "[B", true)
  | 1 => ("GoodsBook$Tape", "length", "I", false)
  | 2 => ("GoodsBook$Tape", "at", "I", false)
  | _ => ("GoodsBook$Tape", "fault", "I", false)
def cm_T10 : u_T := fun k => match k with
  | 0 => ("GoodsBook$Years", "held", "I", false)
  | 1 => ("GoodsBook$Years", "good", "[I", true)
  | 2 => ("GoodsBook$Years", "size", "[I", true)
  | _ => ("GoodsBook$Years", "sold", "[I", true)
def cm_T11 : u_T := fun k => match k with
  | 0 => ("GoodsBook", "now", "LGoodsBook$Book;", true)
  | 1 => ("GoodsBook", "spare", "LGoodsBook$Book;", true)
  | 2 => ("GoodsBook", "kept", "LGoodsBook$Book;", true)
  | 3 => ("GoodsBook", "isKept", "Z", false)
  | 4 => ("GoodsBook", "tape", "LGoodsBook$Tape;", true)
  | 5 => ("GoodsBook", "sheets", "LGoodsBook$Sheets;", true)
  | 6 => ("GoodsBook", "floor", "LGoodsBook$Floor;", true)
  | 7 => ("GoodsBook", "draft", "LGoodsBook$Draft;", true)
  | 8 => ("GoodsBook", "search", "LGoodsBook$Search;", true)
  | 9 => ("GoodsBook", "sack", "LGoodsBook$Sack;", true)
  | 10 => ("GoodsBook", "laid", "[I", true)
  | 11 => ("GoodsBook", "bestKnown", "LGoodsBook$Answer;", true)
  | 12 => ("GoodsBook", "stepsKnown", "LGoodsBook$Answer;", true)
  | 13 => ("GoodsBook", "mendedKnown", "LGoodsBook$Answer;", true)
  | _ => ("GoodsBook", "mendedGood", "I", false)
def cm_T12 : u_T := fun k => match k with
  | 0 => ("GoodsBookModel", "z", "[I", true)
  | 1 => ("GoodsBookModel", "fitKept", "[I", true)
  | 2 => ("GoodsBookModel", "laid", "[I", true)
  | 3 => ("GoodsBookModel", "listed", "[I", true)
  | 4 => ("GoodsBookModel", "listedMany", "I", false)
  | 5 => ("GoodsBookModel", "taken", "[I", true)
  | 6 => ("GoodsBookModel", "row", "[I", true)
  | 7 => ("GoodsBookModel", "best", "[I", true)
  | 8 => ("GoodsBookModel", "bestWorth", "I", false)
  | 9 => ("GoodsBookModel", "from", "[I", true)
  | 10 => ("GoodsBookModel", "isMore", "Z", false)
  | 11 => ("GoodsBookModel", "aside", "[I", true)
  | 12 => ("GoodsBookModel", "tape", "[I", true)
  | 13 => ("GoodsBookModel", "taped", "I", false)
  | 14 => ("GoodsBookModel", "at", "I", false)
  | 15 => ("GoodsBookModel", "reads", "I", false)
  | 16 => ("GoodsBookModel", "read", "[I", true)
  | 17 => ("GoodsBookModel", "readGoods", "I", false)
  | 18 => ("GoodsBookModel", "isKept", "Z", false)
  | 19 => ("GoodsBookModel", "kept", "[I", true)
  | 20 => ("GoodsBookModel", "lanes", "[I", true)
  | 21 => ("GoodsBookModel", "rowSizes", "[I", true)
  | _ => ("GoodsBookModel", "items", "[I", true)
def cm_oT : u_T := fun k => match k with
  | 0 => ("java/lang/String", "value", "[B", true)
  | _ => ("java/lang/String", "coder", "B", true)
def cm_cls : List vw_C := [("GoodsBook$Answer", cm_T0, 4), ("GoodsBook$Bonds", cm_T1, 5), ("GoodsBook$Book", cm_T2, 7), ("GoodsBook$Draft", cm_T3, 12), ("GoodsBook$Floor", cm_T4, 6), ("GoodsBook$Goods", cm_T5, 6), ("GoodsBook$Sack", cm_T6, 3), ("GoodsBook$Search", cm_T7, 10), ("GoodsBook$Sheets", cm_T8, 3), ("GoodsBook$Tape", cm_T9, 4), ("GoodsBook$Years", cm_T10, 4), ("GoodsBook", cm_T11, 15), ("GoodsBookModel", cm_T12, 23)]
def cm_tys : List (List FieldType) := [[.boolean, .array .int, .int, .int],
  [.int, .array .int, .array .int, .array .int, .array .int],
  [.int, .array .int, .object "GoodsBook$Goods", .object "GoodsBook$Bonds", .object "GoodsBook$Years", .array .int, .array .int],
  [.object "GoodsBook$Book", .object "GoodsBook$Floor", .int, .array .int, .array .int, .array .int, .array .int, .array .int, .array .int, .array .int, .array .int, .array .int],
  [.object "GoodsBook$Goods", .array .byte, .array .int, .array .int, .array .int, .boolean],
  [.int, .array .int, .array .int, .array .int, .array .int, .array .int],
  [.object "GoodsBook$Goods", .int, .array .int],
  [.object "GoodsBook$Draft", .object "GoodsBook$Bonds", .array .int, .array .int, .int, .boolean, .int, .array .int, .array .int, .array .int],
  [.array .int, .array .int, .array .int],
  [.array .byte, .int, .int, .int],
  [.int, .array .int, .array .int, .array .int],
  [.object "GoodsBook$Book", .object "GoodsBook$Book", .object "GoodsBook$Book", .boolean, .object "GoodsBook$Tape", .object "GoodsBook$Sheets", .object "GoodsBook$Floor", .object "GoodsBook$Draft", .object "GoodsBook$Search", .object "GoodsBook$Sack", .array .int, .object "GoodsBook$Answer", .object "GoodsBook$Answer", .object "GoodsBook$Answer", .int],
  [.array .int, .array .int, .array .int, .array .int, .int, .array .int, .array .int, .array .int, .int, .array .int, .boolean, .array .int, .array .int, .int, .int, .int, .array .int, .int, .boolean, .array .int, .array .int, .array .int, .array .int]]
/-- the words that calls carry -/
def cm_wk : Cond → Bool
  | .arrayClass .. => true
  | .classLink .. => true
  | .code .. => true
  | .constant .. => true
  | .constantLong .. => true
  | .fieldLink .. => true
  | .initialized .. => true
  | .instanceMethod .. => true
  | .instantiable .. => true
  | .lays .. => true
  | .laysFinal .. => true
  | .methodLink .. => true
  | .native .. => true
  | .selects .. => true
  | .static .. => true
  | _ => false
theorem cm_wk_good {w : Cond} (h : cm_wk w = true) : goodWord w = true := by
  cases w <;> first | rfl | (simp [cm_wk] at h)
def cm_Ts : List Cond := lw_tbl.filter cm_wk
def cm_Ns : List Cond := lw_tbl.filter cm_nest
def cm_sF : List (String × String × String × Nat) := [("GoodsBook", "MOST_SET", "[I", 0), ("GoodsBook", "THREES", "[I", 1), ("GoodsBook$Years", "TIMES", "[I", 2), ("java/lang/String", "COMPACT_STRINGS", "Z", 3), ("jdk/internal/util/Preconditions", "SIOOBE_FORMATTER", "Ljava/util/function/BiFunction;", 4)]
def cm_sR : List (String × Nat × String × Nat) := [("GoodsBook$Tape", 66, "plrf", 4), ("GoodsBook$Tape", 72, "0123", 5), ("GoodsBook$Tape", 88, "1234", 6), ("GoodsBook$Tape", 100, "ofenvh", 7), ("GoodsBook$Tape", 102, "+-", 8)]
def cm_oC : List (String × u_T) := [("java/lang/String", cm_oT)]
def cm_pool (x : Term) : List Term := [.string "" 1, .string "" 2, .string "" 3, .int 1, x]
def cm_oA (xs : List Int32) : List (Option (FieldType × List Term)) := [some (.int, xs.map .int), some (.int, [.int 99, .int 999, .int 999]), some (.int, [.int 1, .int 3, .int 9, .int 27, .int 81, .int 243]), some (.int, [.int 1, .int 2, .int 4]), none, none, none, none, none, some (.byte, [.int 112, .int 108, .int 114, .int 102]), some (.byte, [.int 48, .int 49, .int 50, .int 51]), some (.byte, [.int 49, .int 50, .int 51, .int 52]), some (.byte, [.int 111, .int 102, .int 101, .int 110, .int 118, .int 104]), some (.byte, [.int 43, .int 45])]
def cm_oO : List (Option (Nat × List Term)) := [none, none, none, none, some (13, [.string "" 9, .int 0]), some (13, [.string "" 10, .int 0]), some (13, [.string "" 11, .int 0]), some (13, [.string "" 12, .int 0]), some (13, [.string "" 13, .int 0])]
