/-! the words that a method may need: those of the tables that stay as they are while the machine runs -/
def zG : List Cond := lw_tbl.filter goodWord
theorem zgm {w : Cond} (h : w ∈ lw_tbl) (hg : goodWord w = true) : w ∈ zG := List.mem_filter.mpr ⟨h, hg⟩
theorem zg_good {w : Cond} (h : w ∈ zG) : (w.onTables && w.keeps) = true ∨ ∃ ty, w = .arrayClass ty := good_of_word (List.mem_filter.mp h).2
/-! the classes: their fields -/
def zN0 : String := "EditGuess$Book"
def zT0 : u_T := fun k => match k with
  | 0 => ("EditGuess$Book", "exampleLines", "[LEditGuess$Signs;", true)
  | 1 => ("EditGuess$Book", "results", "[LEditGuess$Signs;", true)
  | 2 => ("EditGuess$Book", "lines", "[LEditGuess$Signs;", true)
  | 3 => ("EditGuess$Book", "examples", "I", false)
  | _ => ("EditGuess$Book", "pooled", "I", false)
def zt0 : Nat → FieldType := fun k => match k with
  | 0 => (.array (.object "EditGuess$Signs"))
  | 1 => (.array (.object "EditGuess$Signs"))
  | 2 => (.array (.object "EditGuess$Signs"))
  | 3 => .int
  | _ => .int
theorem zin0 : ∀ w ∈ u_ws zN0 zT0 5, w ∈ zG := by decide +kernel
theorem znm0 : ∀ a, a < 5 → ∀ b, b < 5 → a ≠ b → (zT0 a).2.1 ≠ (zT0 b).2.1 := by decide +kernel
theorem ztk0 : ∀ k, k < 5 → parseFieldDescriptor (zT0 k).2.2.1 = some (zt0 k) := by decide +kernel
def zN1 : String := "EditGuess$Fitting"
def zT1 : u_T := fun k => match k with
  | 0 => ("EditGuess$Fitting", "rows", "[LEditGuess$Row;", true)
  | 1 => ("EditGuess$Fitting", "reached", "[I", true)
  | 2 => ("EditGuess$Fitting", "heads", "[I", true)
  | 3 => ("EditGuess$Fitting", "sizes", "[I", true)
  | 4 => ("EditGuess$Fitting", "prices", "[I", true)
  | 5 => ("EditGuess$Fitting", "moves", "LEditGuess$Moves;", true)
  | 6 => ("EditGuess$Fitting", "ways", "[J", true)
  | 7 => ("EditGuess$Fitting", "least", "[I", true)
  | 8 => ("EditGuess$Fitting", "many", "I", false)
  | _ => ("EditGuess$Fitting", "groups", "I", false)
def zt1 : Nat → FieldType := fun k => match k with
  | 0 => (.array (.object "EditGuess$Row"))
  | 1 => (.array .int)
  | 2 => (.array .int)
  | 3 => (.array .int)
  | 4 => (.array .int)
  | 5 => (.object "EditGuess$Moves")
  | 6 => (.array .long)
  | 7 => (.array .int)
  | 8 => .int
  | _ => .int
theorem zin1 : ∀ w ∈ u_ws zN1 zT1 10, w ∈ zG := by decide +kernel
theorem znm1 : ∀ a, a < 10 → ∀ b, b < 10 → a ≠ b → (zT1 a).2.1 ≠ (zT1 b).2.1 := by decide +kernel
theorem ztk1 : ∀ k, k < 10 → parseFieldDescriptor (zT1 k).2.2.1 = some (zt1 k) := by decide +kernel
def zN2 : String := "EditGuess$Moves"
def zT2 : u_T := fun k => match k with
  | 0 => ("EditGuess$Moves", "targets", "[I", true)
  | 1 => ("EditGuess$Moves", "times", "[I", true)
  | 2 => ("EditGuess$Moves", "prices", "[I", true)
  | _ => ("EditGuess$Moves", "many", "I", false)
def zt2 : Nat → FieldType := fun k => match k with
  | 0 => (.array .int)
  | 1 => (.array .int)
  | 2 => (.array .int)
  | _ => .int
theorem zin2 : ∀ w ∈ u_ws zN2 zT2 4, w ∈ zG := by decide +kernel
theorem znm2 : ∀ a, a < 4 → ∀ b, b < 4 → a ≠ b → (zT2 a).2.1 ≠ (zT2 b).2.1 := by decide +kernel
theorem ztk2 : ∀ k, k < 4 → parseFieldDescriptor (zT2 k).2.2.1 = some (zt2 k) := by decide +kernel
def zN3 : String := "EditGuess$Piece"
def zT3 : u_T := fun k => match k with
  | 0 => ("EditGuess$Piece", "text", "LEditGuess$Signs;", true)
  | 1 => ("EditGuess$Piece", "isText", "Z", false)
  | 2 => ("EditGuess$Piece", "first", "I", false)
  | _ => ("EditGuess$Piece", "second", "I", false)
def zt3 : Nat → FieldType := fun k => match k with
  | 0 => (.object "EditGuess$Signs")
  | 1 => .boolean
  | 2 => .int
  | _ => .int
theorem zin3 : ∀ w ∈ u_ws zN3 zT3 4, w ∈ zG := by decide +kernel
theorem znm3 : ∀ a, a < 4 → ∀ b, b < 4 → a ≠ b → (zT3 a).2.1 ≠ (zT3 b).2.1 := by decide +kernel
theorem ztk3 : ∀ k, k < 4 → parseFieldDescriptor (zT3 k).2.2.1 = some (zt3 k) := by decide +kernel
def zN4 : String := "EditGuess$Plan"
def zT4 : u_T := fun k => match k with
  | 0 => ("EditGuess$Plan", "pieces", "[LEditGuess$Piece;", true)
  | _ => ("EditGuess$Plan", "many", "I", false)
def zt4 : Nat → FieldType := fun k => match k with
  | 0 => (.array (.object "EditGuess$Piece"))
  | _ => .int
theorem zin4 : ∀ w ∈ u_ws zN4 zT4 2, w ∈ zG := by decide +kernel
theorem znm4 : ∀ a, a < 2 → ∀ b, b < 2 → a ≠ b → (zT4 a).2.1 ≠ (zT4 b).2.1 := by decide +kernel
theorem ztk4 : ∀ k, k < 2 → parseFieldDescriptor (zT4 k).2.2.1 = some (zt4 k) := by decide +kernel
def zN5 : String := "EditGuess$Row"
def zT5 : u_T := fun k => match k with
  | 0 => ("EditGuess$Row", "result", "LEditGuess$Signs;", true)
  | 1 => ("EditGuess$Row", "places", "[I", true)
  | _ => ("EditGuess$Row", "alike", "[[I", true)
def zt5 : Nat → FieldType := fun k => match k with
  | 0 => (.object "EditGuess$Signs")
  | 1 => (.array .int)
  | _ => (.array (.array .int))
theorem zin5 : ∀ w ∈ u_ws zN5 zT5 3, w ∈ zG := by decide +kernel
theorem znm5 : ∀ a, a < 3 → ∀ b, b < 3 → a ≠ b → (zT5 a).2.1 ≠ (zT5 b).2.1 := by decide +kernel
theorem ztk5 : ∀ k, k < 3 → parseFieldDescriptor (zT5 k).2.2.1 = some (zt5 k) := by decide +kernel
def zN6 : String := "EditGuess$Signs"
def zT6 : u_T := fun k => match k with
  | 0 => ("EditGuess$Signs", "codes", "[I", true)
  | 1 => ("EditGuess$Signs", "kinds", "[I", true)
  | _ => ("EditGuess$Signs", "many", "I", false)
def zt6 : Nat → FieldType := fun k => match k with
  | 0 => (.array .int)
  | 1 => (.array .int)
  | _ => .int
theorem zin6 : ∀ w ∈ u_ws zN6 zT6 3, w ∈ zG := by decide +kernel
theorem znm6 : ∀ a, a < 3 → ∀ b, b < 3 → a ≠ b → (zT6 a).2.1 ≠ (zT6 b).2.1 := by decide +kernel
theorem ztk6 : ∀ k, k < 3 → parseFieldDescriptor (zT6 k).2.2.1 = some (zt6 k) := by decide +kernel
def zN7 : String := "EditGuess"
def zT7 : u_T := fun k => match k with
  | 0 => ("EditGuess", "pad", "LEditGuess$Signs;", true)
  | 1 => ("EditGuess", "book", "LEditGuess$Book;", true)
  | 2 => ("EditGuess", "images", "[LEditGuess$Book;", true)
  | 3 => ("EditGuess", "kept", "[Z", true)
  | 4 => ("EditGuess", "fitting", "LEditGuess$Fitting;", true)
  | 5 => ("EditGuess", "best", "LEditGuess$Plan;", true)
  | 6 => ("EditGuess", "made", "LEditGuess$Signs;", true)
  | 7 => ("EditGuess", "agreed", "[J", true)
  | 8 => ("EditGuess", "guessed", "Z", false)
  | _ => ("EditGuess", "fitted", "J", false)
def zt7 : Nat → FieldType := fun k => match k with
  | 0 => (.object "EditGuess$Signs")
  | 1 => (.object "EditGuess$Book")
  | 2 => (.array (.object "EditGuess$Book"))
  | 3 => (.array .boolean)
  | 4 => (.object "EditGuess$Fitting")
  | 5 => (.object "EditGuess$Plan")
  | 6 => (.object "EditGuess$Signs")
  | 7 => (.array .long)
  | 8 => .boolean
  | _ => .long
theorem zin7 : ∀ w ∈ u_ws zN7 zT7 10, w ∈ zG := by decide +kernel
theorem znm7 : ∀ a, a < 10 → ∀ b, b < 10 → a ≠ b → (zT7 a).2.1 ≠ (zT7 b).2.1 := by decide +kernel
theorem ztk7 : ∀ k, k < 10 → parseFieldDescriptor (zT7 k).2.2.1 = some (zt7 k) := by decide +kernel
def zN8 : String := "EditGuessModel"
def zT8 : u_T := fun k => match k with
  | 0 => ("EditGuessModel", "lines", "[I", true)
  | 1 => ("EditGuessModel", "lineSize", "[I", true)
  | 2 => ("EditGuessModel", "outs", "[I", true)
  | 3 => ("EditGuessModel", "outSize", "[I", true)
  | 4 => ("EditGuessModel", "examples", "I", false)
  | 5 => ("EditGuessModel", "pools", "[I", true)
  | 6 => ("EditGuessModel", "poolSize", "[I", true)
  | 7 => ("EditGuessModel", "many", "I", false)
  | 8 => ("EditGuessModel", "signs", "I", false)
  | 9 => ("EditGuessModel", "pad", "[I", true)
  | 10 => ("EditGuessModel", "codes", "[I", true)
  | 11 => ("EditGuessModel", "now", "[I", true)
  | 12 => ("EditGuessModel", "size", "I", false)
  | 13 => ("EditGuessModel", "workLine", "[I", true)
  | 14 => ("EditGuessModel", "workOut", "[I", true)
  | 15 => ("EditGuessModel", "workSize", "[I", true)
  | 16 => ("EditGuessModel", "marks", "[I", true)
  | 17 => ("EditGuessModel", "work", "I", false)
  | 18 => ("EditGuessModel", "ways", "[J", true)
  | 19 => ("EditGuessModel", "least", "[I", true)
  | 20 => ("EditGuessModel", "kind", "[I", true)
  | 21 => ("EditGuessModel", "one", "[I", true)
  | 22 => ("EditGuessModel", "other", "[I", true)
  | 23 => ("EditGuessModel", "pieces", "I", false)
  | 24 => ("EditGuessModel", "cost", "I", false)
  | 25 => ("EditGuessModel", "made", "[I", true)
  | 26 => ("EditGuessModel", "image", "[I", true)
  | _ => ("EditGuessModel", "isKept", "[Z", true)
def zt8 : Nat → FieldType := fun k => match k with
  | 0 => (.array .int)
  | 1 => (.array .int)
  | 2 => (.array .int)
  | 3 => (.array .int)
  | 4 => .int
  | 5 => (.array .int)
  | 6 => (.array .int)
  | 7 => .int
  | 8 => .int
  | 9 => (.array .int)
  | 10 => (.array .int)
  | 11 => (.array .int)
  | 12 => .int
  | 13 => (.array .int)
  | 14 => (.array .int)
  | 15 => (.array .int)
  | 16 => (.array .int)
  | 17 => .int
  | 18 => (.array .long)
  | 19 => (.array .int)
  | 20 => (.array .int)
  | 21 => (.array .int)
  | 22 => (.array .int)
  | 23 => .int
  | 24 => .int
  | 25 => (.array .int)
  | 26 => (.array .int)
  | _ => (.array .boolean)
theorem zin8 : ∀ w ∈ u_ws zN8 zT8 28, w ∈ zG := by decide +kernel
theorem znm8 : ∀ a, a < 28 → ∀ b, b < 28 → a ≠ b → (zT8 a).2.1 ≠ (zT8 b).2.1 := by decide +kernel
theorem ztk8 : ∀ k, k < 28 → parseFieldDescriptor (zT8 k).2.2.1 = some (zt8 k) := by decide +kernel
def zcl : List vw_C := [(zN0, zT0, 5), (zN1, zT1, 10), (zN2, zT2, 4), (zN3, zT3, 4), (zN4, zT4, 2), (zN5, zT5, 3), (zN6, zT6, 3), (zN7, zT7, 10), (zN8, zT8, 28)]
def ztf (ci : Nat) : Nat → FieldType := match ci with
  | 0 => zt0
  | 1 => zt1
  | 2 => zt2
  | 3 => zt3
  | 4 => zt4
  | 5 => zt5
  | 6 => zt6
  | 7 => zt7
  | _ => zt8
theorem zcl_in : ∀ (ci : Nat) (q : vw_C), zcl[ci]? = some q → ∀ w ∈ u_ws q.1 q.2.1 q.2.2, w ∈ zG := by
  intro ci q h
  match ci, h with
  | 0, h => cases h; exact zin0
  | 1, h => cases h; exact zin1
  | 2, h => cases h; exact zin2
  | 3, h => cases h; exact zin3
  | 4, h => cases h; exact zin4
  | 5, h => cases h; exact zin5
  | 6, h => cases h; exact zin6
  | 7, h => cases h; exact zin7
  | 8, h => cases h; exact zin8
  | ci + 9, h => simp [zcl] at h
theorem zcl_nm : ∀ (ci : Nat) (q : vw_C), zcl[ci]? = some q → ∀ a, a < q.2.2 → ∀ b, b < q.2.2 → a ≠ b → (q.2.1 a).2.1 ≠ (q.2.1 b).2.1 := by
  intro ci q h
  match ci, h with
  | 0, h => cases h; exact znm0
  | 1, h => cases h; exact znm1
  | 2, h => cases h; exact znm2
  | 3, h => cases h; exact znm3
  | 4, h => cases h; exact znm4
  | 5, h => cases h; exact znm5
  | 6, h => cases h; exact znm6
  | 7, h => cases h; exact znm7
  | 8, h => cases h; exact znm8
  | ci + 9, h => simp [zcl] at h
theorem zcl_ty : ∀ (ci : Nat) (q : vw_C), zcl[ci]? = some q → ∀ k, k < q.2.2 → parseFieldDescriptor (q.2.1 k).2.2.1 = some (ztf ci k) := by
  intro ci q h
  match ci, h with
  | 0, h => cases h; exact ztk0
  | 1, h => cases h; exact ztk1
  | 2, h => cases h; exact ztk2
  | 3, h => cases h; exact ztk3
  | 4, h => cases h; exact ztk4
  | 5, h => cases h; exact ztk5
  | 6, h => cases h; exact ztk6
  | 7, h => cases h; exact ztk7
  | 8, h => cases h; exact ztk8
  | ci + 9, h => simp [zcl] at h
