/-! THE TABLES OF THIS CLAIM, printed by wip/gen: places, classes, methods, links. -/
def mF0 : u_T := fun k => match k with
  | 0 => ("ChestOfLetters$Countings", "walls", "[I", true)
  | 1 => ("ChestOfLetters$Countings", "letters", "[I", true)
  | 2 => ("ChestOfLetters$Countings", "amounts", "[I", true)
  | _ => ("ChestOfLetters$Countings", "size", "I", false)
def mFt0 : Nat → FieldType := fun k => match k with
  | 0 => .array .int
  | 1 => .array .int
  | 2 => .array .int
  | _ => .int
def mF1 : u_T := fun k => match k with
  | 0 => ("ChestOfLetters$Kin", "beside", "[I", true)
  | 1 => ("ChestOfLetters$Kin", "layers", "[I", true)
  | 2 => ("ChestOfLetters$Kin", "letters", "[I", true)
  | _ => ("ChestOfLetters$Kin", "starts", "[I", true)
def mFt1 : Nat → FieldType := fun k => match k with
  | 0 => .array .int
  | 1 => .array .int
  | 2 => .array .int
  | _ => .array .int
def mF2 : u_T := fun k => match k with
  | 0 => ("ChestOfLetters$Order", "kinds", "[I", true)
  | 1 => ("ChestOfLetters$Order", "firsts", "[I", true)
  | 2 => ("ChestOfLetters$Order", "seconds", "[I", true)
  | 3 => ("ChestOfLetters$Order", "letters", "[I", true)
  | _ => ("ChestOfLetters$Order", "size", "I", false)
def mFt2 : Nat → FieldType := fun k => match k with
  | 0 => .array .int
  | 1 => .array .int
  | 2 => .array .int
  | 3 => .array .int
  | _ => .int
def mF3 : u_T := fun k => match k with
  | 0 => ("ChestOfLetters$Past", "steps", "[I", true)
  | 1 => ("ChestOfLetters$Past", "next", "I", false)
  | 2 => ("ChestOfLetters$Past", "size", "I", false)
  | 3 => ("ChestOfLetters$Past", "kept", "[I", true)
  | _ => ("ChestOfLetters$Past", "holds", "I", false)
def mFt3 : Nat → FieldType := fun k => match k with
  | 0 => .array .int
  | 1 => .int
  | 2 => .int
  | 3 => .array .int
  | _ => .int
def mF4 : u_T := fun k => match k with
  | 0 => ("ChestOfLetters$Renaming", "pool", "[I", true)
  | 1 => ("ChestOfLetters$Renaming", "choice", "[I", true)
  | 2 => ("ChestOfLetters$Renaming", "chosen", "[I", true)
  | 3 => ("ChestOfLetters$Renaming", "worthFrom", "[I", true)
  | 4 => ("ChestOfLetters$Renaming", "most", "I", false)
  | 5 => ("ChestOfLetters$Renaming", "ways", "I", false)
  | 6 => ("ChestOfLetters$Renaming", "fewest", "I", false)
  | _ => ("ChestOfLetters$Renaming", "fewestLetters", "I", false)
def mFt4 : Nat → FieldType := fun k => match k with
  | 0 => .array .int
  | 1 => .array .int
  | 2 => .array .int
  | 3 => .array .int
  | 4 => .int
  | 5 => .int
  | 6 => .int
  | _ => .int
def mF5 : u_T := fun k => match k with
  | 0 => ("ChestOfLetters$Row", "numbers", "[I", true)
  | _ => ("ChestOfLetters$Row", "size", "I", false)
def mFt5 : Nat → FieldType := fun k => match k with
  | 0 => .array .int
  | _ => .int
def mF6 : u_T := fun k => match k with
  | 0 => ("ChestOfLetters$Rule", "parts", "[I", true)
  | 1 => ("ChestOfLetters$Rule", "size", "I", false)
  | 2 => ("ChestOfLetters$Rule", "readsLeft", "Z", false)
  | _ => ("ChestOfLetters$Rule", "stack", "[I", true)
def mFt6 : Nat → FieldType := fun k => match k with
  | 0 => .array .int
  | 1 => .int
  | 2 => .boolean
  | _ => .array .int
def mF7 : u_T := fun k => match k with
  | 0 => ("ChestOfLetters$Sets", "needs", "[I", true)
  | 1 => ("ChestOfLetters$Sets", "worths", "[I", true)
  | 2 => ("ChestOfLetters$Sets", "pool", "[I", true)
  | 3 => ("ChestOfLetters$Sets", "weeks", "[I", true)
  | 4 => ("ChestOfLetters$Sets", "dear", "[I", true)
  | 5 => ("ChestOfLetters$Sets", "among", "I", false)
  | _ => ("ChestOfLetters$Sets", "gain", "I", false)
def mFt7 : Nat → FieldType := fun k => match k with
  | 0 => .array .int
  | 1 => .array .int
  | 2 => .array .int
  | 3 => .array .int
  | 4 => .array .int
  | 5 => .int
  | _ => .int
def mF8 : u_T := fun k => match k with
  | 0 => ("ChestOfLetters$State", "town", "LChestOfLetters$Town;", true)
  | 1 => ("ChestOfLetters$State", "cells", "[I", true)
  | 2 => ("ChestOfLetters$State", "rank", "[I", true)
  | _ => ("ChestOfLetters$State", "rest", "[I", true)
def mFt8 : Nat → FieldType := fun k => match k with
  | 0 => .object "ChestOfLetters$Town"
  | 1 => .array .int
  | 2 => .array .int
  | _ => .array .int
def mF9 : u_T := fun k => match k with
  | 0 => ("ChestOfLetters$Text", "signs", "[C", true)
  | 1 => ("ChestOfLetters$Text", "length", "I", false)
  | 2 => ("ChestOfLetters$Text", "end", "I", false)
  | 3 => ("ChestOfLetters$Text", "at", "I", false)
  | _ => ("ChestOfLetters$Text", "wrong", "I", false)
def mFt9 : Nat → FieldType := fun k => match k with
  | 0 => .array .char
  | 1 => .int
  | 2 => .int
  | 3 => .int
  | _ => .int
def mF10 : u_T := fun k => match k with
  | 0 => ("ChestOfLetters$Town", "stock", "[I", true)
  | 1 => ("ChestOfLetters$Town", "coming", "[I", true)
  | 2 => ("ChestOfLetters$Town", "words", "I", false)
  | 3 => ("ChestOfLetters$Town", "comingWords", "I", false)
  | 4 => ("ChestOfLetters$Town", "length", "[I", true)
  | 5 => ("ChestOfLetters$Town", "sense", "[I", true)
  | 6 => ("ChestOfLetters$Town", "spelling", "[I", true)
  | 7 => ("ChestOfLetters$Town", "needs", "[I", true)
  | 8 => ("ChestOfLetters$Town", "spelt", "[I", true)
  | 9 => ("ChestOfLetters$Town", "walls", "I", false)
  | 10 => ("ChestOfLetters$Town", "comingWalls", "I", false)
  | 11 => ("ChestOfLetters$Town", "worth", "[I", true)
  | _ => ("ChestOfLetters$Town", "term", "[I", true)
def mFt10 : Nat → FieldType := fun k => match k with
  | 0 => .array .int
  | 1 => .array .int
  | 2 => .int
  | 3 => .int
  | 4 => .array .int
  | 5 => .array .int
  | 6 => .array .int
  | 7 => .array .int
  | 8 => .array .int
  | 9 => .int
  | 10 => .int
  | 11 => .array .int
  | _ => .array .int
def mF11 : u_T := fun k => match k with
  | 0 => ("ChestOfLetters", "text", "LChestOfLetters$Text;", true)
  | 1 => ("ChestOfLetters", "numbers", "LChestOfLetters$Row;", true)
  | 2 => ("ChestOfLetters", "place", "LChestOfLetters$Town;", true)
  | 3 => ("ChestOfLetters", "law", "LChestOfLetters$Rule;", true)
  | 4 => ("ChestOfLetters", "draft", "LChestOfLetters$Rule;", true)
  | 5 => ("ChestOfLetters", "byWorth", "LChestOfLetters$Rule;", true)
  | 6 => ("ChestOfLetters", "byLack", "LChestOfLetters$Rule;", true)
  | 7 => ("ChestOfLetters", "byWaiting", "LChestOfLetters$Rule;", true)
  | 8 => ("ChestOfLetters", "steps", "LChestOfLetters$Order;", true)
  | 9 => ("ChestOfLetters", "now", "LChestOfLetters$State;", true)
  | 10 => ("ChestOfLetters", "trial", "LChestOfLetters$State;", true)
  | 11 => ("ChestOfLetters", "past", "LChestOfLetters$Past;", true)
  | 12 => ("ChestOfLetters", "sets", "LChestOfLetters$Sets;", true)
  | 13 => ("ChestOfLetters", "renaming", "LChestOfLetters$Renaming;", true)
  | 14 => ("ChestOfLetters", "kin", "LChestOfLetters$Kin;", true)
  | _ => ("ChestOfLetters", "countings", "LChestOfLetters$Countings;", true)
def mFt11 : Nat → FieldType := fun k => match k with
  | 0 => .object "ChestOfLetters$Text"
  | 1 => .object "ChestOfLetters$Row"
  | 2 => .object "ChestOfLetters$Town"
  | 3 => .object "ChestOfLetters$Rule"
  | 4 => .object "ChestOfLetters$Rule"
  | 5 => .object "ChestOfLetters$Rule"
  | 6 => .object "ChestOfLetters$Rule"
  | 7 => .object "ChestOfLetters$Rule"
  | 8 => .object "ChestOfLetters$Order"
  | 9 => .object "ChestOfLetters$State"
  | 10 => .object "ChestOfLetters$State"
  | 11 => .object "ChestOfLetters$Past"
  | 12 => .object "ChestOfLetters$Sets"
  | 13 => .object "ChestOfLetters$Renaming"
  | 14 => .object "ChestOfLetters$Kin"
  | _ => .object "ChestOfLetters$Countings"
def mF12 : u_T := fun k => match k with
  | 0 => ("ChestOfLettersModel", "left", "[I", true)
  | 1 => ("ChestOfLettersModel", "words", "I", false)
  | 2 => ("ChestOfLettersModel", "sense", "[I", true)
  | 3 => ("ChestOfLettersModel", "size", "[I", true)
  | 4 => ("ChestOfLettersModel", "letters", "[I", true)
  | 5 => ("ChestOfLettersModel", "needs", "[I", true)
  | 6 => ("ChestOfLettersModel", "walls", "I", false)
  | 7 => ("ChestOfLettersModel", "worth", "[I", true)
  | 8 => ("ChestOfLettersModel", "term", "[I", true)
  | 9 => ("ChestOfLettersModel", "has", "[I", true)
  | 10 => ("ChestOfLettersModel", "hung", "[I", true)
  | 11 => ("ChestOfLettersModel", "waits", "[I", true)
  | 12 => ("ChestOfLettersModel", "upFor", "[I", true)
  | 13 => ("ChestOfLettersModel", "weeks", "I", false)
  | 14 => ("ChestOfLettersModel", "text", "[B", true)
  | 15 => ("ChestOfLettersModel", "typed", "I", false)
  | 16 => ("ChestOfLettersModel", "row", "[I", true)
  | 17 => ("ChestOfLettersModel", "rowMany", "I", false)
  | 18 => ("ChestOfLettersModel", "thrown", "I", false)
  | 19 => ("ChestOfLettersModel", "read", "[B", false)
  | 20 => ("ChestOfLettersModel", "length", "I", false)
  | 21 => ("ChestOfLettersModel", "top", "I", false)
  | 22 => ("ChestOfLettersModel", "at", "I", false)
  | 23 => ("ChestOfLettersModel", "wrong", "I", false)
  | 24 => ("ChestOfLettersModel", "comes", "[I", true)
  | 25 => ("ChestOfLettersModel", "lineLetters", "[I", true)
  | 26 => ("ChestOfLettersModel", "rule", "[B", true)
  | 27 => ("ChestOfLettersModel", "ruleSize", "I", false)
  | 28 => ("ChestOfLettersModel", "askedWall", "I", false)
  | 29 => ("ChestOfLettersModel", "ruleBy", "I", false)
  | 30 => ("ChestOfLettersModel", "undos", "[I", true)
  | 31 => ("ChestOfLettersModel", "undoMany", "I", false)
  | 32 => ("ChestOfLettersModel", "steps", "[I", true)
  | 33 => ("ChestOfLettersModel", "put", "[I", true)
  | 34 => ("ChestOfLettersModel", "fewest", "[I", true)
  | 35 => ("ChestOfLettersModel", "tried", "[I", true)
  | 36 => ("ChestOfLettersModel", "found", "[I", true)
  | 37 => ("ChestOfLettersModel", "rest", "[I", true)
  | 38 => ("ChestOfLettersModel", "foundWorth", "I", false)
  | 39 => ("ChestOfLettersModel", "moreBy", "[I", true)
  | 40 => ("ChestOfLettersModel", "far", "[I", true)
  | 41 => ("ChestOfLettersModel", "counts", "[I", true)
  | 42 => ("ChestOfLettersModel", "countMany", "I", false)
  | 43 => ("ChestOfLettersModel", "came", "I", false)
  | 44 => ("ChestOfLettersModel", "kept", "[I", true)
  | 45 => ("ChestOfLettersModel", "isKept", "[Z", true)
  | _ => ("ChestOfLettersModel", "keptCame", "[I", true)
def mFt12 : Nat → FieldType := fun k => match k with
  | 0 => .array .int
  | 1 => .int
  | 2 => .array .int
  | 3 => .array .int
  | 4 => .array .int
  | 5 => .array .int
  | 6 => .int
  | 7 => .array .int
  | 8 => .array .int
  | 9 => .array .int
  | 10 => .array .int
  | 11 => .array .int
  | 12 => .array .int
  | 13 => .int
  | 14 => .array .byte
  | 15 => .int
  | 16 => .array .int
  | 17 => .int
  | 18 => .int
  | 19 => .array .byte
  | 20 => .int
  | 21 => .int
  | 22 => .int
  | 23 => .int
  | 24 => .array .int
  | 25 => .array .int
  | 26 => .array .byte
  | 27 => .int
  | 28 => .int
  | 29 => .int
  | 30 => .array .int
  | 31 => .int
  | 32 => .array .int
  | 33 => .array .int
  | 34 => .array .int
  | 35 => .array .int
  | 36 => .array .int
  | 37 => .array .int
  | 38 => .int
  | 39 => .array .int
  | 40 => .array .int
  | 41 => .array .int
  | 42 => .int
  | 43 => .int
  | 44 => .array .int
  | 45 => .array .boolean
  | _ => .array .int
def mCls : List vw_C := [("ChestOfLetters$Countings", mF0, 4), ("ChestOfLetters$Kin", mF1, 4), ("ChestOfLetters$Order", mF2, 5), ("ChestOfLetters$Past", mF3, 5), ("ChestOfLetters$Renaming", mF4, 8), ("ChestOfLetters$Row", mF5, 2), ("ChestOfLetters$Rule", mF6, 4), ("ChestOfLetters$Sets", mF7, 7), ("ChestOfLetters$State", mF8, 4), ("ChestOfLetters$Text", mF9, 5), ("ChestOfLetters$Town", mF10, 13), ("ChestOfLetters", mF11, 16), ("ChestOfLettersModel", mF12, 47)]
def mCNl : List String := ["ChestOfLetters$Countings", "ChestOfLetters$Kin", "ChestOfLetters$Order", "ChestOfLetters$Past", "ChestOfLetters$Renaming", "ChestOfLetters$Row", "ChestOfLetters$Rule", "ChestOfLetters$Sets", "ChestOfLetters$State", "ChestOfLetters$Text", "ChestOfLetters$Town", "ChestOfLetters", "ChestOfLettersModel", "java/lang/Integer", "java/lang/Math", "java/util/Arrays", "ChestOfLettersLaw"]
def mCN (o : Nat) : String := mCNl.getD o ""
/-- Countings_size -/
def mm0 : mM := (prog_2_method_2_code, 0, 1, 1, 1, false, [])
/-- Countings_clear -/
def mm1 : mM := (prog_2_method_3_code, 0, 1, 0, 1, false, [])
/-- Countings_note -/
def mm2 : mM := (prog_2_method_4_code, 0, 4, 2, 4, false, [])
/-- Countings_latest -/
def mm3 : mM := (prog_2_method_5_code, 0, 4, 1, 3, false, [(7, []), (38, [])])
/-- Countings_sum -/
def mm4 : mM := (prog_2_method_6_code, 0, 4, 1, 2, false, [(4, [])])
/-- Kin_link -/
def mm5 : mM := (prog_3_method_2_code, 1, 4, 0, 2, false, [(10, [3]), (20, []), (63, [])])
/-- Kin_besideAny -/
def mm6 : mM := (prog_3_method_3_code, 1, 4, 1, 2, false, [(4, []), (29, [2])])
/-- Kin_distance -/
def mm7 : mM := (prog_3_method_4_code, 1, 5, 1, 3, false, [(14, [2])])
/-- Kin_between -/
def mm8 : mM := (prog_3_method_5_code, 1, 6, 0, 4, false, [(8, [1, 2])])
/-- Kin_least -/
def mm9 : mM := (prog_3_method_6_code, 1, 2, 1, 1, true, [(2, []), (22, [0])])
/-- Kin_longestRow -/
def mm10 : mM := (prog_3_method_7_code, 1, 8, 1, 3, false, [(37, [1, 3])])
/-- Kin_groupOf -/
def mm11 : mM := (prog_3_method_8_code, 1, 4, 1, 2, false, [(6, [1])])
/-- Kin_findStarts -/
def mm12 : mM := (prog_3_method_9_code, 1, 4, 0, 2, false, [(4, []), (46, []), (53, [0, 1, 2, 3])])
/-- Kin_startsOf -/
def mm13 : mM := (prog_3_method_10_code, 1, 4, 1, 2, false, [(4, []), (44, [])])
/-- Kin_longestFrom -/
def mm14 : mM := (prog_3_method_11_code, 1, 6, 1, 3, false, [(8, []), (56, []), (62, [0, 1, 2, 4, 5])])
/-- Kin_leastNext -/
def mm15 : mM := (prog_3_method_12_code, 1, 5, 1, 4, false, [(3, []), (33, [])])
/-- Kin_leastCover -/
def mm16 : mM := (prog_3_method_13_code, 1, 8, 1, 2, false, [(4, [4, 5, 6, 7]), (57, [6, 7]), (115, [3, 4, 6]), (122, [6, 7])])
/-- Kin_lettersOf -/
def mm17 : mM := (prog_3_method_14_code, 1, 4, 1, 2, true, [(4, []), (27, [2])])
/-- Kin_lettersIn -/
def mm18 : mM := (prog_3_method_15_code, 1, 4, 1, 2, false, [(4, []), (29, [2])])
/-- Kin_lengthOf -/
def mm19 : mM := (prog_3_method_16_code, 1, 4, 1, 2, true, [(4, []), (30, [2])])
/-- Order_size -/
def mm20 : mM := (prog_4_method_2_code, 2, 1, 1, 1, false, [])
/-- Order_kind -/
def mm21 : mM := (prog_4_method_3_code, 2, 2, 1, 2, false, [])
/-- Order_first -/
def mm22 : mM := (prog_4_method_4_code, 2, 2, 1, 2, false, [])
/-- Order_second -/
def mm23 : mM := (prog_4_method_5_code, 2, 2, 1, 2, false, [])
/-- Order_letter -/
def mm24 : mM := (prog_4_method_6_code, 2, 2, 1, 2, false, [])
/-- Order_read -/
def mm25 : mM := (prog_4_method_7_code, 2, 4, 2, 2, false, [(23, [2, 3]), (26, []), (57, [2]), (58, [2]), (65, [0, 2, 3])])
/-- Order_readStep -/
def mm26 : mM := (prog_4_method_8_code, 2, 3, 2, 2, false, [(24, [0, 2]), (66, []), (103, [2])])
/-- Order_readSecond -/
def mm27 : mM := (prog_4_method_9_code, 2, 2, 1, 2, true, [(54, [0, 1]), (73, [0, 1])])
/-- Order_isKind -/
def mm28 : mM := (prog_4_method_10_code, 2, 1, 2, 1, true, [(30, [0]), (35, [0])])
/-- Past_size -/
def mm29 : mM := (prog_5_method_2_code, 3, 1, 1, 1, false, [])
/-- Past_push -/
def mm30 : mM := (prog_5_method_3_code, 3, 2, 0, 2, false, [])
/-- Past_pop -/
def mm31 : mM := (prog_5_method_4_code, 3, 2, 2, 2, false, [])
/-- Past_forgetAll -/
def mm32 : mM := (prog_5_method_5_code, 3, 1, 0, 1, false, [])
/-- Past_store -/
def mm33 : mM := (prog_5_method_6_code, 3, 3, 2, 3, false, [(9, [0, 1, 2])])
/-- Past_restore -/
def mm34 : mM := (prog_5_method_7_code, 3, 3, 2, 3, false, [(20, [0, 1, 2])])
/-- Renaming_isSmall -/
def mm35 : mM := (prog_6_method_2_code, 4, 4, 2, 2, false, [(4, [0]), (49, [0, 2]), (57, [0, 1, 3]), (69, [0, 1, 2, 3])])
/-- Renaming_likeSense -/
def mm36 : mM := (prog_6_method_3_code, 4, 4, 1, 2, true, [(4, []), (31, [2])])
/-- Renaming_dearestWords -/
def mm37 : mM := (prog_6_method_4_code, 4, 4, 1, 2, false, [(7, []), (47, []), (81, [])])
/-- Renaming_wordFor -/
def mm38 : mM := (prog_6_method_5_code, 4, 2, 1, 2, false, [])
/-- Renaming_decide -/
def mm39 : mM := (prog_6_method_6_code, 4, 6, 0, 4, false, [(87, []), (160, []), (166, [0, 1, 2, 3, 4, 5])])
/-- Renaming_decideBehind -/
def mm40 : mM := (prog_6_method_7_code, 4, 4, 0, 4, false, [])
/-- Renaming_draw -/
def mm41 : mM := (prog_6_method_8_code, 4, 4, 2, 3, false, [(2, []), (33, [])])
/-- Renaming_putBack -/
def mm42 : mM := (prog_6_method_9_code, 4, 4, 0, 3, false, [(2, [])])
/-- Renaming_countStreets -/
def mm43 : mM := (prog_6_method_10_code, 4, 4, 1, 3, false, [(2, [])])
/-- Renaming_fewest -/
def mm44 : mM := (prog_6_method_11_code, 4, 1, 1, 1, false, [])
/-- Renaming_fewestLetters -/
def mm45 : mM := (prog_6_method_12_code, 4, 1, 1, 1, false, [])
/-- Renaming_choose -/
def mm46 : mM := (prog_6_method_13_code, 4, 7, 0, 6, false, [(16, [2]), (56, [2])])
/-- Renaming_chooseBehind -/
def mm47 : mM := (prog_6_method_14_code, 4, 6, 0, 6, false, [])
/-- Renaming_countWay -/
def mm48 : mM := (prog_6_method_15_code, 4, 4, 0, 3, false, [(24, [3]), (28, [3]), (29, [3]), (41, [3]), (51, [1, 2, 3])])
/-- Row_clear -/
def mm49 : mM := (prog_7_method_2_code, 5, 1, 3, 1, false, [])
/-- Row_add -/
def mm50 : mM := (prog_7_method_3_code, 5, 2, 3, 2, false, [(32, [1])])
/-- Row_size -/
def mm51 : mM := (prog_7_method_4_code, 5, 1, 1, 1, false, [])
/-- Row_at -/
def mm52 : mM := (prog_7_method_5_code, 5, 2, 1, 2, false, [(21, [0, 1]), (22, [0, 1])])
/-- Rule_be -/
def mm53 : mM := (prog_8_method_2_code, 6, 3, 0, 3, false, [(19, [0, 1, 2])])
/-- Rule_copy -/
def mm54 : mM := (prog_8_method_3_code, 6, 2, 0, 2, false, [])
/-- Rule_readsLeft -/
def mm55 : mM := (prog_8_method_4_code, 6, 1, 2, 1, false, [])
/-- Rule_read -/
def mm56 : mM := (prog_8_method_5_code, 6, 2, 2, 2, false, [(33, [0])])
/-- Rule_clear -/
def mm57 : mM := (prog_8_method_6_code, 6, 1, 0, 1, false, [])
/-- Rule_emit -/
def mm58 : mM := (prog_8_method_7_code, 6, 2, 0, 2, false, [(32, [0, 1])])
/-- Rule_emitSign -/
def mm59 : mM := (prog_8_method_8_code, 6, 2, 0, 2, false, [(22, [0, 1])])
/-- Rule_readExpression -/
def mm60 : mM := (prog_8_method_9_code, 6, 4, 0, 3, false, [(36, []), (51, [0, 1, 2, 3])])
/-- Rule_readSum -/
def mm61 : mM := (prog_8_method_10_code, 6, 5, 0, 3, false, [(8, [4]), (42, []), (64, [0, 1, 2, 3, 4])])
/-- Rule_readProduct -/
def mm62 : mM := (prog_8_method_11_code, 6, 5, 0, 3, false, [(8, [4]), (42, []), (64, [0, 1, 2, 3, 4])])
/-- Rule_readNegated -/
def mm63 : mM := (prog_8_method_12_code, 6, 5, 0, 3, false, [(5, []), (34, [3]), (41, [4]), (57, [0, 1, 2, 3, 4])])
/-- Rule_readThing -/
def mm64 : mM := (prog_8_method_13_code, 6, 4, 0, 3, false, [(83, [0, 2, 3]), (88, [0, 1, 2, 3])])
/-- Rule_isThing -/
def mm65 : mM := (prog_8_method_14_code, 6, 1, 2, 1, true, [])
/-- Rule_of -/
def mm66 : mM := (prog_8_method_15_code, 6, 6, 1, 3, false, [(5, [5]), (112, []), (148, [5]), (154, [1, 2, 4, 5]), (168, [0, 1, 2, 3, 4, 5])])
/-- Rule_join -/
def mm67 : mM := (prog_8_method_16_code, 6, 3, 1, 3, true, [(70, [0, 1, 2]), (81, [0, 1, 2]), (92, [0, 1, 2]), (116, [0, 1, 2])])
/-- Sets_ofWords -/
def mm68 : mM := (prog_9_method_2_code, 7, 4, 0, 3, false, [(9, [2])])
/-- Sets_ofWanting -/
def mm69 : mM := (prog_9_method_3_code, 7, 3, 0, 3, false, [])
/-- Sets_fill -/
def mm70 : mM := (prog_9_method_4_code, 7, 5, 0, 4, false, [(8, []), (32, [])])
/-- Sets_addWall -/
def mm71 : mM := (prog_9_method_5_code, 7, 8, 0, 4, false, [(8, [6, 7]), (56, [7]), (84, [7]), (124, [6, 7])])
/-- Sets_leaveUp -/
def mm72 : mM := (prog_9_method_6_code, 7, 5, 0, 2, false, [(7, [4]), (24, []), (54, [4])])
/-- Sets_giveBack -/
def mm73 : mM := (prog_9_method_7_code, 7, 4, 0, 3, false, [(2, [])])
/-- Sets_worth -/
def mm74 : mM := (prog_9_method_8_code, 7, 2, 1, 2, false, [])
/-- Sets_gain -/
def mm75 : mM := (prog_9_method_9_code, 7, 1, 1, 1, false, [])
/-- Sets_lacking -/
def mm76 : mM := (prog_9_method_10_code, 7, 3, 1, 3, false, [])
/-- Sets_lackingInAll -/
def mm77 : mM := (prog_9_method_11_code, 7, 4, 1, 2, false, [(4, [])])
/-- Sets_lackingLetters -/
def mm78 : mM := (prog_9_method_12_code, 7, 4, 1, 2, false, [(4, []), (27, [2])])
/-- Sets_isAmong -/
def mm79 : mM := (prog_9_method_13_code, 7, 2, 2, 2, false, [(16, [0, 1])])
/-- Sets_fits -/
def mm80 : mM := (prog_9_method_14_code, 7, 2, 2, 2, false, [(20, [0, 1]), (21, [0, 1])])
/-- Sets_mostWalls -/
def mm81 : mM := (prog_9_method_15_code, 7, 4, 1, 1, false, [(4, [3]), (52, [3]), (62, [3])])
/-- Sets_mostWithout -/
def mm82 : mM := (prog_9_method_16_code, 7, 5, 1, 2, false, [(4, [4]), (42, [4])])
/-- Sets_dearestSet -/
def mm83 : mM := (prog_9_method_17_code, 7, 4, 1, 2, false, [(4, []), (45, [])])
/-- Sets_scarcest -/
def mm84 : mM := (prog_9_method_18_code, 7, 4, 1, 1, false, [(21, [3]), (60, [3]), (70, []), (96, [2])])
/-- Sets_raise -/
def mm85 : mM := (prog_9_method_19_code, 7, 3, 0, 2, false, [(2, []), (38, [])])
/-- Sets_eachAlone -/
def mm86 : mM := (prog_9_method_20_code, 7, 3, 2, 2, false, [(2, []), (28, [])])
/-- Sets_fewestShows -/
def mm87 : mM := (prog_9_method_21_code, 7, 6, 1, 3, false, [(9, [4, 5]), (46, [4, 5]), (47, [4, 5]), (58, [5]), (96, [2, 3, 4, 5])])
/-- Sets_fewestWeeks -/
def mm88 : mM := (prog_9_method_22_code, 7, 7, 1, 2, false, [(19, [1]), (64, [1]), (78, [0, 1, 2, 3, 5, 6])])
/-- Sets_leastShow -/
def mm89 : mM := (prog_9_method_23_code, 7, 6, 1, 2, false, [(15, []), (67, []), (81, [0, 2, 3, 4, 5])])
/-- State_copy -/
def mm90 : mM := (prog_10_method_2_code, 8, 2, 0, 2, false, [])
/-- State_save -/
def mm91 : mM := (prog_10_method_3_code, 8, 3, 0, 3, false, [])
/-- State_load -/
def mm92 : mM := (prog_10_method_4_code, 8, 3, 0, 3, false, [])
/-- State_place -/
def mm93 : mM := (prog_10_method_5_code, 8, 1, 4, 1, false, [])
/-- State_wordOf -/
def mm94 : mM := (prog_10_method_6_code, 8, 2, 1, 2, false, [])
/-- State_hasWord -/
def mm95 : mM := (prog_10_method_7_code, 8, 2, 2, 2, false, [(17, [0, 1])])
/-- State_missing -/
def mm96 : mM := (prog_10_method_8_code, 8, 2, 1, 2, false, [])
/-- State_isUp -/
def mm97 : mM := (prog_10_method_9_code, 8, 2, 2, 2, false, [(28, [0, 1]), (29, [0, 1])])
/-- State_waits -/
def mm98 : mM := (prog_10_method_10_code, 8, 2, 2, 2, false, [(17, [0, 1])])
/-- State_waited -/
def mm99 : mM := (prog_10_method_11_code, 8, 2, 1, 2, false, [])
/-- State_shown -/
def mm100 : mM := (prog_10_method_12_code, 8, 2, 1, 2, false, [])
/-- State_inChest -/
def mm101 : mM := (prog_10_method_13_code, 8, 2, 1, 2, false, [])
/-- State_leftInAll -/
def mm102 : mM := (prog_10_method_14_code, 8, 1, 1, 1, false, [])
/-- State_weeksGone -/
def mm103 : mM := (prog_10_method_15_code, 8, 1, 1, 1, false, [])
/-- State_hung -/
def mm104 : mM := (prog_10_method_16_code, 8, 3, 1, 3, false, [])
/-- State_hanging -/
def mm105 : mM := (prog_10_method_17_code, 8, 4, 1, 2, false, [(4, [])])
/-- State_need -/
def mm106 : mM := (prog_10_method_18_code, 8, 3, 1, 3, false, [(25, [0, 1, 2])])
/-- State_lack -/
def mm107 : mM := (prog_10_method_19_code, 8, 3, 1, 3, false, [(32, [0, 1, 2])])
/-- State_worded -/
def mm108 : mM := (prog_10_method_20_code, 8, 3, 1, 1, false, [(4, []), (26, [1])])
/-- State_up -/
def mm109 : mM := (prog_10_method_21_code, 8, 3, 1, 1, false, [(4, []), (26, [1])])
/-- State_waiting -/
def mm110 : mM := (prog_10_method_22_code, 8, 3, 1, 1, false, [(4, []), (26, [1])])
/-- State_worthUp -/
def mm111 : mM := (prog_10_method_23_code, 8, 3, 1, 1, false, [(4, []), (31, [1])])
/-- State_wallsWith -/
def mm112 : mM := (prog_10_method_24_code, 8, 4, 1, 2, false, [(4, []), (27, [2])])
/-- State_hungInAll -/
def mm113 : mM := (prog_10_method_25_code, 8, 4, 1, 2, false, [(4, [])])
/-- State_refill -/
def mm114 : mM := (prog_10_method_26_code, 8, 4, 0, 1, false, [(4, [3])])
/-- State_move -/
def mm115 : mM := (prog_10_method_27_code, 8, 4, 0, 4, false, [])
/-- State_hangWord -/
def mm116 : mM := (prog_10_method_28_code, 8, 3, 1, 3, false, [])
/-- State_takeNeeded -/
def mm117 : mM := (prog_10_method_29_code, 8, 3, 1, 2, false, [(2, [])])
/-- State_bringBack -/
def mm118 : mM := (prog_10_method_30_code, 8, 5, 1, 2, false, [(4, [4])])
/-- State_lending -/
def mm119 : mM := (prog_10_method_31_code, 8, 4, 1, 4, false, [(34, [0, 1, 2, 3]), (63, [0, 1, 2, 3])])
/-- State_lendLetter -/
def mm120 : mM := (prog_10_method_32_code, 8, 4, 1, 4, false, [])
/-- State_canBeHelped -/
def mm121 : mM := (prog_10_method_33_code, 8, 5, 2, 2, false, [(2, [3, 4]), (13, []), (46, [3]), (47, [3])])
/-- State_couldShow -/
def mm122 : mM := (prog_10_method_34_code, 8, 4, 2, 3, false, [(2, [])])
/-- State_spelt -/
def mm123 : mM := (prog_10_method_35_code, 8, 6, 1, 2, false, [(23, [5]), (75, [3]), (97, [2, 5]), (99, [5]), (105, [0, 1, 3, 4, 5])])
/-- State_thing -/
def mm124 : mM := (prog_10_method_36_code, 8, 3, 1, 3, false, [(114, [0, 1, 2]), (169, [0, 1, 2])])
/-- State_passWeek -/
def mm125 : mM := (prog_10_method_37_code, 8, 4, 1, 2, false, [(2, [3]), (38, [3]), (52, [1]), (103, [1])])
/-- State_takeInTurn -/
def mm126 : mM := (prog_10_method_38_code, 8, 6, 1, 2, false, [(10, [5]), (24, []), (52, []), (66, []), (103, [3, 5]), (111, [0, 1, 2, 4, 5])])
/-- State_firstGreatest -/
def mm127 : mM := (prog_10_method_39_code, 8, 4, 1, 2, false, [(4, []), (38, [2]), (40, [])])
/-- Text_put -/
def mm128 : mM := (prog_11_method_2_code, 9, 3, 2, 2, false, [(16, [])])
/-- Text_cut -/
def mm129 : mM := (prog_11_method_3_code, 9, 2, 2, 2, false, [(12, [0, 1])])
/-- Text_size -/
def mm130 : mM := (prog_11_method_4_code, 9, 1, 1, 1, false, [])
/-- Text_open -/
def mm131 : mM := (prog_11_method_5_code, 9, 2, 0, 2, false, [])
/-- Text_close -/
def mm132 : mM := (prog_11_method_6_code, 9, 1, 0, 1, false, [(22, []), (31, [])])
/-- Text_good -/
def mm133 : mM := (prog_11_method_7_code, 9, 1, 2, 1, false, [(13, [0])])
/-- Text_complaint -/
def mm134 : mM := (prog_11_method_8_code, 9, 1, 1, 1, false, [])
/-- Text_ended -/
def mm135 : mM := (prog_11_method_9_code, 9, 1, 2, 1, false, [(16, [0])])
/-- Text_ahead -/
def mm136 : mM := (prog_11_method_10_code, 9, 1, 1, 1, false, [(24, [0])])
/-- Text_step -/
def mm137 : mM := (prog_11_method_11_code, 9, 1, 0, 1, false, [])
/-- Text_fail -/
def mm138 : mM := (prog_11_method_12_code, 9, 1, 2, 1, false, [])
/-- Text_failAtLast -/
def mm139 : mM := (prog_11_method_13_code, 9, 1, 2, 1, false, [])
/-- Text_failAt -/
def mm140 : mM := (prog_11_method_14_code, 9, 2, 2, 2, false, [(13, [0, 1])])
/-- Text_pass -/
def mm141 : mM := (prog_11_method_15_code, 9, 2, 2, 2, false, [])
/-- Text_passIf -/
def mm142 : mM := (prog_11_method_16_code, 9, 3, 2, 2, false, [(13, [1, 2]), (28, [0, 1])])
/-- Text_atDigit -/
def mm143 : mM := (prog_11_method_17_code, 9, 1, 2, 1, false, [(22, [0]), (23, [0])])
/-- Text_atLetter -/
def mm144 : mM := (prog_11_method_18_code, 9, 1, 2, 1, false, [(22, [0]), (23, [0])])
/-- Text_letter -/
def mm145 : mM := (prog_11_method_19_code, 9, 2, 1, 1, false, [])
/-- Text_number -/
def mm146 : mM := (prog_11_method_20_code, 9, 4, 1, 2, false, [(18, []), (53, [0, 1, 3])])
/-- Text_numberNotZero -/
def mm147 : mM := (prog_11_method_21_code, 9, 3, 1, 2, false, [(15, [0, 1])])
/-- Town_hasWord -/
def mm148 : mM := (prog_12_method_2_code, 10, 2, 2, 2, false, [(16, [0, 1]), (17, [0, 1])])
/-- Town_hasWall -/
def mm149 : mM := (prog_12_method_3_code, 10, 2, 2, 2, false, [(16, [0, 1]), (17, [0, 1])])
/-- Town_words -/
def mm150 : mM := (prog_12_method_4_code, 10, 1, 1, 1, false, [])
/-- Town_walls -/
def mm151 : mM := (prog_12_method_5_code, 10, 1, 1, 1, false, [])
/-- Town_stock -/
def mm152 : mM := (prog_12_method_6_code, 10, 2, 1, 2, false, [])
/-- Town_changeStock -/
def mm153 : mM := (prog_12_method_7_code, 10, 3, 0, 3, false, [])
/-- Town_length -/
def mm154 : mM := (prog_12_method_8_code, 10, 2, 1, 2, false, [])
/-- Town_sense -/
def mm155 : mM := (prog_12_method_9_code, 10, 2, 1, 2, false, [])
/-- Town_letterAt -/
def mm156 : mM := (prog_12_method_10_code, 10, 3, 1, 3, false, [])
/-- Town_need -/
def mm157 : mM := (prog_12_method_11_code, 10, 3, 1, 3, false, [])
/-- Town_worth -/
def mm158 : mM := (prog_12_method_12_code, 10, 2, 1, 2, false, [])
/-- Town_term -/
def mm159 : mM := (prog_12_method_13_code, 10, 2, 1, 2, false, [])
/-- Town_changeWorth -/
def mm160 : mM := (prog_12_method_14_code, 10, 4, 1, 3, false, [])
/-- Town_changeTerm -/
def mm161 : mM := (prog_12_method_15_code, 10, 4, 1, 3, false, [])
/-- Town_difference -/
def mm162 : mM := (prog_12_method_16_code, 10, 5, 1, 3, false, [(5, [])])
/-- Town_placesApart -/
def mm163 : mM := (prog_12_method_17_code, 10, 5, 1, 3, false, [(5, []), (39, [3])])
/-- Town_read -/
def mm164 : mM := (prog_12_method_18_code, 10, 5, 1, 2, false, [(51, [3, 4]), (55, []), (90, [3]), (91, [3]), (98, [3, 4])])
/-- Town_readLine -/
def mm165 : mM := (prog_12_method_19_code, 10, 3, 2, 2, false, [(49, [0, 1, 2])])
/-- Town_readStock -/
def mm166 : mM := (prog_12_method_20_code, 10, 4, 2, 3, false, [])
/-- Town_readWord -/
def mm167 : mM := (prog_12_method_21_code, 10, 5, 2, 3, false, [(12, [2]), (46, [2, 4])])
/-- Town_writeWord -/
def mm168 : mM := (prog_12_method_22_code, 10, 5, 0, 3, false, [(22, [2]), (51, [2])])
/-- Town_readWall -/
def mm169 : mM := (prog_12_method_23_code, 10, 4, 2, 2, false, [])
/-- X_sign -/
def mm170 : mM := (prog_1_method_2_code, 11, 2, 1, 2, false, [(22, [0, 1])])
/-- X_end -/
def mm171 : mM := (prog_1_method_3_code, 11, 2, 2, 2, false, [])
/-- X_town -/
def mm172 : mM := (prog_1_method_4_code, 11, 2, 1, 1, false, [(30, [0])])
/-- X_rule -/
def mm173 : mM := (prog_1_method_5_code, 11, 1, 1, 1, false, [])
/-- X_left -/
def mm174 : mM := (prog_1_method_6_code, 11, 2, 1, 2, false, [])
/-- X_word -/
def mm175 : mM := (prog_1_method_7_code, 11, 3, 1, 2, false, [(23, [])])
/-- X_wall -/
def mm176 : mM := (prog_1_method_8_code, 11, 3, 1, 3, false, [(133, [0, 1, 2]), (179, [0, 1, 2])])
/-- X_hangs -/
def mm177 : mM := (prog_1_method_9_code, 11, 3, 1, 3, false, [(30, [0, 1, 2]), (31, [0, 1, 2])])
/-- X_set -/
def mm178 : mM := (prog_1_method_10_code, 11, 4, 1, 4, false, [(38, []), (64, [0, 1, 2, 3])])
/-- X_sheet -/
def mm179 : mM := (prog_1_method_11_code, 11, 10, 1, 5, false, [(15, [0, 1, 2, 3, 4, 5, 6, 7, 8, 9]), (29, [5, 6, 7, 8, 9]), (39, [2, 5, 6, 7, 8, 9]), (47, [2, 3, 8, 9]), (87, [2, 3, 9]), (149, [0, 1, 2, 3, 4, 5, 6, 7, 8, 9])])
/-- X_hang -/
def mm180 : mM := (prog_1_method_12_code, 11, 3, 1, 3, false, [(22, [0, 1, 2])])
/-- X_take -/
def mm181 : mM := (prog_1_method_13_code, 11, 2, 1, 2, false, [])
/-- X_bring -/
def mm182 : mM := (prog_1_method_14_code, 11, 2, 1, 2, false, [])
/-- X_lend -/
def mm183 : mM := (prog_1_method_15_code, 11, 5, 1, 4, false, [])
/-- X_weeks -/
def mm184 : mM := (prog_1_method_16_code, 11, 5, 1, 2, false, [(24, [2, 3, 4]), (31, [])])
/-- X_order -/
def mm185 : mM := (prog_1_method_17_code, 11, 4, 1, 1, false, [(28, []), (56, [2]), (67, [1]), (75, [3]), (91, [0, 2, 3])])
/-- X_soon -/
def mm186 : mM := (prog_1_method_18_code, 11, 3, 1, 2, false, [(40, []), (95, [0, 1, 2])])
/-- X_rules -/
def mm187 : mM := (prog_1_method_19_code, 11, 8, 1, 2, false, [(83, [1, 2, 3, 4, 5]), (120, [1, 2, 3, 4, 5])])
/-- X_undo -/
def mm188 : mM := (prog_1_method_20_code, 11, 1, 1, 1, false, [(25, [0])])
/-- X_judge -/
def mm189 : mM := (prog_1_method_21_code, 11, 6, 1, 3, false, [(9, [0, 1, 2, 3, 4, 5]), (28, [5]), (79, [5]), (85, [1, 2, 4, 5])])
/-- X_helps -/
def mm190 : mM := (prog_1_method_22_code, 11, 5, 1, 2, false, [(71, [4]), (80, [])])
/-- X_together -/
def mm191 : mM := (prog_1_method_23_code, 11, 4, 1, 2, false, [(60, [0, 1, 2, 3])])
/-- X_most -/
def mm192 : mM := (prog_1_method_24_code, 11, 2, 1, 1, false, [])
/-- X_dearest -/
def mm193 : mM := (prog_1_method_25_code, 11, 2, 1, 1, false, [])
/-- X_cast -/
def mm194 : mM := (prog_1_method_26_code, 11, 4, 1, 2, false, [(10, [0, 1, 2, 3]), (53, [1])])
/-- X_rob -/
def mm195 : mM := (prog_1_method_27_code, 11, 2, 1, 1, false, [])
/-- X_shows -/
def mm196 : mM := (prog_1_method_28_code, 11, 2, 1, 1, false, [])
/-- X_nearest -/
def mm197 : mM := (prog_1_method_29_code, 11, 2, 1, 2, false, [])
/-- X_shortest -/
def mm198 : mM := (prog_1_method_30_code, 11, 2, 1, 2, false, [])
/-- X_best -/
def mm199 : mM := (prog_1_method_31_code, 11, 3, 1, 1, false, [(39, [])])
/-- X_same -/
def mm200 : mM := (prog_1_method_32_code, 11, 4, 1, 2, false, [(17, []), (51, [])])
/-- X_spell -/
def mm201 : mM := (prog_1_method_33_code, 11, 2, 1, 1, false, [(49, [0, 1])])
/-- X_unlike -/
def mm202 : mM := (prog_1_method_34_code, 11, 3, 1, 3, false, [(34, [0, 1, 2]), (35, [0, 1, 2])])
/-- X_chain -/
def mm203 : mM := (prog_1_method_35_code, 11, 2, 1, 2, false, [])
/-- X_cover -/
def mm204 : mM := (prog_1_method_36_code, 11, 2, 1, 1, false, [])
/-- X_ladder -/
def mm205 : mM := (prog_1_method_37_code, 11, 4, 1, 3, false, [(22, [0, 1, 2, 3])])
/-- X_streets -/
def mm206 : mM := (prog_1_method_38_code, 11, 3, 1, 2, false, [(11, [0, 1, 2]), (63, [0, 1])])
/-- X_wanting -/
def mm207 : mM := (prog_1_method_39_code, 11, 6, 1, 2, false, [(16, [5]), (59, [3, 5])])
/-- X_scarce -/
def mm208 : mM := (prog_1_method_40_code, 11, 2, 1, 1, false, [])
/-- X_hoards -/
def mm209 : mM := (prog_1_method_41_code, 11, 6, 1, 1, false, [(40, [1, 5]), (88, [1, 5])])
/-- X_counted -/
def mm210 : mM := (prog_1_method_42_code, 11, 4, 1, 4, false, [(28, [0, 1, 2, 3]), (54, [0, 1, 2, 3])])
/-- X_forged -/
def mm211 : mM := (prog_1_method_43_code, 11, 4, 1, 1, false, [(12, [3])])
/-- X_liars -/
def mm212 : mM := (prog_1_method_44_code, 11, 4, 1, 1, false, [(4, [3]), (17, []), (50, [])])
/-- X_forget -/
def mm213 : mM := (prog_1_method_45_code, 11, 2, 1, 1, false, [])
/-- X_keep -/
def mm214 : mM := (prog_1_method_46_code, 11, 2, 2, 2, false, [])
/-- X_again -/
def mm215 : mM := (prog_1_method_47_code, 11, 2, 2, 2, false, [])
/-- X_count -/
def mm216 : mM := (prog_1_method_48_code, 11, 2, 1, 2, false, [])
/-- X_row -/
def mm217 : mM := (prog_1_method_49_code, 11, 2, 1, 2, false, [(15, [0, 1])])
/-- X_isLetter -/
def mm218 : mM := (prog_1_method_50_code, 11, 1, 2, 1, true, [(14, [0]), (15, [0])])
/-- X_has -/
def mm219 : mM := (prog_1_method_51_code, 11, 2, 2, 2, true, [(13, [0, 1])])
/-- X_isSpan -/
def mm220 : mM := (prog_1_method_52_code, 11, 1, 2, 1, true, [(14, [0]), (15, [0])])
/-- X_asKind -/
def mm221 : mM := (prog_1_method_53_code, 11, 2, 1, 2, true, [(18, [0, 1])])
/-- X_follow -/
def mm222 : mM := (prog_1_method_54_code, 11, 4, 1, 2, false, [])
/-- X_worthIfBy -/
def mm223 : mM := (prog_1_method_55_code, 11, 5, 1, 3, false, [(16, [])])
/-- X_lendOnTrial -/
def mm224 : mM := (prog_1_method_56_code, 11, 4, 2, 4, false, [])
/-- X_lendAll -/
def mm225 : mM := (prog_1_method_57_code, 11, 5, 0, 4, false, [(15, []), (63, []), (69, [0, 1, 2, 3, 4])])
/-- X_otherWord -/
def mm226 : mM := (prog_1_method_58_code, 11, 9, 1, 3, false, [(46, [7, 8]), (84, [7, 8]), (123, [8]), (124, [8]), (143, [4, 5, 8]), (151, [7, 8]), (175, [0, 1, 2, 3, 5, 6, 7, 8])])
/-- M_thrown -/
def mm227 : mM := (prog_14_method_2_code, 12, 1, 1, 1, false, [])
/-- M_in -/
def mm228 : mM := (prog_14_method_3_code, 12, 3, 2, 3, true, [(14, [0, 1, 2]), (15, [0, 1, 2])])
/-- M_isIn -/
def mm229 : mM := (prog_14_method_4_code, 12, 2, 2, 2, true, [(14, [0, 1])])
/-- M_lost -/
def mm230 : mM := (prog_14_method_5_code, 12, 1, 1, 1, false, [])
/-- M_tell -/
def mm231 : mM := (prog_14_method_6_code, 12, 2, 0, 2, false, [])
/-- M_isWall -/
def mm232 : mM := (prog_14_method_7_code, 12, 2, 2, 2, false, [])
/-- M_isWord -/
def mm233 : mM := (prog_14_method_8_code, 12, 2, 2, 2, false, [])
/-- M_isLetter -/
def mm234 : mM := (prog_14_method_9_code, 12, 1, 2, 1, true, [])
/-- M_sign -/
def mm235 : mM := (prog_14_method_10_code, 12, 3, 1, 2, false, [(20, [])])
/-- M_end -/
def mm236 : mM := (prog_14_method_11_code, 12, 2, 2, 2, false, [])
/-- M_begin -/
def mm237 : mM := (prog_14_method_12_code, 12, 4, 0, 4, false, [])
/-- M_here -/
def mm238 : mM := (prog_14_method_13_code, 12, 1, 1, 1, false, [(34, [0]), (35, [0])])
/-- M_fine -/
def mm239 : mM := (prog_14_method_14_code, 12, 1, 2, 1, false, [(13, [0])])
/-- M_fault -/
def mm240 : mM := (prog_14_method_15_code, 12, 2, 0, 2, false, [(12, [0, 1])])
/-- M_passes -/
def mm241 : mM := (prog_14_method_16_code, 12, 2, 2, 2, false, [(15, [0, 1])])
/-- M_need -/
def mm242 : mM := (prog_14_method_17_code, 12, 2, 0, 2, false, [(16, [0, 1])])
/-- M_number -/
def mm243 : mM := (prog_14_method_18_code, 12, 6, 1, 4, false, [(18, []), (71, [1]), (111, [1, 2, 3, 4]), (124, [0, 1, 2, 3, 4, 5])])
/-- M_stockOf -/
def mm244 : mM := (prog_14_method_19_code, 12, 4, 1, 2, false, [(9, [])])
/-- M_town -/
def mm245 : mM := (prog_14_method_20_code, 12, 7, 1, 1, false, [(35, [2, 3, 4, 5, 6]), (69, [5, 6]), (151, [4, 5, 6]), (185, [1, 4, 5, 6]), (198, [4, 5, 6]), (212, [4, 5, 6]), (231, [4, 5, 6]), (251, [4, 6]), (260, [4]), (290, [4]), (348, [4, 6]), (381, [4]), (417, [4, 6])])
/-- M_readLetters -/
def mm246 : mM := (prog_14_method_21_code, 12, 5, 2, 2, false, [(2, [3, 4]), (69, [3, 4]), (149, [1, 2]), (162, [3, 4]), (185, [3, 4]), (212, [])])
/-- M_held -/
def mm247 : mM := (prog_14_method_22_code, 12, 3, 1, 2, false, [(29, [0, 1, 2]), (53, [0, 1, 2]), (77, [0, 1, 2])])
/-- M_sum -/
def mm248 : mM := (prog_14_method_23_code, 12, 5, 1, 2, false, [(6, [3, 4]), (31, [3, 4]), (45, [3, 4]), (78, [2, 3, 4]), (82, [0, 1, 3, 4])])
/-- M_product -/
def mm249 : mM := (prog_14_method_24_code, 12, 5, 1, 2, false, [(6, [3, 4]), (31, [3, 4]), (45, [3, 4]), (87, [2, 3, 4]), (91, [0, 1, 3, 4])])
/-- M_thing -/
def mm250 : mM := (prog_14_method_25_code, 12, 4, 1, 2, false, [(67, [1, 3]), (152, [1, 3]), (183, [0, 1, 2, 3])])
/-- M_letterOf -/
def mm251 : mM := (prog_14_method_26_code, 12, 3, 1, 3, false, [])
/-- M_rule -/
def mm252 : mM := (prog_14_method_27_code, 12, 3, 1, 1, false, [(57, [2]), (71, [2]), (73, [])])
/-- M_ruleFor -/
def mm253 : mM := (prog_14_method_28_code, 12, 2, 1, 2, false, [])
/-- M_allLeft -/
def mm254 : mM := (prog_14_method_29_code, 12, 6, 1, 1, false, [(13, [0, 5])])
/-- M_hangsOn -/
def mm255 : mM := (prog_14_method_30_code, 12, 4, 1, 2, false, [(4, [])])
/-- M_lacking -/
def mm256 : mM := (prog_14_method_31_code, 12, 2, 1, 2, false, [(31, [0, 1])])
/-- M_isUp -/
def mm257 : mM := (prog_14_method_32_code, 12, 2, 2, 2, false, [(22, [0, 1]), (23, [0, 1])])
/-- M_isWaiting -/
def mm258 : mM := (prog_14_method_33_code, 12, 2, 2, 2, false, [(22, [0, 1]), (23, [0, 1])])
/-- M_ups -/
def mm259 : mM := (prog_14_method_34_code, 12, 3, 1, 1, false, [(4, []), (28, [1])])
/-- M_waiters -/
def mm260 : mM := (prog_14_method_35_code, 12, 3, 1, 1, false, [(4, []), (28, [1])])
/-- M_left -/
def mm261 : mM := (prog_14_method_36_code, 12, 4, 1, 2, false, [(18, []), (48, [2])])
/-- M_word -/
def mm262 : mM := (prog_14_method_37_code, 12, 3, 1, 2, false, [(22, [])])
/-- M_wall -/
def mm263 : mM := (prog_14_method_38_code, 12, 3, 1, 3, false, [(23, [1, 2]), (122, [0, 1, 2]), (156, [0, 1, 2])])
/-- M_hangs -/
def mm264 : mM := (prog_14_method_39_code, 12, 3, 1, 3, false, [(34, [0, 1, 2]), (35, [0, 1, 2])])
/-- M_set -/
def mm265 : mM := (prog_14_method_40_code, 12, 5, 1, 4, false, [(35, [4]), (41, [0, 1, 2, 3, 4]), (62, [4]), (85, [0, 1, 2, 3])])
/-- M_sheet -/
def mm266 : mM := (prog_14_method_41_code, 12, 9, 1, 5, false, [(20, [0, 1, 2, 3, 4, 5, 6, 7, 8]), (34, [5, 6, 7, 8]), (40, [3, 7, 8]), (86, [3, 8]), (105, [3, 7, 8]), (124, [3, 7, 8]), (167, [0, 1, 2, 3, 4, 5, 6, 7, 8])])
/-- M_lay -/
def mm267 : mM := (prog_14_method_42_code, 12, 5, 0, 3, false, [(5, [2]), (60, [2]), (89, [2])])
/-- M_bringBack -/
def mm268 : mM := (prog_14_method_43_code, 12, 5, 0, 3, false, [(5, [2]), (60, [2]), (89, [2])])
/-- M_remember -/
def mm269 : mM := (prog_14_method_44_code, 12, 2, 0, 1, false, [(11, []), (49, [1])])
/-- M_bringAll -/
def mm270 : mM := (prog_14_method_45_code, 12, 4, 1, 2, false, [(8, [])])
/-- M_noWord -/
def mm271 : mM := (prog_14_method_46_code, 12, 2, 0, 2, false, [])
/-- M_takeAll -/
def mm272 : mM := (prog_14_method_47_code, 12, 4, 0, 2, false, [(2, [3])])
/-- M_hang -/
def mm273 : mM := (prog_14_method_48_code, 12, 3, 1, 3, false, [(21, [0, 1, 2])])
/-- M_take -/
def mm274 : mM := (prog_14_method_49_code, 12, 2, 1, 2, false, [])
/-- M_bring -/
def mm275 : mM := (prog_14_method_50_code, 12, 3, 1, 2, false, [])
/-- M_refusal -/
def mm276 : mM := (prog_14_method_51_code, 12, 4, 1, 4, false, [(28, [0, 1, 2, 3]), (62, [0, 1, 2, 3])])
/-- M_lacks -/
def mm277 : mM := (prog_14_method_52_code, 12, 3, 1, 3, false, [(42, [0, 1, 2])])
/-- M_lends -/
def mm278 : mM := (prog_14_method_53_code, 12, 4, 0, 4, false, [])
/-- M_lend -/
def mm279 : mM := (prog_14_method_54_code, 12, 5, 1, 4, false, [])
/-- M_goWeek -/
def mm280 : mM := (prog_14_method_55_code, 12, 7, 1, 1, false, [(2, [2, 3, 4, 5, 6]), (47, [2, 3, 4, 5, 6]), (59, [4, 5, 6]), (72, [6]), (125, [3, 4]), (132, [6]), (171, [2, 4, 5, 6]), (179, [1, 3, 5, 6]), (210, [1, 3, 5, 6]), (234, [1, 3, 5, 6])])
/-- M_worthOf -/
def mm281 : mM := (prog_14_method_56_code, 12, 4, 1, 2, false, [(4, []), (31, [2])])
/-- M_weeks -/
def mm282 : mM := (prog_14_method_57_code, 12, 5, 1, 2, false, [(25, [2, 3, 4]), (32, [])])
/-- M_order -/
def mm283 : mM := (prog_14_method_58_code, 12, 4, 1, 1, false, [(38, [2, 3]), (39, [3]), (70, [2, 3]), (89, [2, 3]), (105, [2]), (126, [2]), (142, [0, 1, 2])])
/-- M_readStep -/
def mm284 : mM := (prog_14_method_59_code, 12, 3, 0, 2, false, [(43, []), (92, []), (121, []), (178, [2]), (203, [0, 1, 2])])
/-- M_goStep -/
def mm285 : mM := (prog_14_method_60_code, 12, 4, 2, 2, false, [(82, [0, 1, 2, 3]), (96, [0, 1, 2, 3]), (110, [0, 1, 2, 3]), (133, [0, 1, 2, 3]), (147, [0, 1, 2, 3])])
/-- M_soon -/
def mm286 : mM := (prog_14_method_61_code, 12, 4, 1, 2, false, [(29, []), (57, []), (63, [1, 3])])
/-- M_rules -/
def mm287 : mM := (prog_14_method_62_code, 12, 7, 1, 2, false, [(38, [5, 6]), (56, []), (115, [2, 3, 6]), (121, [5, 6])])
/-- M_undo -/
def mm288 : mM := (prog_14_method_63_code, 12, 1, 1, 1, false, [])
/-- M_judge -/
def mm289 : mM := (prog_14_method_64_code, 12, 6, 1, 3, false, [(31, [5]), (109, [5]), (115, [1, 2, 4, 5])])
/-- M_helps -/
def mm290 : mM := (prog_14_method_65_code, 12, 7, 1, 2, false, [(30, [4, 5, 6]), (42, [6]), (83, [4, 6]), (84, [4, 6]), (140, [4, 5, 6]), (168, [6]), (180, []), (242, []), (251, [6])])
/-- M_needOf -/
def mm291 : mM := (prog_14_method_66_code, 12, 5, 1, 3, false, [(5, []), (45, [3])])
/-- M_wordy -/
def mm292 : mM := (prog_14_method_67_code, 12, 3, 1, 1, false, [(4, []), (30, [1])])
/-- M_missing -/
def mm293 : mM := (prog_14_method_68_code, 12, 4, 1, 2, false, [(4, [])])
/-- M_together -/
def mm294 : mM := (prog_14_method_69_code, 12, 4, 1, 2, false, [(32, [0, 1, 2, 3]), (38, []), (66, [2]), (93, [0, 1, 2, 3])])
/-- M_most -/
def mm295 : mM := (prog_14_method_70_code, 12, 4, 1, 1, false, [(9, [3]), (72, [1, 3]), (74, [3])])
/-- M_findDearest -/
def mm296 : mM := (prog_14_method_71_code, 12, 4, 1, 2, false, [(4, []), (49, [])])
/-- M_dearest -/
def mm297 : mM := (prog_14_method_72_code, 12, 2, 1, 1, false, [])
/-- M_cast -/
def mm298 : mM := (prog_14_method_73_code, 12, 4, 1, 2, false, [(35, [1])])
/-- M_rob -/
def mm299 : mM := (prog_14_method_74_code, 12, 6, 1, 1, false, [(14, [4, 5]), (59, []), (100, [4]), (108, [5]), (115, [4, 5])])
/-- M_shows -/
def mm300 : mM := (prog_14_method_75_code, 12, 5, 1, 1, false, [(12, [3, 4]), (41, [3, 4]), (56, [3, 4]), (89, []), (138, []), (149, [3, 4]), (162, [3, 4]), (174, []), (221, [])])
/-- M_unlikeOf -/
def mm301 : mM := (prog_14_method_76_code, 12, 5, 1, 3, false, [(5, [])])
/-- M_couldHave -/
def mm302 : mM := (prog_14_method_77_code, 12, 4, 2, 3, false, [(2, [])])
/-- M_otherwise -/
def mm303 : mM := (prog_14_method_78_code, 12, 7, 1, 3, false, [(31, [6]), (100, [6]), (117, [3, 4]), (124, [6])])
/-- M_nearest -/
def mm304 : mM := (prog_14_method_79_code, 12, 2, 1, 2, false, [])
/-- M_shortest -/
def mm305 : mM := (prog_14_method_80_code, 12, 2, 1, 2, false, [])
/-- M_best -/
def mm306 : mM := (prog_14_method_81_code, 12, 5, 1, 1, false, [(9, [3, 4]), (35, []), (71, [3]), (89, [3, 4]), (107, [1, 3, 4]), (148, [1, 3, 4])])
/-- M_tryWords -/
def mm307 : mM := (prog_14_method_82_code, 12, 6, 0, 3, false, [(24, [1, 2, 4, 5]), (68, [4, 5]), (115, []), (153, [4]), (154, [4]), (173, [4]), (233, [4]), (268, [4, 5])])
/-- M_same -/
def mm308 : mM := (prog_14_method_83_code, 12, 4, 1, 2, false, [(19, []), (48, [2]), (49, [2])])
/-- M_spell -/
def mm309 : mM := (prog_14_method_84_code, 12, 3, 1, 1, false, [(17, []), (43, [0, 1]), (55, []), (81, [])])
/-- M_unlike -/
def mm310 : mM := (prog_14_method_85_code, 12, 3, 1, 3, false, [(30, [0, 1, 2]), (31, [0, 1, 2])])
/-- M_areSteps -/
def mm311 : mM := (prog_14_method_86_code, 12, 5, 2, 3, false, [(22, []), (66, [3]), (84, [0, 1, 2, 3, 4])])
/-- M_chain -/
def mm312 : mM := (prog_14_method_87_code, 12, 7, 1, 2, false, [(24, [3, 4, 5, 6]), (30, [4, 5, 6]), (55, [6]), (109, [6]), (128, [4, 5, 6]), (177, [1, 6]), (185, [1]), (228, [1])])
/-- M_lettersIn -/
def mm313 : mM := (prog_14_method_88_code, 12, 5, 1, 2, false, [(4, [4]), (15, []), (53, [2]), (54, [2])])
/-- M_lengthOf -/
def mm314 : mM := (prog_14_method_89_code, 12, 4, 1, 2, false, [(4, []), (31, [2])])
/-- M_cover -/
def mm315 : mM := (prog_14_method_90_code, 12, 6, 1, 1, false, [(29, [4, 5]), (91, [4, 5]), (95, [4, 5]), (96, [4, 5]), (114, [4, 5])])
/-- M_ladder -/
def mm316 : mM := (prog_14_method_91_code, 12, 6, 1, 3, false, [(21, [0, 1, 2, 3, 4, 5]), (25, [4, 5]), (50, [4, 5]), (59, [2, 4, 5]), (70, [2, 5]), (82, [2]), (133, [2]), (139, [2, 5]), (183, [2, 5]), (191, [2]), (213, [2])])
/-- M_streets -/
def mm317 : mM := (prog_14_method_92_code, 12, 9, 1, 2, false, [(24, [5, 6, 7, 8]), (53, [7, 8]), (71, [5]), (109, [5, 7]), (135, [5, 7, 8]), (143, [6, 7, 8]), (173, [3, 5, 6, 7, 8]), (176, [5, 6, 7, 8]), (205, [0, 1, 3, 4, 5, 6, 7, 8])])
/-- M_wanting -/
def mm318 : mM := (prog_14_method_93_code, 12, 5, 1, 2, false, [(29, []), (77, [3]), (78, [3])])
/-- M_scarce -/
def mm319 : mM := (prog_14_method_94_code, 12, 6, 1, 1, false, [(22, [5]), (77, [5])])
/-- M_freed -/
def mm320 : mM := (prog_14_method_95_code, 12, 9, 1, 2, false, [(16, [5, 6, 7, 8]), (49, [7, 8]), (67, [5]), (100, [5, 7]), (139, [5, 7, 8]), (147, [6, 7, 8]), (158, [5, 6, 7, 8])])
/-- M_hoards -/
def mm321 : mM := (prog_14_method_96_code, 12, 5, 1, 1, false, [(21, [4]), (50, [4])])
/-- M_counted -/
def mm322 : mM := (prog_14_method_97_code, 12, 4, 1, 4, false, [(39, [0, 1, 2, 3])])
/-- M_latest -/
def mm323 : mM := (prog_14_method_98_code, 12, 5, 1, 3, false, [(5, []), (54, [])])
/-- M_forged -/
def mm324 : mM := (prog_14_method_99_code, 12, 5, 1, 1, false, [(14, [3, 4]), (25, [])])
/-- M_liars -/
def mm325 : mM := (prog_14_method_100_code, 12, 4, 1, 1, false, [(9, [3]), (19, []), (53, [1])])
/-- M_forget -/
def mm326 : mM := (prog_14_method_101_code, 12, 2, 1, 1, false, [])
/-- M_keep -/
def mm327 : mM := (prog_14_method_102_code, 12, 2, 2, 2, false, [])
/-- M_again -/
def mm328 : mM := (prog_14_method_103_code, 12, 2, 2, 2, false, [(36, [0, 1])])
/-- M_count -/
def mm329 : mM := (prog_14_method_104_code, 12, 2, 1, 2, false, [])
/-- M_row -/
def mm330 : mM := (prog_14_method_105_code, 12, 2, 1, 2, false, [(32, [0, 1])])
/-- Integer_bitCount -/
def mm331 : mM := (prog_17_method_49_code, 13, 1, 1, 1, true, [])
/-- Arrays_fill -/
def mm332 : mM := (prog_23_method_103_code, 15, 4, 0, 2, true, [(5, [])])
def mLs : List (mM × MethodName × Option FieldType) := [
  (mm0, ⟨"ChestOfLetters$Countings", "size", "()I"⟩, some .int),
  (mm1, ⟨"ChestOfLetters$Countings", "clear", "()V"⟩, none),
  (mm2, ⟨"ChestOfLetters$Countings", "note", "(III)Z"⟩, some .boolean),
  (mm3, ⟨"ChestOfLetters$Countings", "latest", "(II)I"⟩, some .int),
  (mm4, ⟨"ChestOfLetters$Countings", "sum", "(I)I"⟩, some .int),
  (mm5, ⟨"ChestOfLetters$Kin", "link", "(LChestOfLetters$Town;)V"⟩, none),
  (mm6, ⟨"ChestOfLetters$Kin", "besideAny", "(I)I"⟩, some .int),
  (mm7, ⟨"ChestOfLetters$Kin", "distance", "(II)I"⟩, some .int),
  (mm8, ⟨"ChestOfLetters$Kin", "between", "(IILChestOfLetters$Row;)V"⟩, none),
  (mm9, ⟨"ChestOfLetters$Kin", "least", "(I)I"⟩, some .int),
  (mm10, ⟨"ChestOfLetters$Kin", "longestRow", "(ILChestOfLetters$Row;)I"⟩, some .int),
  (mm11, ⟨"ChestOfLetters$Kin", "groupOf", "(I)I"⟩, some .int),
  (mm12, ⟨"ChestOfLetters$Kin", "findStarts", "(I)V"⟩, none),
  (mm13, ⟨"ChestOfLetters$Kin", "startsOf", "(I)I"⟩, some .int),
  (mm14, ⟨"ChestOfLetters$Kin", "longestFrom", "(II)I"⟩, some .int),
  (mm15, ⟨"ChestOfLetters$Kin", "leastNext", "(III)I"⟩, some .int),
  (mm16, ⟨"ChestOfLetters$Kin", "leastCover", "(LChestOfLetters$Town;)I"⟩, some .int),
  (mm17, ⟨"ChestOfLetters$Kin", "lettersOf", "(LChestOfLetters$Town;I)I"⟩, some .int),
  (mm18, ⟨"ChestOfLetters$Kin", "lettersIn", "(I)I"⟩, some .int),
  (mm19, ⟨"ChestOfLetters$Kin", "lengthOf", "(LChestOfLetters$Town;I)I"⟩, some .int),
  (mm20, ⟨"ChestOfLetters$Order", "size", "()I"⟩, some .int),
  (mm21, ⟨"ChestOfLetters$Order", "kind", "(I)I"⟩, some .int),
  (mm22, ⟨"ChestOfLetters$Order", "first", "(I)I"⟩, some .int),
  (mm23, ⟨"ChestOfLetters$Order", "second", "(I)I"⟩, some .int),
  (mm24, ⟨"ChestOfLetters$Order", "letter", "(I)I"⟩, some .int),
  (mm25, ⟨"ChestOfLetters$Order", "read", "(LChestOfLetters$Text;)Z"⟩, some .boolean),
  (mm26, ⟨"ChestOfLetters$Order", "readStep", "(LChestOfLetters$Text;)Z"⟩, some .boolean),
  (mm27, ⟨"ChestOfLetters$Order", "readSecond", "(LChestOfLetters$Text;I)I"⟩, some .int),
  (mm28, ⟨"ChestOfLetters$Order", "isKind", "(I)Z"⟩, some .boolean),
  (mm29, ⟨"ChestOfLetters$Past", "size", "()I"⟩, some .int),
  (mm30, ⟨"ChestOfLetters$Past", "push", "(LChestOfLetters$State;)V"⟩, none),
  (mm31, ⟨"ChestOfLetters$Past", "pop", "(LChestOfLetters$State;)Z"⟩, some .boolean),
  (mm32, ⟨"ChestOfLetters$Past", "forgetAll", "()V"⟩, none),
  (mm33, ⟨"ChestOfLetters$Past", "store", "(ILChestOfLetters$State;)Z"⟩, some .boolean),
  (mm34, ⟨"ChestOfLetters$Past", "restore", "(ILChestOfLetters$State;)Z"⟩, some .boolean),
  (mm35, ⟨"ChestOfLetters$Renaming", "isSmall", "(LChestOfLetters$State;)Z"⟩, some .boolean),
  (mm36, ⟨"ChestOfLetters$Renaming", "likeSense", "(LChestOfLetters$Town;I)I"⟩, some .int),
  (mm37, ⟨"ChestOfLetters$Renaming", "dearestWords", "(LChestOfLetters$State;)I"⟩, some .int),
  (mm38, ⟨"ChestOfLetters$Renaming", "wordFor", "(I)I"⟩, some .int),
  (mm39, ⟨"ChestOfLetters$Renaming", "decide", "(LChestOfLetters$State;II)V"⟩, none),
  (mm40, ⟨"ChestOfLetters$Renaming", "decideBehind", "(LChestOfLetters$State;II)V"⟩, none),
  (mm41, ⟨"ChestOfLetters$Renaming", "draw", "(LChestOfLetters$Town;I)Z"⟩, some .boolean),
  (mm42, ⟨"ChestOfLetters$Renaming", "putBack", "(LChestOfLetters$Town;I)V"⟩, none),
  (mm43, ⟨"ChestOfLetters$Renaming", "countStreets", "(LChestOfLetters$State;I)I"⟩, some .int),
  (mm44, ⟨"ChestOfLetters$Renaming", "fewest", "()I"⟩, some .int),
  (mm45, ⟨"ChestOfLetters$Renaming", "fewestLetters", "()I"⟩, some .int),
  (mm46, ⟨"ChestOfLetters$Renaming", "choose", "(LChestOfLetters$Town;IIII)V"⟩, none),
  (mm47, ⟨"ChestOfLetters$Renaming", "chooseBehind", "(LChestOfLetters$Town;IIII)V"⟩, none),
  (mm48, ⟨"ChestOfLetters$Renaming", "countWay", "(II)V"⟩, none),
  (mm49, ⟨"ChestOfLetters$Row", "clear", "()LChestOfLetters$Row;"⟩, some (.object "ChestOfLetters$Row")),
  (mm50, ⟨"ChestOfLetters$Row", "add", "(I)LChestOfLetters$Row;"⟩, some (.object "ChestOfLetters$Row")),
  (mm51, ⟨"ChestOfLetters$Row", "size", "()I"⟩, some .int),
  (mm52, ⟨"ChestOfLetters$Row", "at", "(I)I"⟩, some .int),
  (mm53, ⟨"ChestOfLetters$Rule", "be", "(IZ)V"⟩, none),
  (mm54, ⟨"ChestOfLetters$Rule", "copy", "(LChestOfLetters$Rule;)V"⟩, none),
  (mm55, ⟨"ChestOfLetters$Rule", "readsLeft", "()Z"⟩, some .boolean),
  (mm56, ⟨"ChestOfLetters$Rule", "read", "(LChestOfLetters$Text;)Z"⟩, some .boolean),
  (mm57, ⟨"ChestOfLetters$Rule", "clear", "()V"⟩, none),
  (mm58, ⟨"ChestOfLetters$Rule", "emit", "(I)V"⟩, none),
  (mm59, ⟨"ChestOfLetters$Rule", "emitSign", "(I)V"⟩, none),
  (mm60, ⟨"ChestOfLetters$Rule", "readExpression", "(LChestOfLetters$Text;I)V"⟩, none),
  (mm61, ⟨"ChestOfLetters$Rule", "readSum", "(LChestOfLetters$Text;I)V"⟩, none),
  (mm62, ⟨"ChestOfLetters$Rule", "readProduct", "(LChestOfLetters$Text;I)V"⟩, none),
  (mm63, ⟨"ChestOfLetters$Rule", "readNegated", "(LChestOfLetters$Text;I)V"⟩, none),
  (mm64, ⟨"ChestOfLetters$Rule", "readThing", "(LChestOfLetters$Text;I)V"⟩, none),
  (mm65, ⟨"ChestOfLetters$Rule", "isThing", "(I)Z"⟩, some .boolean),
  (mm66, ⟨"ChestOfLetters$Rule", "of", "(LChestOfLetters$State;I)I"⟩, some .int),
  (mm67, ⟨"ChestOfLetters$Rule", "join", "(III)I"⟩, some .int),
  (mm68, ⟨"ChestOfLetters$Sets", "ofWords", "(LChestOfLetters$State;I)V"⟩, none),
  (mm69, ⟨"ChestOfLetters$Sets", "ofWanting", "(LChestOfLetters$State;I)V"⟩, none),
  (mm70, ⟨"ChestOfLetters$Sets", "fill", "(LChestOfLetters$State;IZ)V"⟩, none),
  (mm71, ⟨"ChestOfLetters$Sets", "addWall", "(LChestOfLetters$State;IZ)V"⟩, none),
  (mm72, ⟨"ChestOfLetters$Sets", "leaveUp", "(LChestOfLetters$State;)V"⟩, none),
  (mm73, ⟨"ChestOfLetters$Sets", "giveBack", "(LChestOfLetters$State;I)V"⟩, none),
  (mm74, ⟨"ChestOfLetters$Sets", "worth", "(I)I"⟩, some .int),
  (mm75, ⟨"ChestOfLetters$Sets", "gain", "()I"⟩, some .int),
  (mm76, ⟨"ChestOfLetters$Sets", "lacking", "(II)I"⟩, some .int),
  (mm77, ⟨"ChestOfLetters$Sets", "lackingInAll", "(I)I"⟩, some .int),
  (mm78, ⟨"ChestOfLetters$Sets", "lackingLetters", "(I)I"⟩, some .int),
  (mm79, ⟨"ChestOfLetters$Sets", "isAmong", "(I)Z"⟩, some .boolean),
  (mm80, ⟨"ChestOfLetters$Sets", "fits", "(I)Z"⟩, some .boolean),
  (mm81, ⟨"ChestOfLetters$Sets", "mostWalls", "()I"⟩, some .int),
  (mm82, ⟨"ChestOfLetters$Sets", "mostWithout", "(I)I"⟩, some .int),
  (mm83, ⟨"ChestOfLetters$Sets", "dearestSet", "(I)I"⟩, some .int),
  (mm84, ⟨"ChestOfLetters$Sets", "scarcest", "()I"⟩, some .int),
  (mm85, ⟨"ChestOfLetters$Sets", "raise", "(I)V"⟩, none),
  (mm86, ⟨"ChestOfLetters$Sets", "eachAlone", "(I)Z"⟩, some .boolean),
  (mm87, ⟨"ChestOfLetters$Sets", "fewestShows", "(ILChestOfLetters$Row;)I"⟩, some .int),
  (mm88, ⟨"ChestOfLetters$Sets", "fewestWeeks", "(I)I"⟩, some .int),
  (mm89, ⟨"ChestOfLetters$Sets", "leastShow", "(I)I"⟩, some .int),
  (mm90, ⟨"ChestOfLetters$State", "copy", "(LChestOfLetters$State;)V"⟩, none),
  (mm91, ⟨"ChestOfLetters$State", "save", "([II)V"⟩, none),
  (mm92, ⟨"ChestOfLetters$State", "load", "([II)V"⟩, none),
  (mm93, ⟨"ChestOfLetters$State", "place", "()LChestOfLetters$Town;"⟩, some (.object "ChestOfLetters$Town")),
  (mm94, ⟨"ChestOfLetters$State", "wordOf", "(I)I"⟩, some .int),
  (mm95, ⟨"ChestOfLetters$State", "hasWord", "(I)Z"⟩, some .boolean),
  (mm96, ⟨"ChestOfLetters$State", "missing", "(I)I"⟩, some .int),
  (mm97, ⟨"ChestOfLetters$State", "isUp", "(I)Z"⟩, some .boolean),
  (mm98, ⟨"ChestOfLetters$State", "waits", "(I)Z"⟩, some .boolean),
  (mm99, ⟨"ChestOfLetters$State", "waited", "(I)I"⟩, some .int),
  (mm100, ⟨"ChestOfLetters$State", "shown", "(I)I"⟩, some .int),
  (mm101, ⟨"ChestOfLetters$State", "inChest", "(I)I"⟩, some .int),
  (mm102, ⟨"ChestOfLetters$State", "leftInAll", "()I"⟩, some .int),
  (mm103, ⟨"ChestOfLetters$State", "weeksGone", "()I"⟩, some .int),
  (mm104, ⟨"ChestOfLetters$State", "hung", "(II)I"⟩, some .int),
  (mm105, ⟨"ChestOfLetters$State", "hanging", "(I)I"⟩, some .int),
  (mm106, ⟨"ChestOfLetters$State", "need", "(II)I"⟩, some .int),
  (mm107, ⟨"ChestOfLetters$State", "lack", "(II)I"⟩, some .int),
  (mm108, ⟨"ChestOfLetters$State", "worded", "()I"⟩, some .int),
  (mm109, ⟨"ChestOfLetters$State", "up", "()I"⟩, some .int),
  (mm110, ⟨"ChestOfLetters$State", "waiting", "()I"⟩, some .int),
  (mm111, ⟨"ChestOfLetters$State", "worthUp", "()I"⟩, some .int),
  (mm112, ⟨"ChestOfLetters$State", "wallsWith", "(I)I"⟩, some .int),
  (mm113, ⟨"ChestOfLetters$State", "hungInAll", "(I)I"⟩, some .int),
  (mm114, ⟨"ChestOfLetters$State", "refill", "()V"⟩, none),
  (mm115, ⟨"ChestOfLetters$State", "move", "(III)V"⟩, none),
  (mm116, ⟨"ChestOfLetters$State", "hangWord", "(II)I"⟩, some .int),
  (mm117, ⟨"ChestOfLetters$State", "takeNeeded", "(I)I"⟩, some .int),
  (mm118, ⟨"ChestOfLetters$State", "bringBack", "(I)I"⟩, some .int),
  (mm119, ⟨"ChestOfLetters$State", "lending", "(III)I"⟩, some .int),
  (mm120, ⟨"ChestOfLetters$State", "lendLetter", "(III)I"⟩, some .int),
  (mm121, ⟨"ChestOfLetters$State", "canBeHelped", "(I)Z"⟩, some .boolean),
  (mm122, ⟨"ChestOfLetters$State", "couldShow", "(II)Z"⟩, some .boolean),
  (mm123, ⟨"ChestOfLetters$State", "spelt", "(LChestOfLetters$Text;)I"⟩, some .int),
  (mm124, ⟨"ChestOfLetters$State", "thing", "(II)I"⟩, some .int),
  (mm125, ⟨"ChestOfLetters$State", "passWeek", "(LChestOfLetters$Rule;)I"⟩, some .int),
  (mm126, ⟨"ChestOfLetters$State", "takeInTurn", "(LChestOfLetters$Rule;)I"⟩, some .int),
  (mm127, ⟨"ChestOfLetters$State", "firstGreatest", "(I)I"⟩, some .int),
  (mm128, ⟨"ChestOfLetters$Text", "put", "(I)Z"⟩, some .boolean),
  (mm129, ⟨"ChestOfLetters$Text", "cut", "(I)Z"⟩, some .boolean),
  (mm130, ⟨"ChestOfLetters$Text", "size", "()I"⟩, some .int),
  (mm131, ⟨"ChestOfLetters$Text", "open", "(I)V"⟩, none),
  (mm132, ⟨"ChestOfLetters$Text", "close", "()V"⟩, none),
  (mm133, ⟨"ChestOfLetters$Text", "good", "()Z"⟩, some .boolean),
  (mm134, ⟨"ChestOfLetters$Text", "complaint", "()I"⟩, some .int),
  (mm135, ⟨"ChestOfLetters$Text", "ended", "()Z"⟩, some .boolean),
  (mm136, ⟨"ChestOfLetters$Text", "ahead", "()I"⟩, some .int),
  (mm137, ⟨"ChestOfLetters$Text", "step", "()V"⟩, none),
  (mm138, ⟨"ChestOfLetters$Text", "fail", "()Z"⟩, some .boolean),
  (mm139, ⟨"ChestOfLetters$Text", "failAtLast", "()Z"⟩, some .boolean),
  (mm140, ⟨"ChestOfLetters$Text", "failAt", "(I)Z"⟩, some .boolean),
  (mm141, ⟨"ChestOfLetters$Text", "pass", "(I)Z"⟩, some .boolean),
  (mm142, ⟨"ChestOfLetters$Text", "passIf", "(I)Z"⟩, some .boolean),
  (mm143, ⟨"ChestOfLetters$Text", "atDigit", "()Z"⟩, some .boolean),
  (mm144, ⟨"ChestOfLetters$Text", "atLetter", "()Z"⟩, some .boolean),
  (mm145, ⟨"ChestOfLetters$Text", "letter", "()I"⟩, some .int),
  (mm146, ⟨"ChestOfLetters$Text", "number", "(I)I"⟩, some .int),
  (mm147, ⟨"ChestOfLetters$Text", "numberNotZero", "(I)I"⟩, some .int),
  (mm148, ⟨"ChestOfLetters$Town", "hasWord", "(I)Z"⟩, some .boolean),
  (mm149, ⟨"ChestOfLetters$Town", "hasWall", "(I)Z"⟩, some .boolean),
  (mm150, ⟨"ChestOfLetters$Town", "words", "()I"⟩, some .int),
  (mm151, ⟨"ChestOfLetters$Town", "walls", "()I"⟩, some .int),
  (mm152, ⟨"ChestOfLetters$Town", "stock", "(I)I"⟩, some .int),
  (mm153, ⟨"ChestOfLetters$Town", "changeStock", "(II)V"⟩, none),
  (mm154, ⟨"ChestOfLetters$Town", "length", "(I)I"⟩, some .int),
  (mm155, ⟨"ChestOfLetters$Town", "sense", "(I)I"⟩, some .int),
  (mm156, ⟨"ChestOfLetters$Town", "letterAt", "(II)I"⟩, some .int),
  (mm157, ⟨"ChestOfLetters$Town", "need", "(II)I"⟩, some .int),
  (mm158, ⟨"ChestOfLetters$Town", "worth", "(I)I"⟩, some .int),
  (mm159, ⟨"ChestOfLetters$Town", "term", "(I)I"⟩, some .int),
  (mm160, ⟨"ChestOfLetters$Town", "changeWorth", "(II)I"⟩, some .int),
  (mm161, ⟨"ChestOfLetters$Town", "changeTerm", "(II)I"⟩, some .int),
  (mm162, ⟨"ChestOfLetters$Town", "difference", "(II)I"⟩, some .int),
  (mm163, ⟨"ChestOfLetters$Town", "placesApart", "(II)I"⟩, some .int),
  (mm164, ⟨"ChestOfLetters$Town", "read", "(LChestOfLetters$Text;)I"⟩, some .int),
  (mm165, ⟨"ChestOfLetters$Town", "readLine", "(LChestOfLetters$Text;)Z"⟩, some .boolean),
  (mm166, ⟨"ChestOfLetters$Town", "readStock", "(LChestOfLetters$Text;I)Z"⟩, some .boolean),
  (mm167, ⟨"ChestOfLetters$Town", "readWord", "(LChestOfLetters$Text;I)Z"⟩, some .boolean),
  (mm168, ⟨"ChestOfLetters$Town", "writeWord", "(II)V"⟩, none),
  (mm169, ⟨"ChestOfLetters$Town", "readWall", "(LChestOfLetters$Text;)Z"⟩, some .boolean),
  (mm170, ⟨"ChestOfLetters", "sign", "(I)I"⟩, some .int),
  (mm171, ⟨"ChestOfLetters", "end", "(I)Z"⟩, some .boolean),
  (mm172, ⟨"ChestOfLetters", "town", "()I"⟩, some .int),
  (mm173, ⟨"ChestOfLetters", "rule", "()I"⟩, some .int),
  (mm174, ⟨"ChestOfLetters", "left", "(I)I"⟩, some .int),
  (mm175, ⟨"ChestOfLetters", "word", "(I)I"⟩, some .int),
  (mm176, ⟨"ChestOfLetters", "wall", "(II)I"⟩, some .int),
  (mm177, ⟨"ChestOfLetters", "hangs", "(II)I"⟩, some .int),
  (mm178, ⟨"ChestOfLetters", "set", "(III)I"⟩, some .int),
  (mm179, ⟨"ChestOfLetters", "sheet", "(IIII)I"⟩, some .int),
  (mm180, ⟨"ChestOfLetters", "hang", "(II)I"⟩, some .int),
  (mm181, ⟨"ChestOfLetters", "take", "(I)I"⟩, some .int),
  (mm182, ⟨"ChestOfLetters", "bring", "(I)I"⟩, some .int),
  (mm183, ⟨"ChestOfLetters", "lend", "(III)I"⟩, some .int),
  (mm184, ⟨"ChestOfLetters", "weeks", "(I)I"⟩, some .int),
  (mm185, ⟨"ChestOfLetters", "order", "()I"⟩, some .int),
  (mm186, ⟨"ChestOfLetters", "soon", "(I)I"⟩, some .int),
  (mm187, ⟨"ChestOfLetters", "rules", "(I)I"⟩, some .int),
  (mm188, ⟨"ChestOfLetters", "undo", "()I"⟩, some .int),
  (mm189, ⟨"ChestOfLetters", "judge", "(II)I"⟩, some .int),
  (mm190, ⟨"ChestOfLetters", "helps", "(I)I"⟩, some .int),
  (mm191, ⟨"ChestOfLetters", "together", "(I)I"⟩, some .int),
  (mm192, ⟨"ChestOfLetters", "most", "()I"⟩, some .int),
  (mm193, ⟨"ChestOfLetters", "dearest", "()I"⟩, some .int),
  (mm194, ⟨"ChestOfLetters", "cast", "(I)I"⟩, some .int),
  (mm195, ⟨"ChestOfLetters", "rob", "()I"⟩, some .int),
  (mm196, ⟨"ChestOfLetters", "shows", "()I"⟩, some .int),
  (mm197, ⟨"ChestOfLetters", "nearest", "(I)I"⟩, some .int),
  (mm198, ⟨"ChestOfLetters", "shortest", "(I)I"⟩, some .int),
  (mm199, ⟨"ChestOfLetters", "best", "()I"⟩, some .int),
  (mm200, ⟨"ChestOfLetters", "same", "(I)I"⟩, some .int),
  (mm201, ⟨"ChestOfLetters", "spell", "()I"⟩, some .int),
  (mm202, ⟨"ChestOfLetters", "unlike", "(II)I"⟩, some .int),
  (mm203, ⟨"ChestOfLetters", "chain", "(I)I"⟩, some .int),
  (mm204, ⟨"ChestOfLetters", "cover", "()I"⟩, some .int),
  (mm205, ⟨"ChestOfLetters", "ladder", "(II)I"⟩, some .int),
  (mm206, ⟨"ChestOfLetters", "streets", "(I)I"⟩, some .int),
  (mm207, ⟨"ChestOfLetters", "wanting", "(I)I"⟩, some .int),
  (mm208, ⟨"ChestOfLetters", "scarce", "()I"⟩, some .int),
  (mm209, ⟨"ChestOfLetters", "hoards", "()I"⟩, some .int),
  (mm210, ⟨"ChestOfLetters", "counted", "(III)I"⟩, some .int),
  (mm211, ⟨"ChestOfLetters", "forged", "()I"⟩, some .int),
  (mm212, ⟨"ChestOfLetters", "liars", "()I"⟩, some .int),
  (mm213, ⟨"ChestOfLetters", "forget", "()I"⟩, some .int),
  (mm214, ⟨"ChestOfLetters", "keep", "(I)Z"⟩, some .boolean),
  (mm215, ⟨"ChestOfLetters", "again", "(I)Z"⟩, some .boolean),
  (mm216, ⟨"ChestOfLetters", "count", "(I)I"⟩, some .int),
  (mm217, ⟨"ChestOfLetters", "row", "(I)I"⟩, some .int),
  (mm218, ⟨"ChestOfLetters", "isLetter", "(I)Z"⟩, some .boolean),
  (mm219, ⟨"ChestOfLetters", "has", "(II)Z"⟩, some .boolean),
  (mm220, ⟨"ChestOfLetters", "isSpan", "(I)Z"⟩, some .boolean),
  (mm221, ⟨"ChestOfLetters", "asKind", "(II)I"⟩, some .int),
  (mm222, ⟨"ChestOfLetters", "follow", "(I)I"⟩, some .int),
  (mm223, ⟨"ChestOfLetters", "worthIfBy", "(LChestOfLetters$Rule;I)I"⟩, some .int),
  (mm224, ⟨"ChestOfLetters", "lendOnTrial", "(III)Z"⟩, some .boolean),
  (mm225, ⟨"ChestOfLetters", "lendAll", "(III)V"⟩, none),
  (mm226, ⟨"ChestOfLetters", "otherWord", "(IZ)I"⟩, some .int),
  (mm227, ⟨"ChestOfLettersModel", "thrown", "()I"⟩, some .int),
  (mm228, ⟨"ChestOfLettersModel", "in", "(III)Z"⟩, some .boolean),
  (mm229, ⟨"ChestOfLettersModel", "isIn", "(II)Z"⟩, some .boolean),
  (mm230, ⟨"ChestOfLettersModel", "lost", "()I"⟩, some .int),
  (mm231, ⟨"ChestOfLettersModel", "tell", "(I)V"⟩, none),
  (mm232, ⟨"ChestOfLettersModel", "isWall", "(I)Z"⟩, some .boolean),
  (mm233, ⟨"ChestOfLettersModel", "isWord", "(I)Z"⟩, some .boolean),
  (mm234, ⟨"ChestOfLettersModel", "isLetter", "(I)Z"⟩, some .boolean),
  (mm235, ⟨"ChestOfLettersModel", "sign", "(I)I"⟩, some .int),
  (mm236, ⟨"ChestOfLettersModel", "end", "(I)Z"⟩, some .boolean),
  (mm237, ⟨"ChestOfLettersModel", "begin", "([BII)V"⟩, none),
  (mm238, ⟨"ChestOfLettersModel", "here", "()I"⟩, some .int),
  (mm239, ⟨"ChestOfLettersModel", "fine", "()Z"⟩, some .boolean),
  (mm240, ⟨"ChestOfLettersModel", "fault", "(I)V"⟩, none),
  (mm241, ⟨"ChestOfLettersModel", "passes", "(C)Z"⟩, some .boolean),
  (mm242, ⟨"ChestOfLettersModel", "need", "(C)V"⟩, none),
  (mm243, ⟨"ChestOfLettersModel", "number", "(III)I"⟩, some .int),
  (mm244, ⟨"ChestOfLettersModel", "stockOf", "(I)I"⟩, some .int),
  (mm245, ⟨"ChestOfLettersModel", "town", "()I"⟩, some .int),
  (mm246, ⟨"ChestOfLettersModel", "readLetters", "(I)Z"⟩, some .boolean),
  (mm247, ⟨"ChestOfLettersModel", "held", "(I)I"⟩, some .int),
  (mm248, ⟨"ChestOfLettersModel", "sum", "(I)I"⟩, some .int),
  (mm249, ⟨"ChestOfLettersModel", "product", "(I)I"⟩, some .int),
  (mm250, ⟨"ChestOfLettersModel", "thing", "(I)I"⟩, some .int),
  (mm251, ⟨"ChestOfLettersModel", "letterOf", "(II)I"⟩, some .int),
  (mm252, ⟨"ChestOfLettersModel", "rule", "()I"⟩, some .int),
  (mm253, ⟨"ChestOfLettersModel", "ruleFor", "(I)I"⟩, some .int),
  (mm254, ⟨"ChestOfLettersModel", "allLeft", "()I"⟩, some .int),
  (mm255, ⟨"ChestOfLettersModel", "hangsOn", "(I)I"⟩, some .int),
  (mm256, ⟨"ChestOfLettersModel", "lacking", "(I)I"⟩, some .int),
  (mm257, ⟨"ChestOfLettersModel", "isUp", "(I)Z"⟩, some .boolean),
  (mm258, ⟨"ChestOfLettersModel", "isWaiting", "(I)Z"⟩, some .boolean),
  (mm259, ⟨"ChestOfLettersModel", "ups", "()I"⟩, some .int),
  (mm260, ⟨"ChestOfLettersModel", "waiters", "()I"⟩, some .int),
  (mm261, ⟨"ChestOfLettersModel", "left", "(I)I"⟩, some .int),
  (mm262, ⟨"ChestOfLettersModel", "word", "(I)I"⟩, some .int),
  (mm263, ⟨"ChestOfLettersModel", "wall", "(II)I"⟩, some .int),
  (mm264, ⟨"ChestOfLettersModel", "hangs", "(II)I"⟩, some .int),
  (mm265, ⟨"ChestOfLettersModel", "set", "(III)I"⟩, some .int),
  (mm266, ⟨"ChestOfLettersModel", "sheet", "(IIII)I"⟩, some .int),
  (mm267, ⟨"ChestOfLettersModel", "lay", "([II)V"⟩, none),
  (mm268, ⟨"ChestOfLettersModel", "bringBack", "([II)V"⟩, none),
  (mm269, ⟨"ChestOfLettersModel", "remember", "()V"⟩, none),
  (mm270, ⟨"ChestOfLettersModel", "bringAll", "(I)I"⟩, some .int),
  (mm271, ⟨"ChestOfLettersModel", "noWord", "(I)V"⟩, none),
  (mm272, ⟨"ChestOfLettersModel", "takeAll", "(I)V"⟩, none),
  (mm273, ⟨"ChestOfLettersModel", "hang", "(II)I"⟩, some .int),
  (mm274, ⟨"ChestOfLettersModel", "take", "(I)I"⟩, some .int),
  (mm275, ⟨"ChestOfLettersModel", "bring", "(I)I"⟩, some .int),
  (mm276, ⟨"ChestOfLettersModel", "refusal", "(III)I"⟩, some .int),
  (mm277, ⟨"ChestOfLettersModel", "lacks", "(II)I"⟩, some .int),
  (mm278, ⟨"ChestOfLettersModel", "lends", "(III)V"⟩, none),
  (mm279, ⟨"ChestOfLettersModel", "lend", "(III)I"⟩, some .int),
  (mm280, ⟨"ChestOfLettersModel", "goWeek", "()I"⟩, some .int),
  (mm281, ⟨"ChestOfLettersModel", "worthOf", "(I)I"⟩, some .int),
  (mm282, ⟨"ChestOfLettersModel", "weeks", "(I)I"⟩, some .int),
  (mm283, ⟨"ChestOfLettersModel", "order", "()I"⟩, some .int),
  (mm284, ⟨"ChestOfLettersModel", "readStep", "(I)V"⟩, none),
  (mm285, ⟨"ChestOfLettersModel", "goStep", "(I)Z"⟩, some .boolean),
  (mm286, ⟨"ChestOfLettersModel", "soon", "(I)I"⟩, some .int),
  (mm287, ⟨"ChestOfLettersModel", "rules", "(I)I"⟩, some .int),
  (mm288, ⟨"ChestOfLettersModel", "undo", "()I"⟩, some .int),
  (mm289, ⟨"ChestOfLettersModel", "judge", "(II)I"⟩, some .int),
  (mm290, ⟨"ChestOfLettersModel", "helps", "(I)I"⟩, some .int),
  (mm291, ⟨"ChestOfLettersModel", "needOf", "(II)I"⟩, some .int),
  (mm292, ⟨"ChestOfLettersModel", "wordy", "()I"⟩, some .int),
  (mm293, ⟨"ChestOfLettersModel", "missing", "(I)I"⟩, some .int),
  (mm294, ⟨"ChestOfLettersModel", "together", "(I)I"⟩, some .int),
  (mm295, ⟨"ChestOfLettersModel", "most", "()I"⟩, some .int),
  (mm296, ⟨"ChestOfLettersModel", "findDearest", "(I)I"⟩, some .int),
  (mm297, ⟨"ChestOfLettersModel", "dearest", "()I"⟩, some .int),
  (mm298, ⟨"ChestOfLettersModel", "cast", "(I)I"⟩, some .int),
  (mm299, ⟨"ChestOfLettersModel", "rob", "()I"⟩, some .int),
  (mm300, ⟨"ChestOfLettersModel", "shows", "()I"⟩, some .int),
  (mm301, ⟨"ChestOfLettersModel", "unlikeOf", "(II)I"⟩, some .int),
  (mm302, ⟨"ChestOfLettersModel", "couldHave", "(II)Z"⟩, some .boolean),
  (mm303, ⟨"ChestOfLettersModel", "otherwise", "(IZ)I"⟩, some .int),
  (mm304, ⟨"ChestOfLettersModel", "nearest", "(I)I"⟩, some .int),
  (mm305, ⟨"ChestOfLettersModel", "shortest", "(I)I"⟩, some .int),
  (mm306, ⟨"ChestOfLettersModel", "best", "()I"⟩, some .int),
  (mm307, ⟨"ChestOfLettersModel", "tryWords", "(II)V"⟩, none),
  (mm308, ⟨"ChestOfLettersModel", "same", "(I)I"⟩, some .int),
  (mm309, ⟨"ChestOfLettersModel", "spell", "()I"⟩, some .int),
  (mm310, ⟨"ChestOfLettersModel", "unlike", "(II)I"⟩, some .int),
  (mm311, ⟨"ChestOfLettersModel", "areSteps", "(II)Z"⟩, some .boolean),
  (mm312, ⟨"ChestOfLettersModel", "chain", "(I)I"⟩, some .int),
  (mm313, ⟨"ChestOfLettersModel", "lettersIn", "(I)I"⟩, some .int),
  (mm314, ⟨"ChestOfLettersModel", "lengthOf", "(I)I"⟩, some .int),
  (mm315, ⟨"ChestOfLettersModel", "cover", "()I"⟩, some .int),
  (mm316, ⟨"ChestOfLettersModel", "ladder", "(II)I"⟩, some .int),
  (mm317, ⟨"ChestOfLettersModel", "streets", "(I)I"⟩, some .int),
  (mm318, ⟨"ChestOfLettersModel", "wanting", "(I)I"⟩, some .int),
  (mm319, ⟨"ChestOfLettersModel", "scarce", "()I"⟩, some .int),
  (mm320, ⟨"ChestOfLettersModel", "freed", "(I)I"⟩, some .int),
  (mm321, ⟨"ChestOfLettersModel", "hoards", "()I"⟩, some .int),
  (mm322, ⟨"ChestOfLettersModel", "counted", "(III)I"⟩, some .int),
  (mm323, ⟨"ChestOfLettersModel", "latest", "(II)I"⟩, some .int),
  (mm324, ⟨"ChestOfLettersModel", "forged", "()I"⟩, some .int),
  (mm325, ⟨"ChestOfLettersModel", "liars", "()I"⟩, some .int),
  (mm326, ⟨"ChestOfLettersModel", "forget", "()I"⟩, some .int),
  (mm327, ⟨"ChestOfLettersModel", "keep", "(I)Z"⟩, some .boolean),
  (mm328, ⟨"ChestOfLettersModel", "again", "(I)Z"⟩, some .boolean),
  (mm329, ⟨"ChestOfLettersModel", "count", "(I)I"⟩, some .int),
  (mm330, ⟨"ChestOfLettersModel", "row", "(I)I"⟩, some .int),
  (mm331, ⟨"java/lang/Integer", "bitCount", "(I)I"⟩, some .int),
  (mm332, ⟨"java/util/Arrays", "fill", "([II)V"⟩, none)]
def mMt (m : Nat) : Option mM := (mLs[m]?).map (fun e => e.1)
def mNm (m : Nat) : MethodName := ((mLs[m]?).map (fun e => e.2.1)).getD ⟨"", "", ""⟩
def mTy (m : Nat) : Option FieldType := ((mLs[m]?).map (fun e => e.2.2)).getD none
def mSHl : List (Nat × Nat) := [(99, 0), (11, 16), (9, 5), (21, 80), (5, 2), (20, 16), (10, 13), (20, 10), (20, 10), (20, 12), (20, 12),
  (20, 96), (20, 120), (20, 8), (20, 8), (20, 8), (6, 4), (20, 40), (20, 40), (6, 4), (20, 40),
  (20, 40), (6, 4), (20, 40), (20, 40), (6, 4), (20, 40), (20, 40), (6, 4), (20, 40), (20, 40),
  (2, 5), (20, 60), (20, 60), (20, 60), (20, 60), (8, 4), (20, 124), (20, 8), (20, 10), (8, 4),
  (20, 124), (20, 8), (20, 10), (3, 5), (20, 1488), (20, 248), (7, 7), (20, 2560), (20, 256), (20, 10),
  (20, 256), (20, 10), (4, 8), (20, 10), (20, 8), (20, 8), (20, 9), (1, 4), (20, 12), (20, 13),
  (20, 12), (20, 4096), (0, 4), (20, 12), (20, 12), (20, 12), (12, 47), (20, 10), (20, 12), (20, 12),
  (20, 96), (20, 120), (20, 8), (20, 8), (20, 8), (20, 80), (20, 8), (20, 8), (22, 80), (20, 16),
  (20, 10), (20, 8), (22, 40), (20, 1380), (20, 320), (20, 115), (20, 256), (20, 8), (20, 8), (20, 10),
  (20, 49152), (20, 12), (20, 36), (20, 230), (23, 2), (20, 2), (24, 1)]
def mSh (q : Nat) : Nat × Nat := mSHl.getD q (99, 0)
def mRFl : List (List Nat) := [[], [2, 4, 6, 16, 19, 22, 25, 28, 31, 36, 40, 44, 47, 53, 58, 63], [3, 0, 0, 0, 0], [], [5, 0], [], [7, 8, 0, 0, 9, 10, 11, 12, 13, 0, 0, 14, 15], [], [],
  [], [], [], [], [], [], [], [17, 0, 0, 18],
  [], [], [20, 0, 0, 21], [], [], [23, 0, 0, 24], [], [],
  [26, 0, 0, 27], [], [], [29, 0, 0, 30], [], [], [32, 33, 34, 35, 0], [],
  [], [], [], [6, 37, 38, 39], [], [], [], [6, 41, 42, 43],
  [], [], [], [45, 0, 0, 46, 0], [], [], [48, 49, 50, 51, 52, 0, 0], [],
  [], [], [], [], [54, 55, 56, 57, 0, 0, 0, 0], [], [], [],
  [], [59, 60, 61, 62], [], [], [], [], [64, 65, 66, 0], [],
  [], [], [68, 0, 69, 70, 71, 72, 0, 73, 74, 75, 76, 77, 78, 0, 79, 0, 80, 0, 0, 0, 0, 0, 0, 0, 81, 82, 83, 0, 0, 0, 84, 0, 85, 86, 87, 88, 89, 90, 0, 91, 92, 93, 0, 0, 94, 95, 96], [], [], [], [], [],
  [], [], [], [], [], [], [], [],
  [], [], [], [], [], [], [], [],
  [], [], [], [], [], [], [], [],
  []]
def mRf (q j : Nat) : Nat := (mRFl.getD q []).getD j 0
def mMr (q j : Nat) : Bool := q == 67 && j == 19
def mBf (ci j : Nat) : Bool := ci == 6 && j == 2
def mFRl : List (List (Nat × Nat × Nat)) := [[(11, 0, 0), (15, 0, 1), (18, 0, 2), (21, 0, 3)],
  [(9, 1, 0), (15, 1, 1), (18, 1, 2), (21, 1, 3)],
  [(11, 2, 0), (17, 2, 1), (20, 2, 2), (23, 2, 3), (26, 2, 4)],
  [(11, 3, 0), (22, 3, 1), (18, 3, 2), (15, 3, 3), (38, 3, 4)],
  [(9, 4, 0), (15, 4, 1), (18, 4, 2), (21, 4, 3), (60, 4, 4), (92, 4, 5), (99, 4, 6), (102, 4, 7)],
  [(7, 5, 0), (13, 5, 1)],
  [(9, 6, 0), (34, 6, 1), (38, 6, 2), (15, 6, 3)],
  [(11, 7, 0), (15, 7, 1), (18, 7, 2), (21, 7, 3), (24, 7, 4), (43, 7, 5), (74, 7, 6)],
  [(21, 8, 0), (11, 8, 1), (15, 8, 2), (18, 8, 3)],
  [(11, 9, 0), (19, 9, 1), (28, 9, 2), (31, 9, 3), (15, 9, 4)],
  [(9, 10, 0), (15, 10, 1), (39, 10, 2), (65, 10, 3), (18, 10, 4), (21, 10, 5), (24, 10, 6), (27, 10, 7), (30, 10, 8), (43, 10, 9), (68, 10, 10), (33, 10, 11), (36, 10, 12)],
  [(10, 11, 0), (19, 11, 1), (26, 11, 2), (33, 11, 3), (37, 11, 4), (40, 11, 5), (43, 11, 6), (46, 11, 7), (52, 11, 8), (61, 11, 9), (65, 11, 10), (71, 11, 11), (78, 11, 12), (85, 11, 13), (92, 11, 14), (99, 11, 15)],
  [(9, 12, 0), (117, 12, 1), (13, 12, 2), (16, 12, 3), (19, 12, 4), (22, 12, 5), (110, 12, 6), (25, 12, 7), (28, 12, 8), (31, 12, 9), (34, 12, 10), (37, 12, 11), (40, 12, 12), (243, 12, 13), (43, 12, 14), (120, 12, 15), (47, 12, 16), (107, 12, 17), (104, 12, 18), (123, 12, 19), (126, 12, 20), (129, 12, 21), (132, 12, 22), (135, 12, 23), (50, 12, 24), (53, 12, 25), (56, 12, 26), (202, 12, 27), (59, 12, 28), (205, 12, 29), (63, 12, 30), (170, 12, 31), (66, 12, 32), (69, 12, 33), (72, 12, 34), (75, 12, 35), (78, 12, 36), (81, 12, 37), (342, 12, 38), (85, 12, 39), (88, 12, 40), (91, 12, 41), (361, 12, 42), (173, 12, 43), (94, 12, 44), (97, 12, 45), (101, 12, 46)],
  [],
  [],
  [],
  []]
def mFr (o k : Nat) : Option (Nat × Nat) := (mFRl.getD o []).lookup k
def mCPl : List (List (Nat × Nat)) := [[(25, 3)],
  [(24, 332), (30, 150), (36, 154), (40, 163), (60, 11), (48, 6), (63, 12), (74, 13), (67, 14), (77, 331), (54, 50), (70, 15), (51, 9), (87, 17), (97, 157), (91, 19), (94, 18)],
  [(30, 131), (34, 135), (38, 26), (52, 136), (56, 28), (59, 138), (62, 137), (65, 146), (69, 27), (76, 141), (73, 145), (49, 133), (42, 142), (46, 132)],
  [(25, 91), (35, 92)],
  [(24, 93), (30, 151), (36, 95), (40, 94), (44, 36), (48, 150), (51, 155), (54, 152), (57, 158), (64, 39), (74, 40), (77, 41), (85, 157), (81, 42), (89, 101), (95, 46), (105, 48), (109, 47), (112, 154)],
  [],
  [(18, 57), (21, 59), (25, 58), (42, 131), (45, 135), (49, 53), (53, 60), (63, 61), (73, 62), (76, 63), (66, 136), (70, 137), (79, 64), (82, 143), (85, 146), (89, 65), (60, 133), (93, 141), (96, 138), (57, 132), (99, 124), (105, 67)],
  [(27, 70), (51, 71), (31, 93), (54, 158), (57, 107), (61, 106), (37, 152), (82, 76), (92, 331), (85, 79), (97, 80), (89, 77), (64, 109), (68, 104), (112, 88), (115, 89), (118, 50), (100, 83), (103, 332), (108, 85), (71, 101)],
  [(57, 152), (60, 113), (31, 104), (63, 118), (80, 115), (66, 154), (69, 107), (35, 95), (39, 94), (43, 157), (72, 101), (84, 96), (87, 149), (48, 97), (112, 100), (106, 159), (121, 126), (125, 110), (51, 98), (132, 55), (137, 66), (54, 158), (109, 99), (115, 155), (118, 102), (141, 127), (144, 117), (95, 135), (99, 133), (102, 145)],
  [(34, 140), (55, 146), (52, 143), (38, 136), (42, 138), (46, 137), (59, 139), (49, 144)],
  [(73, 131), (77, 135), (81, 165), (99, 136), (102, 169), (127, 138), (137, 137), (140, 147), (130, 141), (92, 133), (105, 145), (108, 143), (111, 166), (118, 146), (121, 139), (115, 167), (124, 144), (133, 168), (85, 142), (89, 132), (95, 134), (46, 157), (56, 156)],
  [(103, 53), (107, 128), (111, 130), (115, 129), (118, 164), (122, 114), (125, 32), (128, 56), (131, 134), (134, 54), (138, 218), (141, 49), (145, 152), (149, 50), (153, 112), (156, 101), (159, 148), (162, 154), (165, 156), (169, 155), (172, 149), (213, 104), (216, 160), (219, 161), (222, 113), (225, 221), (236, 153), (240, 102), (243, 30), (247, 116), (206, 95), (250, 117), (253, 118), (256, 119), (260, 120), (263, 220), (266, 125), (270, 111), (273, 109), (276, 110), (279, 25), (280, 20), (281, 222), (453, 22), (456, 23), (459, 21), (462, 180), (465, 181), (468, 182), (471, 24), (474, 183), (477, 184), (284, 90), (197, 97), (286, 223), (290, 51), (291, 52), (294, 31), (298, 29), (299, 224), (303, 98), (306, 121), (309, 151), (312, 225), (316, 108), (319, 68), (323, 78), (326, 81), (329, 331), (334, 83), (337, 74), (338, 76), (341, 72), (344, 86), (347, 87), (351, 226), (188, 94), (365, 150), (368, 162), (480, 122), (355, 35), (358, 37), (362, 38), (371, 131), (375, 123), (378, 132), (381, 133), (385, 5), (388, 10), (391, 16), (395, 7), (398, 8), (402, 43), (405, 44), (408, 45), (411, 106), (414, 84), (417, 75), (420, 69), (423, 73), (426, 82), (429, 2), (432, 0), (433, 4), (436, 3), (439, 1), (441, 33), (445, 34), (448, 103), (182, 158), (185, 159), (191, 105), (194, 96), (200, 99), (203, 100), (207, 66)],
  [(113, 228), (154, 237), (138, 239), (142, 238), (150, 240), (158, 243), (162, 242), (146, 241), (166, 246), (176, 244), (189, 247), (180, 248), (183, 249), (186, 250), (192, 251), (196, 256), (208, 255), (199, 254), (217, 234), (220, 231), (223, 233), (226, 232), (229, 230), (211, 257), (232, 253), (250, 269), (246, 267), (253, 270), (256, 272), (259, 271), (265, 276), (262, 277), (268, 278), (276, 280), (214, 258), (272, 229), (279, 259), (282, 281), (285, 260), (288, 284), (291, 285), (294, 273), (297, 274), (300, 275), (303, 279), (306, 282), (308, 268), (314, 292), (311, 291), (317, 293), (320, 331), (325, 296), (338, 303), (332, 302), (335, 301), (345, 307), (349, 311), (352, 313), (355, 314), (358, 320), (364, 323)],
  [],
  [],
  [],
  [(23, 170), (27, 171), (32, 172), (37, 173), (41, 174), (45, 175), (58, 177), (62, 178), (67, 179), (72, 180), (76, 181), (80, 182), (84, 183), (88, 184), (92, 185), (96, 186), (100, 187), (104, 188), (108, 189), (112, 190), (116, 191), (120, 192), (124, 193), (128, 194), (132, 195), (136, 196), (140, 197), (144, 198), (148, 199), (152, 200), (156, 201), (160, 202), (164, 203), (168, 204), (172, 205), (176, 206), (180, 207), (184, 208), (188, 209), (192, 210), (196, 211), (200, 212), (204, 213), (208, 214), (212, 215), (216, 216), (7, 176), (15, 217), (55, 227), (26, 235), (31, 236), (36, 245), (40, 252), (44, 261), (48, 262), (54, 263), (61, 264), (66, 265), (71, 266), (75, 273), (79, 274), (83, 275), (87, 279), (91, 282), (95, 283), (99, 286), (103, 287), (107, 288), (111, 289), (115, 290), (119, 294), (123, 295), (127, 297), (131, 298), (135, 299), (139, 300), (143, 304), (147, 305), (151, 306), (155, 308), (159, 309), (163, 310), (167, 312), (171, 315), (175, 316), (179, 317), (183, 318), (187, 319), (191, 321), (195, 322), (199, 324), (203, 325), (207, 326), (211, 327), (215, 328), (219, 329), (223, 330)]]
def mCXl : List (List (Nat × Nat × String)) := [[],
  [(44, 219, "ChestOfLetters")],
  [],
  [(41, 219, "ChestOfLetters")],
  [],
  [],
  [],
  [(47, 219, "ChestOfLetters")],
  [(90, 218, "ChestOfLetters"), (128, 219, "ChestOfLetters")],
  [],
  [],
  [],
  [],
  [],
  [],
  [],
  []]
def mCr (o k : Nat) : Option Nat := match (mCPl.getD o []).lookup k with
  | some m => some m
  | none => ((mCXl.getD o []).lookup k).map (fun e => e.1)
def mCKl : List (List (Nat × Int32)) := [[], [], [], [], [], [], [], [], [], [], [], [], [(84, 49152), (328, 1000000)], [(265, 1431655765), (266, 858993459), (267, 252645135)], [], [], []]
def mCk (o k : Nat) : Option Int32 := (mCKl.getD o []).lookup k
def mACl : List (List (Nat × Nat)) := [[], [(82, 2)], [], [(29, 3)], [(68, 1)], [], [(28, 1)], [(77, 2), (124, 3)], [(25, 1), (75, 3), (147, 2)], [(22, 3)], [(59, 1), (50, 4)], [(228, 3), (233, 2)], [(235, 3), (240, 2), (329, 4)], [], [], [], []]
def mAc (o k : Nat) : Nat := match (mACl.getD o []).lookup k with
  | some v => v
  | none => 0
def mTab : mT := (mMt, mSh, mRf, mMr, mBf, mFr, mCr, mCk, mAc)
/-- the words that the tables stand on -/
def tgC : List Cond := mLs.map (fun e => Cond.code e.2.1 e.1.1 e.1.2.2.1 e.2.2)
def tgI : List Cond := mCNl.take 16 |>.map (fun c => Cond.initialized c)
def mS1 : List (mM × MethodName × Option FieldType) := mLs.filter (fun e => e.1.2.2.2.2.2.1)
def mS0 : List (mM × MethodName × Option FieldType) := mLs.filter (fun e => !e.1.2.2.2.2.2.1)
def tgS : List Cond := mS1.map (fun e => Cond.static e.2.1)
def tgV : List Cond := mS0.map (fun e => Cond.instanceMethod e.2.1)
def tgE : List Cond := mS0.map (fun e => Cond.selects e.2.1.cls e.2.1 e.2.1)
def tgL : List Cond := (List.range 17).flatMap (fun o => (mCPl.getD o []).map (fun e => Cond.methodLink (mCN o) e.1 (mNm e.2)))
def mNX : mX := (List.range 17).flatMap (fun o => (mCXl.getD o []).map (fun e => (mCN o, e.1, mNm e.2.1, e.2.2)))
def tgX : List Cond := mNX.map nxw
def mCd (ci : Nat) : vw_C := mCls.getD ci ("", mF0, 0)
def tgF : List Cond := (List.range 17).flatMap (fun o => (mFRl.getD o []).map (fun e => Cond.fieldLink (mCN o) e.1 ((mCd e.2.1).2.1 e.2.2).1 ((mCd e.2.1).2.1 e.2.2).2.1 ((mCd e.2.1).2.1 e.2.2).2.2.1))
def tgU : List Cond := mCls.flatMap (fun r => u_ws r.1 r.2.1 r.2.2)
def tgK : List Cond := (List.range 17).flatMap (fun o => (mCKl.getD o []).map (fun e => Cond.constant (mCN o) e.1 e.2))
def mSp (k : Nat) : MethodName := match k with
  | 1 => arraycopyName
  | 2 => Lib.Math.max.name
  | 3 => Lib.Math.min.name
  | _ => Lib.Math.abs.name
def tgA : List Cond := [Cond.native arraycopyName, Cond.static arraycopyName, Cond.initialized "java/lang/System", Cond.initialized "java/lang/Math", Cond.static Lib.Math.max.name, Cond.static Lib.Math.min.name, Cond.static Lib.Math.abs.name, Cond.code Lib.Math.max.name Lib.Math.max.code 2 (some .int), Cond.code Lib.Math.min.name Lib.Math.min.code 2 (some .int), Cond.code Lib.Math.abs.name Lib.Math.abs.code 1 (some .int)] ++ (List.range 17).flatMap (fun o => (mACl.getD o []).map (fun e => Cond.methodLink (mCN o) e.1 (mSp e.2)))
def mTG : List Cond := tgC ++ (tgI ++ (tgS ++ (tgV ++ (tgE ++ (tgL ++ (tgF ++ (tgU ++ (tgK ++ tgA))))))))
def mTb : List (List Cond) := [tables_1_1, tables_1_2, tables_1_3, tables_1_4, tables_1_5, tables_1_6, tables_1_7, tables_1_8, tables_1_9, k2_sels lw_privs]
theorem mTb_in : ∀ l ∈ mTb, ∀ w ∈ l, w ∈ lw_tbl := by
  intro l hl w hw
  unfold lw_tbl tables_1
  simp only [mTb, List.mem_cons, List.not_mem_nil, or_false] at hl
  simp only [List.mem_append]
  rcases hl with rfl | rfl | rfl | rfl | rfl | rfl | rfl | rfl | rfl | rfl <;> simp [hw]
def mAt (w : Cond) (q : Nat × Nat) : Bool := decide ((mTb.getD q.1 [])[q.2]? = some w)
theorem mAt_in {w : Cond} {q : Nat × Nat} (h : (mTb.getD q.1 [])[q.2]? = some w) : w ∈ lw_tbl := by
  have h2 := List.mem_of_getElem? h
  by_cases hq : q.1 < mTb.length
  · exact mTb_in _ (by rw [List.getD_eq_getElem?_getD, List.getElem?_eq_getElem hq]; exact List.getElem_mem hq) w h2
  · rw [List.getD_eq_getElem?_getD, List.getElem?_eq_none (by omega)] at h2
    simp at h2
def mAts (ws : List Cond) (ps : List (Nat × Nat)) : Bool := ws.length == ps.length && (ws.zip ps).all (fun q => mAt q.1 q.2)
theorem mAts_in {ws : List Cond} {ps : List (Nat × Nat)} (h : mAts ws ps = true) : ∀ w ∈ ws, w ∈ lw_tbl := by
  intro w hw
  unfold mAts at h
  rw [Bool.and_eq_true] at h
  obtain ⟨h1, h2⟩ := h
  obtain ⟨i, hi⟩ := List.getElem?_of_mem hw
  have hl : i < ps.length := by rw [← eq_of_beq h1]; exact (List.getElem?_eq_some_iff.mp hi).1
  have h3 := List.all_eq_true.mp h2 (w, ps[i]) (by
    apply List.mem_of_getElem? (i := i)
    rw [List.getElem?_zip_eq_some]
    exact ⟨hi, List.getElem?_eq_getElem hl⟩)
  exact mAt_in (of_decide_eq_true h3)

def psC : List (Nat × Nat) := [(5, 96), (5, 121), (5, 92), (5, 108), (5, 104), (4, 178), (4, 200), (5, 10), (5, 14), (4, 223), (4, 192), (4, 196), (4, 205), (4, 209), (4, 213), (4, 220),
  (4, 231), (4, 234), (5, 2), (4, 238), (3, 106), (3, 122), (3, 114), (3, 118), (3, 129), (3, 81), (3, 87), (3, 97), (3, 91), (3, 172), (2, 166), (3, 164),
  (2, 25), (5, 129), (5, 137), (4, 111), (4, 118), (4, 124), (4, 148), (4, 130), (4, 135), (4, 139), (4, 144), (5, 22), (5, 40), (5, 44), (5, 27), (5, 35),
  (5, 31), (2, 84), (2, 89), (3, 152), (3, 156), (1, 55), (2, 72), (3, 37), (2, 33), (1, 59), (1, 67), (1, 63), (2, 40), (2, 44), (2, 48), (2, 52),
  (2, 58), (2, 63), (3, 41), (3, 58), (3, 209), (5, 75), (3, 213), (3, 218), (4, 50), (5, 79), (4, 37), (5, 67), (3, 237), (4, 24), (3, 233), (4, 16),
  (4, 20), (4, 6), (5, 84), (4, 33), (5, 57), (5, 63), (4, 60), (4, 64), (4, 68), (4, 73), (3, 139), (2, 170), (3, 168), (3, 222), (2, 206), (2, 193),
  (2, 216), (3, 10), (3, 30), (3, 53), (3, 14), (2, 97), (2, 158), (5, 146), (2, 21), (5, 226), (3, 228), (2, 201), (3, 205), (3, 72), (3, 26), (3, 68),
  (2, 93), (2, 17), (2, 9), (2, 184), (2, 176), (2, 197), (2, 180), (2, 229), (2, 235), (3, 189), (4, 99), (4, 161), (3, 45), (3, 6), (3, 22), (3, 62),
  (1, 124), (1, 136), (1, 128), (1, 151), (2, 1), (1, 209), (2, 5), (1, 158), (1, 166), (1, 182), (1, 174), (1, 201), (1, 178), (1, 205), (1, 237), (1, 194),
  (1, 217), (1, 213), (1, 190), (1, 186), (2, 105), (2, 125), (4, 87), (3, 193), (2, 13), (2, 154), (2, 109), (2, 117), (2, 113), (2, 210), (3, 49), (3, 18),
  (2, 134), (2, 138), (4, 91), (4, 187), (1, 144), (1, 162), (1, 222), (1, 228), (1, 233), (1, 170), (1, 120), (1, 132), (1, 140), (2, 29), (2, 77), (2, 101),
  (5, 154), (2, 121), (2, 130), (2, 142), (2, 162), (2, 189), (2, 220), (2, 225), (2, 239), (3, 77), (3, 135), (3, 144), (3, 160), (3, 176), (3, 184), (3, 201),
  (4, 2), (4, 29), (4, 41), (4, 46), (4, 56), (4, 78), (4, 103), (4, 107), (4, 152), (4, 156), (4, 170), (4, 174), (4, 227), (5, 6), (5, 18), (5, 48),
  (5, 53), (5, 71), (5, 88), (5, 100), (5, 112), (5, 117), (5, 125), (5, 133), (5, 142), (5, 238), (2, 80), (3, 33), (3, 2), (2, 146), (3, 110), (3, 148),
  (3, 180), (3, 197), (4, 82), (6, 153), (6, 164), (7, 116), (7, 31), (7, 11), (7, 27), (7, 19), (7, 7), (6, 157), (6, 161), (6, 172), (6, 180), (6, 176),
  (6, 184), (6, 196), (6, 192), (6, 188), (6, 204), (6, 168), (6, 200), (6, 212), (6, 216), (6, 220), (6, 224), (6, 228), (6, 208), (7, 39), (7, 0), (6, 236),
  (6, 232), (7, 35), (7, 113), (7, 120), (7, 128), (7, 4), (7, 15), (7, 23), (7, 43), (7, 47), (7, 51), (7, 65), (7, 153), (7, 61), (7, 69), (7, 85),
  (7, 77), (7, 57), (7, 73), (7, 81), (7, 93), (7, 97), (7, 101), (7, 89), (7, 109), (7, 124), (7, 105), (7, 132), (7, 136), (7, 140), (7, 149), (7, 157),
  (7, 161), (7, 165), (7, 169), (7, 181), (7, 177), (7, 189), (7, 173), (7, 185), (7, 198), (7, 194), (7, 202), (7, 206), (7, 210), (7, 227), (7, 223), (7, 219),
  (7, 215), (7, 232), (7, 236), (8, 0), (8, 4), (8, 8), (8, 12), (8, 20), (8, 16), (8, 28), (8, 32), (8, 24), (8, 36), (8, 40), (8, 44), (8, 48),
  (8, 56), (8, 52), (8, 60), (8, 68), (8, 64), (8, 72), (8, 76), (8, 80), (8, 84), (8, 88), (8, 92), (4, 9), (4, 181)]
def psI : List (Nat × Nat) := [(0, 12), (0, 11), (0, 6), (0, 8), (0, 10), (0, 3), (0, 5), (0, 9), (0, 7), (0, 2), (0, 4), (0, 1), (0, 13), (0, 20), (0, 15), (0, 21)]
def psS : List (Nat × Nat) := [(4, 222), (4, 233), (4, 237), (3, 96), (3, 90), (4, 117), (2, 62), (3, 57), (2, 79), (3, 32), (3, 1), (2, 145), (6, 163), (7, 115), (7, 6), (4, 8),
  (4, 180)]
def psV : List (Nat × Nat) := [(5, 94), (5, 119), (5, 90), (5, 106), (5, 102), (4, 176), (4, 199), (5, 8), (5, 12), (4, 190), (4, 195), (4, 204), (4, 208), (4, 212), (4, 219), (4, 229),
  (5, 1), (3, 104), (3, 120), (3, 112), (3, 116), (3, 127), (3, 79), (3, 86), (3, 170), (2, 164), (3, 162), (2, 23), (5, 127), (5, 135), (4, 109), (4, 122),
  (4, 146), (4, 129), (4, 134), (4, 138), (4, 143), (5, 20), (5, 38), (5, 42), (5, 26), (5, 34), (5, 30), (2, 82), (2, 87), (3, 150), (3, 154), (1, 53),
  (2, 70), (3, 35), (2, 31), (1, 58), (1, 66), (1, 62), (2, 39), (2, 43), (2, 47), (2, 51), (2, 57), (3, 39), (3, 207), (5, 73), (3, 212), (3, 217),
  (4, 48), (5, 77), (4, 35), (5, 65), (3, 235), (4, 23), (3, 231), (4, 15), (4, 19), (4, 4), (5, 82), (4, 31), (5, 55), (5, 62), (4, 58), (4, 62),
  (4, 67), (4, 72), (3, 137), (2, 168), (3, 166), (3, 220), (2, 204), (2, 191), (2, 214), (3, 8), (3, 28), (3, 51), (3, 12), (2, 95), (2, 156), (5, 144),
  (2, 19), (5, 224), (3, 226), (2, 199), (3, 203), (3, 70), (3, 24), (3, 66), (2, 91), (2, 15), (2, 7), (2, 183), (2, 174), (2, 195), (2, 178), (2, 227),
  (2, 233), (3, 187), (4, 97), (4, 159), (3, 43), (3, 4), (3, 21), (3, 61), (1, 122), (1, 134), (1, 126), (1, 149), (1, 239), (1, 207), (2, 3), (1, 156),
  (1, 164), (1, 180), (1, 172), (1, 199), (1, 177), (1, 203), (1, 235), (1, 192), (1, 215), (1, 211), (1, 188), (1, 184), (2, 103), (2, 123), (4, 85), (3, 191),
  (2, 11), (2, 152), (2, 107), (2, 115), (2, 111), (2, 208), (3, 47), (3, 16), (2, 132), (2, 136), (4, 89), (4, 185), (1, 142), (1, 161), (1, 221), (1, 227),
  (1, 232), (1, 169), (1, 118), (1, 130), (1, 138), (2, 27), (2, 75), (2, 99), (5, 152), (2, 119), (2, 128), (2, 140), (2, 160), (2, 187), (2, 218), (2, 223),
  (2, 237), (3, 75), (3, 133), (3, 142), (3, 158), (3, 174), (3, 182), (3, 199), (4, 0), (4, 27), (4, 39), (4, 44), (4, 54), (4, 76), (4, 101), (4, 105),
  (4, 150), (4, 154), (4, 168), (4, 172), (4, 225), (5, 4), (5, 16), (5, 46), (5, 51), (5, 69), (5, 86), (5, 98), (5, 110), (5, 115), (5, 123), (5, 131),
  (5, 140), (5, 236), (3, 109), (3, 147), (3, 179), (3, 196), (4, 81), (6, 151), (7, 30), (7, 10), (7, 26), (7, 18), (6, 155), (6, 159), (6, 171), (6, 179),
  (6, 175), (6, 183), (6, 195), (6, 191), (6, 187), (6, 203), (6, 166), (6, 199), (6, 211), (6, 215), (6, 219), (6, 223), (6, 227), (6, 206), (7, 38), (6, 239),
  (6, 235), (6, 231), (7, 34), (7, 112), (7, 119), (7, 127), (7, 2), (7, 13), (7, 21), (7, 41), (7, 45), (7, 49), (7, 64), (7, 152), (7, 60), (7, 68),
  (7, 84), (7, 76), (7, 55), (7, 71), (7, 79), (7, 92), (7, 96), (7, 100), (7, 87), (7, 108), (7, 123), (7, 103), (7, 130), (7, 135), (7, 139), (7, 147),
  (7, 155), (7, 159), (7, 163), (7, 167), (7, 180), (7, 176), (7, 188), (7, 171), (7, 183), (7, 197), (7, 192), (7, 200), (7, 204), (7, 208), (7, 226), (7, 222),
  (7, 218), (7, 213), (7, 230), (7, 234), (7, 239), (8, 2), (8, 6), (8, 10), (8, 19), (8, 14), (8, 27), (8, 31), (8, 22), (8, 34), (8, 38), (8, 42),
  (8, 46), (8, 55), (8, 50), (8, 58), (8, 67), (8, 62), (8, 70), (8, 74), (8, 78), (8, 82), (8, 86), (8, 90)]
def psE : List (Nat × Nat) := [(5, 95), (5, 120), (5, 91), (5, 107), (5, 103), (4, 177), (9, 35), (5, 9), (5, 13), (4, 191), (9, 34), (9, 36), (9, 37), (9, 38), (9, 39), (4, 230),
  (9, 40), (3, 105), (3, 121), (3, 113), (3, 117), (3, 128), (3, 80), (9, 17), (3, 171), (2, 165), (3, 163), (2, 24), (5, 128), (5, 136), (4, 110), (4, 123),
  (4, 147), (9, 30), (9, 31), (9, 32), (9, 33), (5, 21), (5, 39), (5, 43), (9, 41), (9, 43), (9, 42), (2, 83), (2, 88), (3, 151), (3, 155), (1, 54),
  (2, 71), (3, 36), (2, 32), (9, 0), (9, 2), (9, 1), (9, 9), (9, 10), (9, 11), (9, 12), (9, 13), (3, 40), (3, 208), (5, 74), (9, 22), (9, 23),
  (4, 49), (5, 78), (4, 36), (5, 66), (3, 236), (9, 26), (3, 232), (9, 24), (9, 25), (4, 5), (5, 83), (4, 32), (5, 56), (9, 44), (4, 59), (4, 63),
  (9, 27), (9, 28), (3, 138), (2, 169), (3, 167), (3, 221), (2, 205), (2, 192), (2, 215), (3, 9), (3, 29), (3, 52), (3, 13), (2, 96), (2, 157), (5, 145),
  (2, 20), (5, 225), (3, 227), (2, 200), (3, 204), (3, 71), (3, 25), (3, 67), (2, 92), (2, 16), (2, 8), (9, 14), (2, 175), (2, 196), (2, 179), (2, 228),
  (2, 234), (3, 188), (4, 98), (4, 160), (3, 44), (3, 5), (9, 15), (9, 16), (1, 123), (1, 135), (1, 127), (1, 150), (2, 0), (1, 208), (2, 4), (1, 157),
  (1, 165), (1, 181), (1, 173), (1, 200), (9, 5), (1, 204), (1, 236), (1, 193), (1, 216), (1, 212), (1, 189), (1, 185), (2, 104), (2, 124), (4, 86), (3, 192),
  (2, 12), (2, 153), (2, 108), (2, 116), (2, 112), (2, 209), (3, 48), (3, 17), (2, 133), (2, 137), (4, 90), (4, 186), (1, 143), (9, 3), (9, 6), (9, 7),
  (9, 8), (9, 4), (1, 119), (1, 131), (1, 139), (2, 28), (2, 76), (2, 100), (5, 153), (2, 120), (2, 129), (2, 141), (2, 161), (2, 188), (2, 219), (2, 224),
  (2, 238), (3, 76), (3, 134), (3, 143), (3, 159), (3, 175), (3, 183), (3, 200), (4, 1), (4, 28), (4, 40), (4, 45), (4, 55), (4, 77), (4, 102), (4, 106),
  (4, 151), (4, 155), (4, 169), (4, 173), (4, 226), (5, 5), (5, 17), (5, 47), (5, 52), (5, 70), (5, 87), (5, 99), (5, 111), (5, 116), (5, 124), (5, 132),
  (5, 141), (5, 237), (9, 18), (9, 19), (9, 20), (9, 21), (9, 29), (6, 152), (9, 66), (9, 63), (9, 65), (9, 64), (6, 156), (6, 160), (9, 46), (9, 48),
  (9, 47), (9, 49), (9, 52), (9, 51), (9, 50), (9, 54), (6, 167), (9, 53), (9, 55), (9, 56), (9, 57), (9, 58), (9, 59), (6, 207), (9, 68), (9, 62),
  (9, 61), (9, 60), (9, 67), (9, 78), (9, 79), (9, 81), (7, 3), (7, 14), (7, 22), (7, 42), (7, 46), (7, 50), (9, 70), (9, 84), (9, 69), (9, 71),
  (9, 73), (9, 72), (7, 56), (7, 72), (7, 80), (9, 74), (9, 75), (9, 76), (7, 88), (9, 77), (9, 80), (7, 104), (7, 131), (9, 82), (9, 83), (7, 148),
  (7, 156), (7, 160), (7, 164), (7, 168), (9, 86), (9, 85), (9, 87), (7, 172), (7, 184), (9, 88), (7, 193), (7, 201), (7, 205), (7, 209), (9, 91), (9, 90),
  (9, 89), (7, 214), (7, 231), (7, 235), (9, 92), (8, 3), (8, 7), (8, 11), (9, 93), (8, 15), (9, 94), (9, 95), (8, 23), (8, 35), (8, 39), (8, 43),
  (8, 47), (9, 96), (8, 51), (8, 59), (9, 97), (8, 63), (8, 71), (8, 75), (8, 79), (8, 83), (8, 87), (8, 91)]
def psL : List (Nat × Nat) := [(5, 105), (4, 179), (4, 182), (4, 183), (4, 184), (4, 193), (4, 197), (4, 202), (4, 206), (4, 210), (4, 214), (4, 216), (4, 217), (4, 221), (4, 232), (4, 235),
  (4, 236), (4, 239), (3, 82), (3, 83), (3, 84), (3, 88), (3, 89), (3, 92), (3, 93), (3, 94), (3, 95), (3, 98), (3, 99), (3, 100), (3, 101), (3, 102),
  (2, 167), (3, 165), (4, 112), (4, 113), (4, 114), (4, 115), (4, 116), (4, 119), (4, 120), (4, 125), (4, 126), (4, 127), (4, 132), (4, 136), (4, 140), (4, 141),
  (5, 23), (5, 24), (5, 28), (5, 32), (5, 36), (1, 56), (1, 60), (1, 64), (2, 34), (2, 35), (2, 36), (2, 37), (2, 41), (2, 45), (2, 49), (2, 53),
  (2, 54), (2, 55), (2, 59), (2, 60), (2, 61), (2, 64), (2, 65), (2, 66), (2, 67), (3, 42), (3, 56), (3, 210), (3, 215), (3, 219), (3, 223), (3, 224),
  (3, 225), (3, 229), (3, 234), (4, 7), (4, 13), (4, 17), (4, 21), (4, 51), (4, 52), (4, 65), (4, 70), (4, 74), (5, 58), (5, 59), (5, 60), (5, 80),
  (2, 10), (2, 14), (2, 18), (2, 177), (2, 181), (2, 185), (2, 198), (2, 202), (2, 203), (2, 207), (2, 211), (2, 213), (2, 230), (3, 7), (3, 11), (3, 15),
  (3, 19), (3, 23), (3, 27), (3, 34), (3, 38), (3, 46), (3, 50), (3, 54), (3, 55), (3, 59), (3, 64), (4, 162), (4, 163), (4, 164), (1, 175), (1, 187),
  (1, 191), (1, 195), (1, 196), (1, 197), (1, 198), (1, 214), (1, 148), (1, 155), (1, 159), (1, 163), (1, 167), (1, 171), (1, 179), (1, 183), (1, 202), (1, 206),
  (1, 210), (1, 218), (1, 219), (1, 223), (1, 224), (1, 225), (1, 229), (1, 230), (1, 234), (1, 238), (2, 2), (4, 92), (4, 188), (1, 52), (1, 121), (1, 125),
  (1, 133), (1, 141), (2, 6), (2, 22), (2, 30), (2, 68), (2, 69), (2, 78), (2, 81), (2, 85), (2, 86), (2, 90), (2, 94), (2, 102), (2, 106), (2, 110),
  (2, 114), (2, 122), (2, 126), (2, 131), (2, 135), (2, 143), (2, 144), (2, 151), (2, 155), (2, 163), (2, 173), (2, 190), (2, 194), (2, 221), (2, 226), (2, 232),
  (3, 0), (3, 3), (3, 65), (3, 69), (3, 73), (3, 78), (3, 103), (3, 107), (3, 111), (3, 115), (3, 119), (3, 123), (3, 124), (3, 125), (3, 126), (3, 130),
  (3, 131), (3, 136), (3, 140), (3, 145), (3, 149), (3, 153), (3, 161), (3, 169), (3, 177), (3, 185), (3, 186), (3, 190), (3, 194), (3, 202), (3, 206), (3, 230),
  (4, 3), (4, 25), (4, 30), (4, 34), (4, 42), (4, 47), (4, 57), (4, 61), (4, 79), (4, 83), (4, 84), (4, 88), (4, 96), (4, 108), (4, 121), (4, 145),
  (4, 157), (4, 158), (4, 165), (4, 166), (4, 175), (4, 189), (4, 228), (5, 7), (5, 11), (5, 19), (5, 37), (5, 41), (5, 49), (5, 54), (5, 64), (5, 72),
  (5, 76), (5, 81), (5, 89), (5, 93), (5, 101), (5, 113), (5, 118), (5, 126), (5, 134), (5, 143), (5, 221), (5, 222), (5, 223), (5, 227), (5, 228), (5, 229),
  (5, 230), (6, 162), (6, 169), (6, 173), (6, 177), (6, 181), (6, 185), (6, 189), (6, 193), (6, 197), (6, 201), (6, 209), (6, 213), (6, 217), (6, 221), (6, 225),
  (6, 229), (6, 233), (6, 237), (7, 5), (7, 8), (7, 16), (7, 24), (7, 28), (7, 32), (7, 36), (7, 58), (7, 62), (7, 66), (7, 74), (7, 82), (7, 90),
  (7, 94), (7, 98), (7, 106), (7, 110), (7, 114), (7, 117), (7, 121), (7, 125), (7, 133), (7, 137), (7, 141), (7, 142), (7, 143), (7, 144), (7, 145), (7, 150),
  (7, 174), (7, 178), (7, 186), (7, 190), (7, 195), (7, 216), (7, 220), (7, 224), (7, 237), (8, 17), (8, 25), (8, 29), (8, 53), (8, 65), (1, 117), (1, 129),
  (1, 137), (2, 26), (2, 74), (2, 98), (2, 118), (2, 127), (2, 139), (2, 159), (2, 186), (2, 217), (2, 222), (2, 236), (3, 74), (3, 132), (3, 141), (3, 157),
  (3, 173), (3, 181), (3, 198), (3, 239), (4, 26), (4, 38), (4, 43), (4, 53), (4, 75), (4, 100), (4, 104), (4, 149), (4, 153), (4, 167), (4, 171), (4, 224),
  (5, 3), (5, 15), (5, 45), (5, 50), (5, 68), (5, 85), (5, 97), (5, 109), (5, 114), (5, 122), (5, 130), (5, 139), (5, 151), (5, 235), (6, 150), (6, 154),
  (6, 158), (6, 165), (6, 205), (7, 1), (7, 12), (7, 20), (7, 40), (7, 44), (7, 48), (7, 54), (7, 70), (7, 78), (7, 86), (7, 102), (7, 129), (7, 146),
  (7, 154), (7, 158), (7, 162), (7, 166), (7, 170), (7, 182), (7, 191), (7, 199), (7, 203), (7, 207), (7, 212), (7, 229), (7, 233), (8, 1), (8, 5), (8, 9),
  (8, 13), (8, 21), (8, 33), (8, 37), (8, 41), (8, 45), (8, 49), (8, 57), (8, 61), (8, 69), (8, 73), (8, 77), (8, 81), (8, 85), (8, 89)]
def psX : List (Nat × Nat) := [(4, 201), (5, 138), (3, 214), (2, 231), (3, 31)]
def psF : List (Nat × Nat) := [(1, 39), (1, 40), (1, 41), (1, 42), (1, 20), (1, 21), (1, 22), (1, 23), (0, 138), (0, 139), (0, 140), (0, 141), (0, 142), (0, 179), (0, 180), (0, 181),
  (0, 182), (0, 183), (0, 229), (0, 230), (0, 231), (0, 232), (0, 233), (0, 234), (0, 235), (0, 236), (0, 59), (0, 60), (0, 119), (0, 120), (0, 121), (0, 122),
  (0, 201), (0, 202), (0, 203), (0, 204), (0, 205), (0, 206), (0, 207), (0, 160), (0, 161), (0, 162), (0, 163), (0, 36), (0, 37), (0, 38), (0, 39), (0, 40),
  (0, 73), (0, 74), (0, 75), (0, 76), (0, 77), (0, 78), (0, 79), (0, 80), (0, 81), (0, 82), (0, 83), (0, 84), (0, 85), (1, 68), (1, 69), (1, 70),
  (1, 71), (1, 72), (1, 73), (1, 74), (1, 75), (1, 76), (1, 77), (1, 78), (1, 79), (1, 80), (1, 81), (1, 82), (1, 83), (6, 7), (6, 8), (6, 9),
  (6, 10), (6, 11), (6, 12), (6, 13), (6, 14), (6, 15), (6, 16), (6, 17), (6, 18), (6, 19), (6, 20), (6, 21), (6, 22), (6, 23), (6, 24), (6, 25),
  (6, 26), (6, 27), (6, 28), (6, 29), (6, 30), (6, 31), (6, 32), (6, 33), (6, 34), (6, 35), (6, 36), (6, 37), (6, 38), (6, 39), (6, 40), (6, 41),
  (6, 42), (6, 43), (6, 44), (6, 45), (6, 46), (6, 47), (6, 48), (6, 49), (6, 50), (6, 51), (6, 52), (6, 53)]
def psU : List (Nat × Nat) := [(1, 43), (1, 45), (1, 47), (1, 49), (1, 24), (1, 26), (1, 28), (1, 30), (0, 143), (0, 145), (0, 147), (0, 149), (0, 151), (0, 184), (0, 186), (0, 188),
  (0, 190), (0, 192), (0, 237), (0, 239), (1, 1), (1, 3), (1, 5), (1, 7), (1, 9), (1, 11), (0, 61), (0, 63), (0, 123), (0, 125), (0, 127), (0, 129),
  (0, 208), (0, 210), (0, 212), (0, 214), (0, 216), (0, 218), (0, 220), (0, 164), (0, 166), (0, 168), (0, 170), (0, 41), (0, 43), (0, 45), (0, 47), (0, 49),
  (0, 86), (0, 88), (0, 90), (0, 92), (0, 94), (0, 96), (0, 98), (0, 100), (0, 102), (0, 104), (0, 106), (0, 108), (0, 110), (1, 84), (1, 86), (1, 88),
  (1, 90), (1, 92), (1, 94), (1, 96), (1, 98), (1, 100), (1, 102), (1, 104), (1, 106), (1, 108), (1, 110), (1, 112), (1, 114), (6, 54), (6, 56), (6, 58),
  (6, 60), (6, 62), (6, 64), (6, 66), (6, 68), (6, 70), (6, 72), (6, 74), (6, 76), (6, 78), (6, 80), (6, 82), (6, 84), (6, 86), (6, 88), (6, 90),
  (6, 92), (6, 94), (6, 96), (6, 98), (6, 100), (6, 102), (6, 104), (6, 106), (6, 108), (6, 110), (6, 112), (6, 114), (6, 116), (6, 118), (6, 120), (6, 122),
  (6, 124), (6, 126), (6, 128), (6, 130), (6, 132), (6, 134), (6, 136), (6, 138), (6, 140), (6, 142), (6, 144), (6, 146)]
def psK : List (Nat × Nat) := [(6, 6), (7, 211), (4, 10), (4, 11), (4, 12)]
def psA : List (Nat × Nat) := [(1, 147), (1, 146), (0, 14), (0, 15), (2, 149), (1, 153), (4, 94), (2, 150), (1, 154), (4, 95), (4, 215), (2, 172), (4, 131), (2, 73), (3, 238), (4, 69),
  (2, 171), (2, 212), (3, 63), (1, 152), (1, 145), (4, 93), (2, 147), (2, 148), (7, 52), (7, 53), (7, 228)]
set_option maxRecDepth 1000000 in
theorem inC : tgC = psC.filterMap (fun q => (mTb.getD q.1 [])[q.2]?) := rfl
theorem inI : mAts tgI psI = true := by decide +kernel
theorem inS : mAts tgS psS = true := by decide +kernel
theorem inV : mAts tgV psV = true := by decide +kernel
theorem inE : mAts tgE psE = true := by decide +kernel
theorem inL : mAts tgL psL = true := by decide +kernel
theorem inX : mAts tgX psX = true := by decide +kernel
theorem inF : mAts tgF psF = true := by decide +kernel
theorem inU : mAts tgU psU = true := by decide +kernel
theorem inK : mAts tgK psK = true := by decide +kernel
theorem inA : mAts tgA psA = true := by decide +kernel
