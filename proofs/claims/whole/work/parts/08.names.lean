/-! names, and the words of the tables that the code needs: printed by wip/gen/names.py -/
def dzGW : List Cond := lw_tbl.filter goodWord
theorem dzGW_in {w : Cond} {i : Nat} (h : tables_1[i]? = some w) (hg : goodWord w = true) : w ∈ dzGW := List.mem_filter.mpr ⟨List.mem_append_right _ (List.mem_of_getElem? h), hg⟩
theorem dzGW_sel {q : MethodName × Nat} (h : q ∈ lw_privs) : Cond.selects q.1.cls q.1 q.1 ∈ dzGW := List.mem_filter.mpr ⟨List.mem_append_left _ (List.mem_map.mpr ⟨q, h, rfl⟩), by rfl⟩
def zc_0 : u_T := fun k => match k with
  | 0 => ("PrimeCertificates", "registers", "[[I", true)
  | 1 => ("PrimeCertificates", "answer", "[I", true)
  | 2 => ("PrimeCertificates", "remainder", "[I", true)
  | 3 => ("PrimeCertificates", "sums", "LPrimeCertificates$Sums;", true)
  | 4 => ("PrimeCertificates", "tape", "LPrimeCertificates$Tape;", true)
  | 5 => ("PrimeCertificates", "lines", "LPrimeCertificates$Lines;", true)
  | 6 => ("PrimeCertificates", "checker", "LPrimeCertificates$Checker;", true)
  | _ => ("PrimeCertificates", "maker", "LPrimeCertificates$Maker;", true)
def zy_0 : Nat → FieldType := fun k => match k with
  | 0 => .array (.array .int)
  | 1 => .array .int
  | 2 => .array .int
  | 3 => .object "PrimeCertificates$Sums"
  | 4 => .object "PrimeCertificates$Tape"
  | 5 => .object "PrimeCertificates$Lines"
  | 6 => .object "PrimeCertificates$Checker"
  | _ => .object "PrimeCertificates$Maker"
theorem zn_0 : ∀ a, a < 8 → ∀ b, b < 8 → a ≠ b → (zc_0 a).2.1 ≠ (zc_0 b).2.1 := by decide +kernel
theorem zp_0 : ∀ k, k < 8 → parseFieldDescriptor (zc_0 k).2.2.1 = some (zy_0 k) := by decide +kernel
def zc_1 : u_T := fun k => match k with
  | 0 => ("PrimeCertificatesModel", "digits", "[I", true)
  | 1 => ("PrimeCertificatesModel", "tape", "[I", true)
  | 2 => ("PrimeCertificatesModel", "size", "I", false)
  | 3 => ("PrimeCertificatesModel", "place", "I", false)
  | 4 => ("PrimeCertificatesModel", "lines", "I", false)
  | 5 => ("PrimeCertificatesModel", "told", "I", false)
  | 6 => ("PrimeCertificatesModel", "cursor", "I", false)
  | 7 => ("PrimeCertificatesModel", "fault", "I", false)
  | 8 => ("PrimeCertificatesModel", "found", "I", false)
  | 9 => ("PrimeCertificatesModel", "foundLines", "[I", true)
  | 10 => ("PrimeCertificatesModel", "foundOften", "[I", true)
  | _ => ("PrimeCertificatesModel", "foundWitnesses", "[I", true)
def zy_1 : Nat → FieldType := fun k => match k with
  | 0 => .array .int
  | 1 => .array .int
  | 2 => .int
  | 3 => .int
  | 4 => .int
  | 5 => .int
  | 6 => .int
  | 7 => .int
  | 8 => .int
  | 9 => .array .int
  | 10 => .array .int
  | _ => .array .int
theorem zn_1 : ∀ a, a < 12 → ∀ b, b < 12 → a ≠ b → (zc_1 a).2.1 ≠ (zc_1 b).2.1 := by decide +kernel
theorem zp_1 : ∀ k, k < 12 → parseFieldDescriptor (zc_1 k).2.2.1 = some (zy_1 k) := by decide +kernel
def zc_2 : u_T := fun k => match k with
  | 0 => ("PrimeCertificates$Checker", "tape", "LPrimeCertificates$Tape;", true)
  | 1 => ("PrimeCertificates$Checker", "lines", "LPrimeCertificates$Lines;", true)
  | 2 => ("PrimeCertificates$Checker", "sums", "LPrimeCertificates$Sums;", true)
  | 3 => ("PrimeCertificates$Checker", "trial", "LPrimeCertificates$Trial;", true)
  | 4 => ("PrimeCertificates$Checker", "factors", "LPrimeCertificates$Factors;", true)
  | 5 => ("PrimeCertificates$Checker", "product", "[I", true)
  | 6 => ("PrimeCertificates$Checker", "next", "I", false)
  | 7 => ("PrimeCertificates$Checker", "taken", "I", false)
  | 8 => ("PrimeCertificates$Checker", "kind", "I", false)
  | 9 => ("PrimeCertificates$Checker", "root", "I", false)
  | 10 => ("PrimeCertificates$Checker", "countPlace", "I", false)
  | 11 => ("PrimeCertificates$Checker", "fault", "I", false)
  | _ => ("PrimeCertificates$Checker", "faultPlace", "I", false)
def zy_2 : Nat → FieldType := fun k => match k with
  | 0 => .object "PrimeCertificates$Tape"
  | 1 => .object "PrimeCertificates$Lines"
  | 2 => .object "PrimeCertificates$Sums"
  | 3 => .object "PrimeCertificates$Trial"
  | 4 => .object "PrimeCertificates$Factors"
  | 5 => .array .int
  | 6 => .int
  | 7 => .int
  | 8 => .int
  | 9 => .int
  | 10 => .int
  | 11 => .int
  | _ => .int
theorem zn_2 : ∀ a, a < 13 → ∀ b, b < 13 → a ≠ b → (zc_2 a).2.1 ≠ (zc_2 b).2.1 := by decide +kernel
theorem zp_2 : ∀ k, k < 13 → parseFieldDescriptor (zc_2 k).2.2.1 = some (zy_2 k) := by decide +kernel
def zc_3 : u_T := fun k => match k with
  | 0 => ("PrimeCertificates$Factors", "lines", "[I", true)
  | 1 => ("PrimeCertificates$Factors", "exponents", "[I", true)
  | 2 => ("PrimeCertificates$Factors", "witnesses", "[I", true)
  | _ => ("PrimeCertificates$Factors", "count", "I", false)
def zy_3 : Nat → FieldType := fun k => match k with
  | 0 => .array .int
  | 1 => .array .int
  | 2 => .array .int
  | _ => .int
theorem zn_3 : ∀ a, a < 4 → ∀ b, b < 4 → a ≠ b → (zc_3 a).2.1 ≠ (zc_3 b).2.1 := by decide +kernel
theorem zp_3 : ∀ k, k < 4 → parseFieldDescriptor (zc_3 k).2.2.1 = some (zy_3 k) := by decide +kernel
def zc_4 : u_T := fun k => match k with
  | 0 => ("PrimeCertificates$Lines", "numbers", "[[I", true)
  | 1 => ("PrimeCertificates$Lines", "ends", "[I", true)
  | 2 => ("PrimeCertificates$Lines", "count", "I", false)
  | _ => ("PrimeCertificates$Lines", "told", "I", false)
def zy_4 : Nat → FieldType := fun k => match k with
  | 0 => .array (.array .int)
  | 1 => .array .int
  | 2 => .int
  | _ => .int
theorem zn_4 : ∀ a, a < 4 → ∀ b, b < 4 → a ≠ b → (zc_4 a).2.1 ≠ (zc_4 b).2.1 := by decide +kernel
theorem zp_4 : ∀ k, k < 4 → parseFieldDescriptor (zc_4 k).2.2.1 = some (zy_4 k) := by decide +kernel
def zc_5 : u_T := fun k => match k with
  | 0 => ("PrimeCertificates$Maker", "tape", "LPrimeCertificates$Tape;", true)
  | 1 => ("PrimeCertificates$Maker", "lines", "LPrimeCertificates$Lines;", true)
  | 2 => ("PrimeCertificates$Maker", "sums", "LPrimeCertificates$Sums;", true)
  | 3 => ("PrimeCertificates$Maker", "trial", "LPrimeCertificates$Trial;", true)
  | 4 => ("PrimeCertificates$Maker", "factors", "LPrimeCertificates$Factors;", true)
  | 5 => ("PrimeCertificates$Maker", "left", "[I", true)
  | 6 => ("PrimeCertificates$Maker", "share", "[I", true)
  | 7 => ("PrimeCertificates$Maker", "rest", "[I", true)
  | 8 => ("PrimeCertificates$Maker", "small", "[I", true)
  | 9 => ("PrimeCertificates$Maker", "newLines", "I", false)
  | _ => ("PrimeCertificates$Maker", "root", "I", false)
def zy_5 : Nat → FieldType := fun k => match k with
  | 0 => .object "PrimeCertificates$Tape"
  | 1 => .object "PrimeCertificates$Lines"
  | 2 => .object "PrimeCertificates$Sums"
  | 3 => .object "PrimeCertificates$Trial"
  | 4 => .object "PrimeCertificates$Factors"
  | 5 => .array .int
  | 6 => .array .int
  | 7 => .array .int
  | 8 => .array .int
  | 9 => .int
  | _ => .int
theorem zn_5 : ∀ a, a < 11 → ∀ b, b < 11 → a ≠ b → (zc_5 a).2.1 ≠ (zc_5 b).2.1 := by decide +kernel
theorem zp_5 : ∀ k, k < 11 → parseFieldDescriptor (zc_5 k).2.2.1 = some (zy_5 k) := by decide +kernel
def zc_6 : u_T := fun k => match k with
  | 0 => ("PrimeCertificates$Sums", "wide", "[I", true)
  | 1 => ("PrimeCertificates$Sums", "goes", "[I", true)
  | 2 => ("PrimeCertificates$Sums", "divisor", "[I", true)
  | 3 => ("PrimeCertificates$Sums", "divisorWords", "I", false)
  | 4 => ("PrimeCertificates$Sums", "shift", "I", false)
  | 5 => ("PrimeCertificates$Sums", "residue", "[I", true)
  | 6 => ("PrimeCertificates$Sums", "power", "[I", true)
  | 7 => ("PrimeCertificates$Sums", "larger", "[I", true)
  | _ => ("PrimeCertificates$Sums", "smaller", "[I", true)
def zy_6 : Nat → FieldType := fun k => match k with
  | 0 => .array .int
  | 1 => .array .int
  | 2 => .array .int
  | 3 => .int
  | 4 => .int
  | 5 => .array .int
  | 6 => .array .int
  | 7 => .array .int
  | _ => .array .int
theorem zn_6 : ∀ a, a < 9 → ∀ b, b < 9 → a ≠ b → (zc_6 a).2.1 ≠ (zc_6 b).2.1 := by decide +kernel
theorem zp_6 : ∀ k, k < 9 → parseFieldDescriptor (zc_6 k).2.2.1 = some (zy_6 k) := by decide +kernel
def zc_7 : u_T := fun k => match k with
  | 0 => ("PrimeCertificates$Tape", "ints", "[I", true)
  | _ => ("PrimeCertificates$Tape", "size", "I", false)
def zy_7 : Nat → FieldType := fun k => match k with
  | 0 => .array .int
  | _ => .int
theorem zn_7 : ∀ a, a < 2 → ∀ b, b < 2 → a ≠ b → (zc_7 a).2.1 ≠ (zc_7 b).2.1 := by decide +kernel
theorem zp_7 : ∀ k, k < 2 → parseFieldDescriptor (zc_7 k).2.2.1 = some (zy_7 k) := by decide +kernel
def zc_8 : u_T := fun k => match k with
  | 0 => ("PrimeCertificates$Trial", "sums", "LPrimeCertificates$Sums;", true)
  | 1 => ("PrimeCertificates$Trial", "number", "[I", true)
  | 2 => ("PrimeCertificates$Trial", "oneLess", "[I", true)
  | 3 => ("PrimeCertificates$Trial", "one", "[I", true)
  | 4 => ("PrimeCertificates$Trial", "base", "[I", true)
  | 5 => ("PrimeCertificates$Trial", "exponent", "[I", true)
  | _ => ("PrimeCertificates$Trial", "power", "[I", true)
def zy_8 : Nat → FieldType := fun k => match k with
  | 0 => .object "PrimeCertificates$Sums"
  | 1 => .array .int
  | 2 => .array .int
  | 3 => .array .int
  | 4 => .array .int
  | 5 => .array .int
  | _ => .array .int
theorem zn_8 : ∀ a, a < 7 → ∀ b, b < 7 → a ≠ b → (zc_8 a).2.1 ≠ (zc_8 b).2.1 := by decide +kernel
theorem zp_8 : ∀ k, k < 7 → parseFieldDescriptor (zc_8 k).2.2.1 = some (zy_8 k) := by decide +kernel
abbrev zCl : List vw_C := [("PrimeCertificates", zc_0, 8), ("PrimeCertificatesModel", zc_1, 12), ("PrimeCertificates$Checker", zc_2, 13), ("PrimeCertificates$Factors", zc_3, 4), ("PrimeCertificates$Lines", zc_4, 4), ("PrimeCertificates$Maker", zc_5, 11), ("PrimeCertificates$Sums", zc_6, 9), ("PrimeCertificates$Tape", zc_7, 2), ("PrimeCertificates$Trial", zc_8, 7)]
def zTy (ci : Nat) : Nat → FieldType := [zy_0, zy_1, zy_2, zy_3, zy_4, zy_5, zy_6, zy_7, zy_8].getD ci (fun _ => .int)
def zt_y : List MethodName := [⟨"PrimeCertificates$Sums", "<init>", "()V"⟩, ⟨"PrimeCertificates$Tape", "<init>", "()V"⟩, ⟨"PrimeCertificates$Lines", "<init>", "()V"⟩, ⟨"PrimeCertificates$Trial", "<init>", "(LPrimeCertificates$Sums;)V"⟩, ⟨"PrimeCertificates$Factors", "<init>", "()V"⟩, ⟨"PrimeCertificates$Checker", "<init>", "(LPrimeCertificates$Tape;LPrimeCertificates$Lines;LPrimeCertificates$Sums;LPrimeCertificates$Trial;)V"⟩, ⟨"PrimeCertificates$Maker", "<init>", "(LPrimeCertificates$Tape;LPrimeCertificates$Lines;LPrimeCertificates$Sums;LPrimeCertificates$Trial;)V"⟩, ⟨"PrimeCertificates", "<init>", "()V"⟩, ⟨"PrimeCertificates", "isRegister", "(I)Z"⟩, ⟨"PrimeCertificates", "isWord", "(I)Z"⟩, ⟨"PrimeCertificates", "put", "(III)Z"⟩, ⟨"PrimeCertificates", "get", "(II)I"⟩, ⟨"PrimeCertificates", "areRegisters", "(III)Z"⟩, ⟨"PrimeCertificates$Sums", "sum", "([I[I[I)Z"⟩, ⟨"PrimeCertificates$Sums", "copy", "([I[I)V"⟩, ⟨"PrimeCertificates", "keepAnswer", "(I)I"⟩, ⟨"PrimeCertificates", "add", "(III)I"⟩, ⟨"PrimeCertificates$Sums", "difference", "([I[I[I)Z"⟩, ⟨"PrimeCertificates", "subtract", "(III)I"⟩, ⟨"PrimeCertificates$Sums", "usedWords", "([I)I"⟩, ⟨"java/util/Arrays", "fill", "([II)V"⟩, ⟨"PrimeCertificates$Sums", "setWideToProduct", "([I[I)V"⟩, ⟨"PrimeCertificates$Sums", "product", "([I[I[I)Z"⟩, ⟨"PrimeCertificates", "multiply", "(III)I"⟩, ⟨"PrimeCertificates$Sums", "isZero", "([I)Z"⟩, ⟨"PrimeCertificates$Sums", "leadingZeros", "(I)I"⟩, ⟨"PrimeCertificates$Sums", "shiftUp", "([II[I)V"⟩, ⟨"PrimeCertificates$Sums", "setDivisor", "([I)V"⟩, ⟨"PrimeCertificates$Sums", "setWide", "([I)V"⟩, ⟨"PrimeCertificates$Sums", "isAbove", "(JJ)Z"⟩, ⟨"PrimeCertificates$Sums", "guessTimes", "(I)J"⟩, ⟨"PrimeCertificates$Sums", "takeAway", "(JI)Z"⟩, ⟨"PrimeCertificates$Sums", "giveBack", "(I)V"⟩, ⟨"PrimeCertificates$Sums", "shiftWideDown", "()V"⟩, ⟨"PrimeCertificates$Sums", "reduceWide", "()V"⟩, ⟨"PrimeCertificates$Sums", "quotient", "([I[I[I[I)V"⟩, ⟨"PrimeCertificates", "divide", "(IIII)I"⟩, ⟨"PrimeCertificates$Sums", "setSmall", "([II)V"⟩, ⟨"PrimeCertificates$Sums", "powerModulo", "([I[I[I[I)V"⟩, ⟨"PrimeCertificates", "power", "(IIII)I"⟩, ⟨"PrimeCertificates$Sums", "greatestDivisor", "([I[I[I)V"⟩, ⟨"PrimeCertificates", "common", "(III)I"⟩, ⟨"PrimeCertificates$Sums", "order", "([I[I)I"⟩, ⟨"PrimeCertificates", "compare", "(II)I"⟩, ⟨"PrimeCertificates$Tape", "room", "()I"⟩, ⟨"PrimeCertificates$Tape", "append", "(I)V"⟩, ⟨"PrimeCertificates", "say", "(I)I"⟩, ⟨"PrimeCertificates$Lines", "forgetBehind", "(I)V"⟩, ⟨"PrimeCertificates", "cut", "(I)Z"⟩, ⟨"PrimeCertificates", "length", "()I"⟩, ⟨"PrimeCertificates", "at", "(I)I"⟩, ⟨"PrimeCertificates$Lines", "end", "()I"⟩, ⟨"PrimeCertificates$Checker", "refuse", "(II)Z"⟩, ⟨"PrimeCertificates$Checker", "take", "()Z"⟩, ⟨"PrimeCertificates", "isSmallPrime", "(I)Z"⟩, ⟨"PrimeCertificates$Checker", "refuseTaken", "(I)Z"⟩, ⟨"PrimeCertificates$Checker", "readSmallPrime", "([I)Z"⟩, ⟨"PrimeCertificates$Sums", "isAtMost", "([II)Z"⟩, ⟨"PrimeCertificates$Checker", "readNumber", "([I)Z"⟩, ⟨"PrimeCertificates$Checker", "isWitness", "(I[I)Z"⟩, ⟨"PrimeCertificates$Checker", "readRoot", "([I)Z"⟩, ⟨"PrimeCertificates$Checker", "factorNumber", "(I)[I"⟩, ⟨"PrimeCertificates$Checker", "readFactorLine", "(II)Z"⟩, ⟨"PrimeCertificates$Checker", "readExponent", "(I)Z"⟩, ⟨"PrimeCertificates$Checker", "readFactors", "(I)Z"⟩, ⟨"PrimeCertificates$Checker", "readLine", "(I)Z"⟩, ⟨"PrimeCertificates$Trial", "begin", "([I)V"⟩, ⟨"PrimeCertificates$Checker", "multiplyFactors", "()Z"⟩, ⟨"PrimeCertificates$Sums", "divides", "([I[I)Z"⟩, ⟨"PrimeCertificates$Sums", "squareIsAbove", "([I[I)Z"⟩, ⟨"PrimeCertificates$Checker", "productHolds", "()Z"⟩, ⟨"PrimeCertificates$Sums", "isOne", "([I)Z"⟩, ⟨"PrimeCertificates$Trial", "closes", "(I)Z"⟩, ⟨"PrimeCertificates$Trial", "parts", "(I[I)Z"⟩, ⟨"PrimeCertificates$Checker", "factorPlace", "(I)I"⟩, ⟨"PrimeCertificates$Checker", "rootHolds", "()Z"⟩, ⟨"PrimeCertificates$Trial", "partsEverywhere", "(I[I)Z"⟩, ⟨"PrimeCertificates$Checker", "witnessesHold", "()Z"⟩, ⟨"PrimeCertificates$Lines", "keepNext", "(I)V"⟩, ⟨"PrimeCertificates$Checker", "findFault", "()I"⟩, ⟨"PrimeCertificates", "check", "()I"⟩, ⟨"PrimeCertificates", "place", "()I"⟩, ⟨"PrimeCertificates", "tell", "(II)Z"⟩, ⟨"PrimeCertificates$Lines", "lineOf", "([I)I"⟩, ⟨"PrimeCertificates$Maker", "planSmallLine", "([I)Z"⟩, ⟨"PrimeCertificates$Maker", "hasRoom", "(I)Z"⟩, ⟨"PrimeCertificates$Maker", "writeSmallLines", "()I"⟩, ⟨"PrimeCertificates$Maker", "divideOut", "([I)I"⟩, ⟨"PrimeCertificates$Maker", "factorNumber", "(I)[I"⟩, ⟨"PrimeCertificates$Maker", "insertFactor", "(II)Z"⟩, ⟨"PrimeCertificates$Maker", "insertPrime", "(I)Z"⟩, ⟨"PrimeCertificates$Maker", "findFactors", "()Z"⟩, ⟨"PrimeCertificates$Maker", "lastLineInts", "(Z)I"⟩, ⟨"PrimeCertificates$Maker", "factorsSuffice", "()Z"⟩, ⟨"PrimeCertificates$Maker", "findRoot", "()Z"⟩, ⟨"PrimeCertificates$Maker", "findWitnesses", "()Z"⟩, ⟨"PrimeCertificates$Maker", "writeLastLine", "(Z)I"⟩, ⟨"PrimeCertificates$Maker", "lineFor", "([I)I"⟩, ⟨"PrimeCertificates", "prove", "(I)I"⟩, ⟨"PrimeCertificatesModel", "set", "(IJ)V"⟩, ⟨"PrimeCertificatesModel", "<init>", "()V"⟩, ⟨"PrimeCertificatesModel", "copy", "(II)V"⟩, ⟨"PrimeCertificatesModel", "order", "(II)I"⟩, ⟨"PrimeCertificatesModel", "lengthOf", "(I)I"⟩, ⟨"PrimeCertificatesModel", "isZero", "(I)Z"⟩, ⟨"PrimeCertificatesModel", "raise", "(II)V"⟩, ⟨"PrimeCertificatesModel", "lower", "(II)V"⟩, ⟨"PrimeCertificatesModel", "times", "(III)V"⟩, ⟨"PrimeCertificatesModel", "guess", "(IIII)I"⟩, ⟨"PrimeCertificatesModel", "away", "(IIIII)V"⟩, ⟨"PrimeCertificatesModel", "isOver", "(IIII)Z"⟩, ⟨"PrimeCertificatesModel", "part", "(IIII)V"⟩, ⟨"PrimeCertificatesModel", "bit", "(II)I"⟩, ⟨"PrimeCertificatesModel", "raiseTo", "(IIII)V"⟩, ⟨"PrimeCertificatesModel", "divisor", "(III)V"⟩, ⟨"PrimeCertificatesModel", "fits", "(I)Z"⟩, ⟨"PrimeCertificatesModel", "isOne", "(I)Z"⟩, ⟨"PrimeCertificatesModel", "isRegister", "(I)Z"⟩, ⟨"PrimeCertificatesModel", "put", "(III)Z"⟩, ⟨"PrimeCertificatesModel", "get", "(II)I"⟩, ⟨"PrimeCertificatesModel", "are", "(III)Z"⟩, ⟨"PrimeCertificatesModel", "give", "(II)I"⟩, ⟨"PrimeCertificatesModel", "add", "(III)I"⟩, ⟨"PrimeCertificatesModel", "subtract", "(III)I"⟩, ⟨"PrimeCertificatesModel", "multiply", "(III)I"⟩, ⟨"PrimeCertificatesModel", "divide", "(IIII)I"⟩, ⟨"PrimeCertificatesModel", "power", "(IIII)I"⟩, ⟨"PrimeCertificatesModel", "common", "(III)I"⟩, ⟨"PrimeCertificatesModel", "compare", "(II)I"⟩, ⟨"PrimeCertificatesModel", "say", "(I)I"⟩, ⟨"PrimeCertificatesModel", "cut", "(I)Z"⟩, ⟨"PrimeCertificatesModel", "length", "()I"⟩, ⟨"PrimeCertificatesModel", "at", "(I)I"⟩, ⟨"PrimeCertificatesModel", "fail", "(II)V"⟩, ⟨"PrimeCertificatesModel", "isGood", "()Z"⟩, ⟨"PrimeCertificatesModel", "next", "()I"⟩, ⟨"PrimeCertificatesModel", "nextIn", "(II)I"⟩, ⟨"PrimeCertificatesModel", "isSmallPrime", "(I)Z"⟩, ⟨"PrimeCertificatesModel", "lineOne", "()V"⟩, ⟨"PrimeCertificatesModel", "number", "()V"⟩, ⟨"PrimeCertificatesModel", "witness", "(I)V"⟩, ⟨"PrimeCertificatesModel", "factors", "(I)V"⟩, ⟨"PrimeCertificatesModel", "product", "(II)Z"⟩, ⟨"PrimeCertificatesModel", "isWhole", "()Z"⟩, ⟨"PrimeCertificatesModel", "isRight", "(IZ)Z"⟩, ⟨"PrimeCertificatesModel", "lineTwo", "()V"⟩, ⟨"PrimeCertificatesModel", "lineThree", "()V"⟩, ⟨"PrimeCertificatesModel", "check", "()I"⟩, ⟨"PrimeCertificatesModel", "place", "()I"⟩, ⟨"PrimeCertificatesModel", "tell", "(II)Z"⟩, ⟨"PrimeCertificatesModel", "lineOf", "(I)I"⟩, ⟨"PrimeCertificatesModel", "sayOne", "(I)Z"⟩, ⟨"PrimeCertificatesModel", "often", "(I)I"⟩, ⟨"PrimeCertificatesModel", "sort", "(I)V"⟩, ⟨"PrimeCertificatesModel", "find", "()Z"⟩, ⟨"PrimeCertificatesModel", "wholeWitness", "()I"⟩, ⟨"PrimeCertificatesModel", "partWitnesses", "()Z"⟩, ⟨"PrimeCertificatesModel", "sayLine", "(II)Z"⟩, ⟨"PrimeCertificatesModel", "make", "()Z"⟩, ⟨"PrimeCertificatesModel", "prove", "(I)I"⟩, ⟨"PrimeCertificatesLaw", "law", "([I)Z"⟩]
def zt_by : List ByteArray := [prog_6_method_1_code, prog_7_method_1_code, prog_4_method_1_code, prog_8_method_1_code, prog_3_method_1_code, prog_2_method_1_code, prog_5_method_1_code, prog_1_method_1_code, prog_1_method_19_code, prog_1_method_20_code, prog_1_method_2_code, prog_1_method_3_code, prog_1_method_21_code, prog_6_method_9_code, prog_6_method_6_code, prog_1_method_22_code, prog_1_method_4_code, prog_6_method_10_code, prog_1_method_5_code, prog_6_method_2_code, prog_13_method_103_code, prog_6_method_18_code, prog_6_method_11_code, prog_1_method_6_code, prog_6_method_3_code, prog_6_method_20_code, prog_6_method_22_code, prog_6_method_19_code, prog_6_method_17_code, prog_6_method_25_code, prog_6_method_24_code, prog_6_method_26_code, prog_6_method_27_code, prog_6_method_23_code, prog_6_method_21_code, prog_6_method_13_code, prog_1_method_7_code, prog_6_method_7_code, prog_6_method_15_code, prog_1_method_8_code, prog_6_method_16_code, prog_1_method_9_code, prog_6_method_8_code, prog_1_method_10_code, prog_7_method_2_code, prog_7_method_3_code, prog_1_method_11_code, prog_4_method_4_code, prog_1_method_12_code, prog_1_method_13_code, prog_1_method_14_code, prog_4_method_2_code, prog_2_method_3_code, prog_2_method_5_code, prog_1_method_23_code, prog_2_method_4_code, prog_2_method_7_code, prog_6_method_5_code, prog_2_method_8_code, prog_2_method_13_code, prog_2_method_9_code, prog_2_method_14_code, prog_2_method_11_code, prog_2_method_12_code, prog_2_method_10_code, prog_2_method_6_code, prog_8_method_2_code, prog_2_method_17_code, prog_6_method_14_code, prog_6_method_12_code, prog_2_method_16_code, prog_6_method_4_code, prog_8_method_3_code, prog_8_method_4_code, prog_2_method_15_code, prog_2_method_18_code, prog_8_method_5_code, prog_2_method_19_code, prog_4_method_3_code, prog_2_method_2_code, prog_1_method_15_code, prog_1_method_16_code, prog_1_method_17_code, prog_4_method_5_code, prog_5_method_8_code, prog_5_method_9_code, prog_5_method_14_code, prog_5_method_5_code, prog_5_method_7_code, prog_5_method_6_code, prog_5_method_4_code, prog_5_method_3_code, prog_5_method_10_code, prog_5_method_11_code, prog_5_method_12_code, prog_5_method_13_code, prog_5_method_15_code, prog_5_method_2_code, prog_1_method_18_code, prog_10_method_2_code, prog_10_method_1_code, prog_10_method_3_code, prog_10_method_4_code, prog_10_method_6_code, prog_10_method_5_code, prog_10_method_7_code, prog_10_method_8_code, prog_10_method_9_code, prog_10_method_11_code, prog_10_method_12_code, prog_10_method_13_code, prog_10_method_10_code, prog_10_method_14_code, prog_10_method_15_code, prog_10_method_16_code, prog_10_method_17_code, prog_10_method_18_code, prog_10_method_19_code, prog_10_method_20_code, prog_10_method_21_code, prog_10_method_22_code, prog_10_method_23_code, prog_10_method_24_code, prog_10_method_25_code, prog_10_method_26_code, prog_10_method_27_code, prog_10_method_28_code, prog_10_method_29_code, prog_10_method_30_code, prog_10_method_31_code, prog_10_method_32_code, prog_10_method_33_code, prog_10_method_34_code, prog_10_method_35_code, prog_10_method_36_code, prog_10_method_37_code, prog_10_method_38_code, prog_10_method_39_code, prog_10_method_40_code, prog_10_method_41_code, prog_10_method_42_code, prog_10_method_43_code, prog_10_method_44_code, prog_10_method_45_code, prog_10_method_46_code, prog_10_method_47_code, prog_10_method_48_code, prog_10_method_49_code, prog_10_method_50_code, prog_10_method_51_code, prog_10_method_52_code, prog_10_method_53_code, prog_10_method_54_code, prog_10_method_56_code, prog_10_method_55_code, prog_10_method_57_code, prog_10_method_58_code, prog_10_method_59_code, prog_10_method_60_code, prog_10_method_61_code, code]
def zt_rt : List (Option FieldType) := [none, none, none, none, none, none, none, none, some (.boolean), some (.boolean), some (.boolean), some (.int), some (.boolean), some (.boolean), none, some (.int), some (.int), some (.boolean), some (.int), some (.int), none, none, some (.boolean), some (.int), some (.boolean), some (.int), none, none, none, some (.boolean), some (.long), some (.boolean), none, none, none, none, some (.int), none, none, some (.int), none, some (.int), some (.int), some (.int), some (.int), none, some (.int), none, some (.boolean), some (.int), some (.int), some (.int), some (.boolean), some (.boolean), some (.boolean), some (.boolean), some (.boolean), some (.boolean), some (.boolean), some (.boolean), some (.boolean), some (.array .int), some (.boolean), some (.boolean), some (.boolean), some (.boolean), none, some (.boolean), some (.boolean), some (.boolean), some (.boolean), some (.boolean), some (.boolean), some (.boolean), some (.int), some (.boolean), some (.boolean), some (.boolean), none, some (.int), some (.int), some (.int), some (.boolean), some (.int), some (.boolean), some (.boolean), some (.int), some (.int), some (.array .int), some (.boolean), some (.boolean), some (.boolean), some (.int), some (.boolean), some (.boolean), some (.boolean), some (.int), some (.int), some (.int), none, none, none, some (.int), some (.int), some (.boolean), none, none, none, some (.int), none, some (.boolean), none, some (.int), none, none, some (.boolean), some (.boolean), some (.boolean), some (.boolean), some (.int), some (.boolean), some (.int), some (.int), some (.int), some (.int), some (.int), some (.int), some (.int), some (.int), some (.int), some (.boolean), some (.int), some (.int), none, some (.boolean), some (.int), some (.int), some (.boolean), none, none, none, none, some (.boolean), some (.boolean), some (.boolean), none, none, some (.int), some (.int), some (.boolean), some (.int), some (.boolean), some (.int), none, some (.boolean), some (.int), some (.boolean), some (.boolean), some (.boolean), some (.int), some (.boolean)]
def dzY (mid : Nat) : MethodName := zt_y.getD mid ⟨"", "", ""⟩
def dzBy (mid : Nat) : ByteArray := zt_by.getD mid code
def dzRt (mid : Nat) : Option FieldType := zt_rt.getD mid none
def dzN : Nat := 161
def zt_cn : List String := ["PrimeCertificates", "PrimeCertificatesModel", "PrimeCertificates$Checker", "PrimeCertificates$Factors", "PrimeCertificates$Lines", "PrimeCertificates$Maker", "PrimeCertificates$Sums", "PrimeCertificates$Tape", "PrimeCertificates$Trial", "PrimeCertificatesLaw", "java/util/Arrays"]
def dzCn (k : Nat) : String := zt_cn.getD k ""
def zt_oc : List Nat := [6, 7, 4, 8, 3, 2, 5, 0, 0, 0, 0, 0, 0, 6, 6, 0, 0, 6, 0, 6, 10, 6, 6, 0, 6, 6, 6, 6, 6, 6, 6, 6, 6, 6, 6, 6, 0, 6, 6, 0, 6, 0, 6, 0, 7, 7, 0, 4, 0, 0, 0, 4, 2, 2, 0, 2, 2, 6, 2, 2, 2, 2, 2, 2, 2, 2, 8, 2, 6, 6, 2, 6, 8, 8, 2, 2, 8, 2, 4, 2, 0, 0, 0, 4, 5, 5, 5, 5, 5, 5, 5, 5, 5, 5, 5, 5, 5, 5, 0, 1, 1, 1, 1, 1, 1, 1, 1, 1, 1, 1, 1, 1, 1, 1, 1, 1, 1, 1, 1, 1, 1, 1, 1, 1, 1, 1, 1, 1, 1, 1, 1, 1, 1, 1, 1, 1, 1, 1, 1, 1, 1, 1, 1, 1, 1, 1, 1, 1, 1, 1, 1, 1, 1, 1, 1, 1, 1, 1, 1, 1, 9]
/-- the number of the class that declares a method -/
def dzOc (mid : Nat) : Nat := zt_oc.getD mid 0
theorem zw_252 : Cond.fieldLink "PrimeCertificates" 11 "PrimeCertificates" "registers" "[[I" ∈ dzGW := dzGW_in (i := 252) (by decide +kernel) (by rfl)
theorem zw_253 : Cond.fieldLink "PrimeCertificates" 14 "PrimeCertificates" "answer" "[I" ∈ dzGW := dzGW_in (i := 253) (by decide +kernel) (by rfl)
theorem zw_254 : Cond.fieldLink "PrimeCertificates" 18 "PrimeCertificates" "remainder" "[I" ∈ dzGW := dzGW_in (i := 254) (by decide +kernel) (by rfl)
theorem zw_255 : Cond.fieldLink "PrimeCertificates" 24 "PrimeCertificates" "sums" "LPrimeCertificates$Sums;" ∈ dzGW := dzGW_in (i := 255) (by decide +kernel) (by rfl)
theorem zw_256 : Cond.fieldLink "PrimeCertificates" 31 "PrimeCertificates" "tape" "LPrimeCertificates$Tape;" ∈ dzGW := dzGW_in (i := 256) (by decide +kernel) (by rfl)
theorem zw_257 : Cond.fieldLink "PrimeCertificates" 38 "PrimeCertificates" "lines" "LPrimeCertificates$Lines;" ∈ dzGW := dzGW_in (i := 257) (by decide +kernel) (by rfl)
theorem zw_258 : Cond.fieldLink "PrimeCertificates" 52 "PrimeCertificates" "checker" "LPrimeCertificates$Checker;" ∈ dzGW := dzGW_in (i := 258) (by decide +kernel) (by rfl)
theorem zw_259 : Cond.fieldLink "PrimeCertificates" 59 "PrimeCertificates" "maker" "LPrimeCertificates$Maker;" ∈ dzGW := dzGW_in (i := 259) (by decide +kernel) (by rfl)
theorem zw_69 : Cond.fieldLink "PrimeCertificates" 119 "PrimeCertificates$Tape" "size" "I" ∈ dzGW := dzGW_in (i := 69) (by decide +kernel) (by rfl)
theorem zw_66 : Cond.fieldLink "PrimeCertificates" 126 "PrimeCertificates$Tape" "ints" "[I" ∈ dzGW := dzGW_in (i := 66) (by decide +kernel) (by rfl)
theorem zw_91 : Cond.fieldLink "PrimeCertificates" 132 "PrimeCertificates$Lines" "count" "I" ∈ dzGW := dzGW_in (i := 91) (by decide +kernel) (by rfl)
theorem zw_182 : Cond.fieldLink "PrimeCertificates" 135 "PrimeCertificates$Checker" "faultPlace" "I" ∈ dzGW := dzGW_in (i := 182) (by decide +kernel) (by rfl)
theorem zw_94 : Cond.fieldLink "PrimeCertificates" 138 "PrimeCertificates$Lines" "told" "I" ∈ dzGW := dzGW_in (i := 94) (by decide +kernel) (by rfl)
theorem zw_86 : Cond.fieldLink "PrimeCertificates" 141 "PrimeCertificates$Lines" "numbers" "[[I" ∈ dzGW := dzGW_in (i := 86) (by decide +kernel) (by rfl)
theorem zw_675 : Cond.fieldLink "PrimeCertificatesModel" 7 "PrimeCertificatesModel" "digits" "[I" ∈ dzGW := dzGW_in (i := 675) (by decide +kernel) (by rfl)
theorem zw_676 : Cond.fieldLink "PrimeCertificatesModel" 13 "PrimeCertificatesModel" "tape" "[I" ∈ dzGW := dzGW_in (i := 676) (by decide +kernel) (by rfl)
theorem zw_678 : Cond.fieldLink "PrimeCertificatesModel" 16 "PrimeCertificatesModel" "place" "I" ∈ dzGW := dzGW_in (i := 678) (by decide +kernel) (by rfl)
theorem zw_684 : Cond.fieldLink "PrimeCertificatesModel" 20 "PrimeCertificatesModel" "foundLines" "[I" ∈ dzGW := dzGW_in (i := 684) (by decide +kernel) (by rfl)
theorem zw_685 : Cond.fieldLink "PrimeCertificatesModel" 23 "PrimeCertificatesModel" "foundOften" "[I" ∈ dzGW := dzGW_in (i := 685) (by decide +kernel) (by rfl)
theorem zw_686 : Cond.fieldLink "PrimeCertificatesModel" 26 "PrimeCertificatesModel" "foundWitnesses" "[I" ∈ dzGW := dzGW_in (i := 686) (by decide +kernel) (by rfl)
theorem zw_677 : Cond.fieldLink "PrimeCertificatesModel" 100 "PrimeCertificatesModel" "size" "I" ∈ dzGW := dzGW_in (i := 677) (by decide +kernel) (by rfl)
theorem zw_682 : Cond.fieldLink "PrimeCertificatesModel" 103 "PrimeCertificatesModel" "fault" "I" ∈ dzGW := dzGW_in (i := 682) (by decide +kernel) (by rfl)
theorem zw_681 : Cond.fieldLink "PrimeCertificatesModel" 110 "PrimeCertificatesModel" "cursor" "I" ∈ dzGW := dzGW_in (i := 681) (by decide +kernel) (by rfl)
theorem zw_679 : Cond.fieldLink "PrimeCertificatesModel" 123 "PrimeCertificatesModel" "lines" "I" ∈ dzGW := dzGW_in (i := 679) (by decide +kernel) (by rfl)
theorem zw_680 : Cond.fieldLink "PrimeCertificatesModel" 155 "PrimeCertificatesModel" "told" "I" ∈ dzGW := dzGW_in (i := 680) (by decide +kernel) (by rfl)
theorem zw_683 : Cond.fieldLink "PrimeCertificatesModel" 170 "PrimeCertificatesModel" "found" "I" ∈ dzGW := dzGW_in (i := 683) (by decide +kernel) (by rfl)
theorem zw_173 : Cond.fieldLink "PrimeCertificates$Checker" 12 "PrimeCertificates$Checker" "factors" "LPrimeCertificates$Factors;" ∈ dzGW := dzGW_in (i := 173) (by decide +kernel) (by rfl)
theorem zw_174 : Cond.fieldLink "PrimeCertificates$Checker" 18 "PrimeCertificates$Checker" "product" "[I" ∈ dzGW := dzGW_in (i := 174) (by decide +kernel) (by rfl)
theorem zw_175 : Cond.fieldLink "PrimeCertificates$Checker" 22 "PrimeCertificates$Checker" "next" "I" ∈ dzGW := dzGW_in (i := 175) (by decide +kernel) (by rfl)
theorem zw_176 : Cond.fieldLink "PrimeCertificates$Checker" 26 "PrimeCertificates$Checker" "taken" "I" ∈ dzGW := dzGW_in (i := 176) (by decide +kernel) (by rfl)
theorem zw_177 : Cond.fieldLink "PrimeCertificates$Checker" 29 "PrimeCertificates$Checker" "kind" "I" ∈ dzGW := dzGW_in (i := 177) (by decide +kernel) (by rfl)
theorem zw_178 : Cond.fieldLink "PrimeCertificates$Checker" 32 "PrimeCertificates$Checker" "root" "I" ∈ dzGW := dzGW_in (i := 178) (by decide +kernel) (by rfl)
theorem zw_179 : Cond.fieldLink "PrimeCertificates$Checker" 35 "PrimeCertificates$Checker" "countPlace" "I" ∈ dzGW := dzGW_in (i := 179) (by decide +kernel) (by rfl)
theorem zw_180 : Cond.fieldLink "PrimeCertificates$Checker" 38 "PrimeCertificates$Checker" "fault" "I" ∈ dzGW := dzGW_in (i := 180) (by decide +kernel) (by rfl)
theorem zw_181 : Cond.fieldLink "PrimeCertificates$Checker" 41 "PrimeCertificates$Checker" "faultPlace" "I" ∈ dzGW := dzGW_in (i := 181) (by decide +kernel) (by rfl)
theorem zw_169 : Cond.fieldLink "PrimeCertificates$Checker" 44 "PrimeCertificates$Checker" "tape" "LPrimeCertificates$Tape;" ∈ dzGW := dzGW_in (i := 169) (by decide +kernel) (by rfl)
theorem zw_170 : Cond.fieldLink "PrimeCertificates$Checker" 48 "PrimeCertificates$Checker" "lines" "LPrimeCertificates$Lines;" ∈ dzGW := dzGW_in (i := 170) (by decide +kernel) (by rfl)
theorem zw_171 : Cond.fieldLink "PrimeCertificates$Checker" 52 "PrimeCertificates$Checker" "sums" "LPrimeCertificates$Sums;" ∈ dzGW := dzGW_in (i := 171) (by decide +kernel) (by rfl)
theorem zw_172 : Cond.fieldLink "PrimeCertificates$Checker" 56 "PrimeCertificates$Checker" "trial" "LPrimeCertificates$Trial;" ∈ dzGW := dzGW_in (i := 172) (by decide +kernel) (by rfl)
theorem zw_89 : Cond.fieldLink "PrimeCertificates$Checker" 66 "PrimeCertificates$Lines" "count" "I" ∈ dzGW := dzGW_in (i := 89) (by decide +kernel) (by rfl)
theorem zw_68 : Cond.fieldLink "PrimeCertificates$Checker" 69 "PrimeCertificates$Tape" "size" "I" ∈ dzGW := dzGW_in (i := 68) (by decide +kernel) (by rfl)
theorem zw_84 : Cond.fieldLink "PrimeCertificates$Checker" 78 "PrimeCertificates$Lines" "numbers" "[[I" ∈ dzGW := dzGW_in (i := 84) (by decide +kernel) (by rfl)
theorem zw_93 : Cond.fieldLink "PrimeCertificates$Checker" 106 "PrimeCertificates$Lines" "told" "I" ∈ dzGW := dzGW_in (i := 93) (by decide +kernel) (by rfl)
theorem zw_65 : Cond.fieldLink "PrimeCertificates$Checker" 109 "PrimeCertificates$Tape" "ints" "[I" ∈ dzGW := dzGW_in (i := 65) (by decide +kernel) (by rfl)
theorem zw_159 : Cond.fieldLink "PrimeCertificates$Checker" 154 "PrimeCertificates$Factors" "count" "I" ∈ dzGW := dzGW_in (i := 159) (by decide +kernel) (by rfl)
theorem zw_155 : Cond.fieldLink "PrimeCertificates$Checker" 161 "PrimeCertificates$Factors" "witnesses" "[I" ∈ dzGW := dzGW_in (i := 155) (by decide +kernel) (by rfl)
theorem zw_150 : Cond.fieldLink "PrimeCertificates$Checker" 164 "PrimeCertificates$Factors" "lines" "[I" ∈ dzGW := dzGW_in (i := 150) (by decide +kernel) (by rfl)
theorem zw_153 : Cond.fieldLink "PrimeCertificates$Checker" 174 "PrimeCertificates$Factors" "exponents" "[I" ∈ dzGW := dzGW_in (i := 153) (by decide +kernel) (by rfl)
theorem zw_116 : Cond.fieldLink "PrimeCertificates$Checker" 180 "PrimeCertificates$Trial" "oneLess" "[I" ∈ dzGW := dzGW_in (i := 116) (by decide +kernel) (by rfl)
theorem zw_113 : Cond.fieldLink "PrimeCertificates$Checker" 187 "PrimeCertificates$Trial" "number" "[I" ∈ dzGW := dzGW_in (i := 113) (by decide +kernel) (by rfl)
theorem zw_148 : Cond.fieldLink "PrimeCertificates$Factors" 9 "PrimeCertificates$Factors" "lines" "[I" ∈ dzGW := dzGW_in (i := 148) (by decide +kernel) (by rfl)
theorem zw_151 : Cond.fieldLink "PrimeCertificates$Factors" 15 "PrimeCertificates$Factors" "exponents" "[I" ∈ dzGW := dzGW_in (i := 151) (by decide +kernel) (by rfl)
theorem zw_154 : Cond.fieldLink "PrimeCertificates$Factors" 18 "PrimeCertificates$Factors" "witnesses" "[I" ∈ dzGW := dzGW_in (i := 154) (by decide +kernel) (by rfl)
theorem zw_157 : Cond.fieldLink "PrimeCertificates$Factors" 21 "PrimeCertificates$Factors" "count" "I" ∈ dzGW := dzGW_in (i := 157) (by decide +kernel) (by rfl)
theorem zw_83 : Cond.fieldLink "PrimeCertificates$Lines" 11 "PrimeCertificates$Lines" "numbers" "[[I" ∈ dzGW := dzGW_in (i := 83) (by decide +kernel) (by rfl)
theorem zw_87 : Cond.fieldLink "PrimeCertificates$Lines" 16 "PrimeCertificates$Lines" "ends" "[I" ∈ dzGW := dzGW_in (i := 87) (by decide +kernel) (by rfl)
theorem zw_88 : Cond.fieldLink "PrimeCertificates$Lines" 20 "PrimeCertificates$Lines" "count" "I" ∈ dzGW := dzGW_in (i := 88) (by decide +kernel) (by rfl)
theorem zw_92 : Cond.fieldLink "PrimeCertificates$Lines" 24 "PrimeCertificates$Lines" "told" "I" ∈ dzGW := dzGW_in (i := 92) (by decide +kernel) (by rfl)
theorem zw_222 : Cond.fieldLink "PrimeCertificates$Maker" 12 "PrimeCertificates$Maker" "factors" "LPrimeCertificates$Factors;" ∈ dzGW := dzGW_in (i := 222) (by decide +kernel) (by rfl)
theorem zw_223 : Cond.fieldLink "PrimeCertificates$Maker" 18 "PrimeCertificates$Maker" "left" "[I" ∈ dzGW := dzGW_in (i := 223) (by decide +kernel) (by rfl)
theorem zw_224 : Cond.fieldLink "PrimeCertificates$Maker" 22 "PrimeCertificates$Maker" "share" "[I" ∈ dzGW := dzGW_in (i := 224) (by decide +kernel) (by rfl)
theorem zw_225 : Cond.fieldLink "PrimeCertificates$Maker" 25 "PrimeCertificates$Maker" "rest" "[I" ∈ dzGW := dzGW_in (i := 225) (by decide +kernel) (by rfl)
theorem zw_226 : Cond.fieldLink "PrimeCertificates$Maker" 28 "PrimeCertificates$Maker" "small" "[I" ∈ dzGW := dzGW_in (i := 226) (by decide +kernel) (by rfl)
theorem zw_227 : Cond.fieldLink "PrimeCertificates$Maker" 31 "PrimeCertificates$Maker" "newLines" "I" ∈ dzGW := dzGW_in (i := 227) (by decide +kernel) (by rfl)
theorem zw_228 : Cond.fieldLink "PrimeCertificates$Maker" 35 "PrimeCertificates$Maker" "root" "I" ∈ dzGW := dzGW_in (i := 228) (by decide +kernel) (by rfl)
theorem zw_218 : Cond.fieldLink "PrimeCertificates$Maker" 38 "PrimeCertificates$Maker" "tape" "LPrimeCertificates$Tape;" ∈ dzGW := dzGW_in (i := 218) (by decide +kernel) (by rfl)
theorem zw_219 : Cond.fieldLink "PrimeCertificates$Maker" 42 "PrimeCertificates$Maker" "lines" "LPrimeCertificates$Lines;" ∈ dzGW := dzGW_in (i := 219) (by decide +kernel) (by rfl)
theorem zw_220 : Cond.fieldLink "PrimeCertificates$Maker" 46 "PrimeCertificates$Maker" "sums" "LPrimeCertificates$Sums;" ∈ dzGW := dzGW_in (i := 220) (by decide +kernel) (by rfl)
theorem zw_221 : Cond.fieldLink "PrimeCertificates$Maker" 50 "PrimeCertificates$Maker" "trial" "LPrimeCertificates$Trial;" ∈ dzGW := dzGW_in (i := 221) (by decide +kernel) (by rfl)
theorem zw_158 : Cond.fieldLink "PrimeCertificates$Maker" 111 "PrimeCertificates$Factors" "count" "I" ∈ dzGW := dzGW_in (i := 158) (by decide +kernel) (by rfl)
theorem zw_115 : Cond.fieldLink "PrimeCertificates$Maker" 114 "PrimeCertificates$Trial" "oneLess" "[I" ∈ dzGW := dzGW_in (i := 115) (by decide +kernel) (by rfl)
theorem zw_90 : Cond.fieldLink "PrimeCertificates$Maker" 131 "PrimeCertificates$Lines" "count" "I" ∈ dzGW := dzGW_in (i := 90) (by decide +kernel) (by rfl)
theorem zw_85 : Cond.fieldLink "PrimeCertificates$Maker" 132 "PrimeCertificates$Lines" "numbers" "[[I" ∈ dzGW := dzGW_in (i := 85) (by decide +kernel) (by rfl)
theorem zw_149 : Cond.fieldLink "PrimeCertificates$Maker" 155 "PrimeCertificates$Factors" "lines" "[I" ∈ dzGW := dzGW_in (i := 149) (by decide +kernel) (by rfl)
theorem zw_152 : Cond.fieldLink "PrimeCertificates$Maker" 157 "PrimeCertificates$Factors" "exponents" "[I" ∈ dzGW := dzGW_in (i := 152) (by decide +kernel) (by rfl)
theorem zw_112 : Cond.fieldLink "PrimeCertificates$Maker" 165 "PrimeCertificates$Trial" "number" "[I" ∈ dzGW := dzGW_in (i := 112) (by decide +kernel) (by rfl)
theorem zw_156 : Cond.fieldLink "PrimeCertificates$Maker" 182 "PrimeCertificates$Factors" "witnesses" "[I" ∈ dzGW := dzGW_in (i := 156) (by decide +kernel) (by rfl)
theorem zw_70 : Cond.fieldLink "PrimeCertificates$Maker" 198 "PrimeCertificates$Tape" "size" "I" ∈ dzGW := dzGW_in (i := 70) (by decide +kernel) (by rfl)
theorem zw_29 : Cond.fieldLink "PrimeCertificates$Sums" 9 "PrimeCertificates$Sums" "wide" "[I" ∈ dzGW := dzGW_in (i := 29) (by decide +kernel) (by rfl)
theorem zw_30 : Cond.fieldLink "PrimeCertificates$Sums" 15 "PrimeCertificates$Sums" "goes" "[I" ∈ dzGW := dzGW_in (i := 30) (by decide +kernel) (by rfl)
theorem zw_31 : Cond.fieldLink "PrimeCertificates$Sums" 18 "PrimeCertificates$Sums" "divisor" "[I" ∈ dzGW := dzGW_in (i := 31) (by decide +kernel) (by rfl)
theorem zw_32 : Cond.fieldLink "PrimeCertificates$Sums" 21 "PrimeCertificates$Sums" "divisorWords" "I" ∈ dzGW := dzGW_in (i := 32) (by decide +kernel) (by rfl)
theorem zw_33 : Cond.fieldLink "PrimeCertificates$Sums" 25 "PrimeCertificates$Sums" "shift" "I" ∈ dzGW := dzGW_in (i := 33) (by decide +kernel) (by rfl)
theorem zw_34 : Cond.fieldLink "PrimeCertificates$Sums" 28 "PrimeCertificates$Sums" "residue" "[I" ∈ dzGW := dzGW_in (i := 34) (by decide +kernel) (by rfl)
theorem zw_35 : Cond.fieldLink "PrimeCertificates$Sums" 31 "PrimeCertificates$Sums" "power" "[I" ∈ dzGW := dzGW_in (i := 35) (by decide +kernel) (by rfl)
theorem zw_36 : Cond.fieldLink "PrimeCertificates$Sums" 34 "PrimeCertificates$Sums" "larger" "[I" ∈ dzGW := dzGW_in (i := 36) (by decide +kernel) (by rfl)
theorem zw_37 : Cond.fieldLink "PrimeCertificates$Sums" 37 "PrimeCertificates$Sums" "smaller" "[I" ∈ dzGW := dzGW_in (i := 37) (by decide +kernel) (by rfl)
theorem zw_64 : Cond.fieldLink "PrimeCertificates$Tape" 9 "PrimeCertificates$Tape" "ints" "[I" ∈ dzGW := dzGW_in (i := 64) (by decide +kernel) (by rfl)
theorem zw_67 : Cond.fieldLink "PrimeCertificates$Tape" 15 "PrimeCertificates$Tape" "size" "I" ∈ dzGW := dzGW_in (i := 67) (by decide +kernel) (by rfl)
theorem zw_111 : Cond.fieldLink "PrimeCertificates$Trial" 9 "PrimeCertificates$Trial" "number" "[I" ∈ dzGW := dzGW_in (i := 111) (by decide +kernel) (by rfl)
theorem zw_114 : Cond.fieldLink "PrimeCertificates$Trial" 15 "PrimeCertificates$Trial" "oneLess" "[I" ∈ dzGW := dzGW_in (i := 114) (by decide +kernel) (by rfl)
theorem zw_117 : Cond.fieldLink "PrimeCertificates$Trial" 18 "PrimeCertificates$Trial" "one" "[I" ∈ dzGW := dzGW_in (i := 117) (by decide +kernel) (by rfl)
theorem zw_118 : Cond.fieldLink "PrimeCertificates$Trial" 21 "PrimeCertificates$Trial" "base" "[I" ∈ dzGW := dzGW_in (i := 118) (by decide +kernel) (by rfl)
theorem zw_119 : Cond.fieldLink "PrimeCertificates$Trial" 24 "PrimeCertificates$Trial" "exponent" "[I" ∈ dzGW := dzGW_in (i := 119) (by decide +kernel) (by rfl)
theorem zw_120 : Cond.fieldLink "PrimeCertificates$Trial" 27 "PrimeCertificates$Trial" "power" "[I" ∈ dzGW := dzGW_in (i := 120) (by decide +kernel) (by rfl)
theorem zw_110 : Cond.fieldLink "PrimeCertificates$Trial" 30 "PrimeCertificates$Trial" "sums" "LPrimeCertificates$Sums;" ∈ dzGW := dzGW_in (i := 110) (by decide +kernel) (by rfl)
def dzFw (q : Nat × Nat × Nat × Nat) : Cond := match zCl[q.2.2.1]? with
  | some (C, T, _) => Cond.fieldLink (dzCn q.1) q.2.1 (T q.2.2.2).1 (T q.2.2.2).2.1 (T q.2.2.2).2.2.1
  | none => Cond.tt
def zl_f : List (Nat × Nat × Nat × Nat) := [(0, 11, 0, 0), (0, 14, 0, 1), (0, 18, 0, 2), (0, 24, 0, 3), (0, 31, 0, 4), (0, 38, 0, 5), (0, 52, 0, 6), (0, 59, 0, 7), (0, 119, 7, 1), (0, 126, 7, 0), (0, 132, 4, 2), (0, 135, 2, 12), (0, 138, 4, 3), (0, 141, 4, 0), (1, 7, 1, 0), (1, 13, 1, 1), (1, 16, 1, 3), (1, 20, 1, 9), (1, 23, 1, 10), (1, 26, 1, 11), (1, 100, 1, 2), (1, 103, 1, 7), (1, 110, 1, 6), (1, 123, 1, 4), (1, 155, 1, 5), (1, 170, 1, 8), (2, 12, 2, 4), (2, 18, 2, 5), (2, 22, 2, 6), (2, 26, 2, 7), (2, 29, 2, 8), (2, 32, 2, 9), (2, 35, 2, 10), (2, 38, 2, 11), (2, 41, 2, 12), (2, 44, 2, 0), (2, 48, 2, 1), (2, 52, 2, 2), (2, 56, 2, 3), (2, 66, 4, 2), (2, 69, 7, 1), (2, 78, 4, 0), (2, 106, 4, 3), (2, 109, 7, 0), (2, 154, 3, 3), (2, 161, 3, 2), (2, 164, 3, 0), (2, 174, 3, 1), (2, 180, 8, 2), (2, 187, 8, 1), (3, 9, 3, 0), (3, 15, 3, 1), (3, 18, 3, 2), (3, 21, 3, 3), (4, 11, 4, 0), (4, 16, 4, 1), (4, 20, 4, 2), (4, 24, 4, 3), (5, 12, 5, 4), (5, 18, 5, 5), (5, 22, 5, 6), (5, 25, 5, 7), (5, 28, 5, 8), (5, 31, 5, 9), (5, 35, 5, 10), (5, 38, 5, 0), (5, 42, 5, 1), (5, 46, 5, 2), (5, 50, 5, 3), (5, 111, 3, 3), (5, 114, 8, 2), (5, 131, 4, 2), (5, 132, 4, 0), (5, 155, 3, 0), (5, 157, 3, 1), (5, 165, 8, 1), (5, 182, 3, 2), (5, 198, 7, 1), (6, 9, 6, 0), (6, 15, 6, 1), (6, 18, 6, 2), (6, 21, 6, 3), (6, 25, 6, 4), (6, 28, 6, 5), (6, 31, 6, 6), (6, 34, 6, 7), (6, 37, 6, 8), (7, 9, 7, 0), (7, 15, 7, 1), (8, 9, 8, 1), (8, 15, 8, 2), (8, 18, 8, 3), (8, 21, 8, 4), (8, 24, 8, 5), (8, 27, 8, 6), (8, 30, 8, 0)]
set_option maxRecDepth 100000 in
theorem zl_f_ok : ∀ q ∈ zl_f, dzFw q ∈ dzGW := List.forall_mem_cons.mpr ⟨zw_252, List.forall_mem_cons.mpr ⟨zw_253, List.forall_mem_cons.mpr ⟨zw_254, List.forall_mem_cons.mpr ⟨zw_255, List.forall_mem_cons.mpr ⟨zw_256, List.forall_mem_cons.mpr ⟨zw_257, List.forall_mem_cons.mpr ⟨zw_258, List.forall_mem_cons.mpr ⟨zw_259, List.forall_mem_cons.mpr ⟨zw_69, List.forall_mem_cons.mpr ⟨zw_66, List.forall_mem_cons.mpr ⟨zw_91, List.forall_mem_cons.mpr ⟨zw_182, List.forall_mem_cons.mpr ⟨zw_94, List.forall_mem_cons.mpr ⟨zw_86, List.forall_mem_cons.mpr ⟨zw_675, List.forall_mem_cons.mpr ⟨zw_676, List.forall_mem_cons.mpr ⟨zw_678, List.forall_mem_cons.mpr ⟨zw_684, List.forall_mem_cons.mpr ⟨zw_685, List.forall_mem_cons.mpr ⟨zw_686, List.forall_mem_cons.mpr ⟨zw_677, List.forall_mem_cons.mpr ⟨zw_682, List.forall_mem_cons.mpr ⟨zw_681, List.forall_mem_cons.mpr ⟨zw_679, List.forall_mem_cons.mpr ⟨zw_680, List.forall_mem_cons.mpr ⟨zw_683, List.forall_mem_cons.mpr ⟨zw_173, List.forall_mem_cons.mpr ⟨zw_174, List.forall_mem_cons.mpr ⟨zw_175, List.forall_mem_cons.mpr ⟨zw_176, List.forall_mem_cons.mpr ⟨zw_177, List.forall_mem_cons.mpr ⟨zw_178, List.forall_mem_cons.mpr ⟨zw_179, List.forall_mem_cons.mpr ⟨zw_180, List.forall_mem_cons.mpr ⟨zw_181, List.forall_mem_cons.mpr ⟨zw_169, List.forall_mem_cons.mpr ⟨zw_170, List.forall_mem_cons.mpr ⟨zw_171, List.forall_mem_cons.mpr ⟨zw_172, List.forall_mem_cons.mpr ⟨zw_89, List.forall_mem_cons.mpr ⟨zw_68, List.forall_mem_cons.mpr ⟨zw_84, List.forall_mem_cons.mpr ⟨zw_93, List.forall_mem_cons.mpr ⟨zw_65, List.forall_mem_cons.mpr ⟨zw_159, List.forall_mem_cons.mpr ⟨zw_155, List.forall_mem_cons.mpr ⟨zw_150, List.forall_mem_cons.mpr ⟨zw_153, List.forall_mem_cons.mpr ⟨zw_116, List.forall_mem_cons.mpr ⟨zw_113, List.forall_mem_cons.mpr ⟨zw_148, List.forall_mem_cons.mpr ⟨zw_151, List.forall_mem_cons.mpr ⟨zw_154, List.forall_mem_cons.mpr ⟨zw_157, List.forall_mem_cons.mpr ⟨zw_83, List.forall_mem_cons.mpr ⟨zw_87, List.forall_mem_cons.mpr ⟨zw_88, List.forall_mem_cons.mpr ⟨zw_92, List.forall_mem_cons.mpr ⟨zw_222, List.forall_mem_cons.mpr ⟨zw_223, List.forall_mem_cons.mpr ⟨zw_224, List.forall_mem_cons.mpr ⟨zw_225, List.forall_mem_cons.mpr ⟨zw_226, List.forall_mem_cons.mpr ⟨zw_227, List.forall_mem_cons.mpr ⟨zw_228, List.forall_mem_cons.mpr ⟨zw_218, List.forall_mem_cons.mpr ⟨zw_219, List.forall_mem_cons.mpr ⟨zw_220, List.forall_mem_cons.mpr ⟨zw_221, List.forall_mem_cons.mpr ⟨zw_158, List.forall_mem_cons.mpr ⟨zw_115, List.forall_mem_cons.mpr ⟨zw_90, List.forall_mem_cons.mpr ⟨zw_85, List.forall_mem_cons.mpr ⟨zw_149, List.forall_mem_cons.mpr ⟨zw_152, List.forall_mem_cons.mpr ⟨zw_112, List.forall_mem_cons.mpr ⟨zw_156, List.forall_mem_cons.mpr ⟨zw_70, List.forall_mem_cons.mpr ⟨zw_29, List.forall_mem_cons.mpr ⟨zw_30, List.forall_mem_cons.mpr ⟨zw_31, List.forall_mem_cons.mpr ⟨zw_32, List.forall_mem_cons.mpr ⟨zw_33, List.forall_mem_cons.mpr ⟨zw_34, List.forall_mem_cons.mpr ⟨zw_35, List.forall_mem_cons.mpr ⟨zw_36, List.forall_mem_cons.mpr ⟨zw_37, List.forall_mem_cons.mpr ⟨zw_64, List.forall_mem_cons.mpr ⟨zw_67, List.forall_mem_cons.mpr ⟨zw_111, List.forall_mem_cons.mpr ⟨zw_114, List.forall_mem_cons.mpr ⟨zw_117, List.forall_mem_cons.mpr ⟨zw_118, List.forall_mem_cons.mpr ⟨zw_119, List.forall_mem_cons.mpr ⟨zw_120, List.forall_mem_cons.mpr ⟨zw_110, fun _ h => absurd h List.not_mem_nil⟩⟩⟩⟩⟩⟩⟩⟩⟩⟩⟩⟩⟩⟩⟩⟩⟩⟩⟩⟩⟩⟩⟩⟩⟩⟩⟩⟩⟩⟩⟩⟩⟩⟩⟩⟩⟩⟩⟩⟩⟩⟩⟩⟩⟩⟩⟩⟩⟩⟩⟩⟩⟩⟩⟩⟩⟩⟩⟩⟩⟩⟩⟩⟩⟩⟩⟩⟩⟩⟩⟩⟩⟩⟩⟩⟩⟩⟩⟩⟩⟩⟩⟩⟩⟩⟩⟩⟩⟩⟩⟩⟩⟩⟩⟩⟩
theorem zw_106 : Cond.methodLink "PrimeCertificates" 44 ⟨"PrimeCertificates$Trial", "<init>", "(LPrimeCertificates$Sums;)V"⟩ ∈ dzGW := dzGW_in (i := 106) (by decide +kernel) (by rfl)
theorem zw_138 : Cond.methodLink "PrimeCertificates" 49 ⟨"PrimeCertificates$Checker", "<init>", "(LPrimeCertificates$Tape;LPrimeCertificates$Lines;LPrimeCertificates$Sums;LPrimeCertificates$Trial;)V"⟩ ∈ dzGW := dzGW_in (i := 138) (by decide +kernel) (by rfl)
theorem zw_212 : Cond.methodLink "PrimeCertificates" 58 ⟨"PrimeCertificates$Maker", "<init>", "(LPrimeCertificates$Tape;LPrimeCertificates$Lines;LPrimeCertificates$Sums;LPrimeCertificates$Trial;)V"⟩ ∈ dzGW := dzGW_in (i := 212) (by decide +kernel) (by rfl)
theorem zw_281 : Cond.methodLink "PrimeCertificates" 63 ⟨"PrimeCertificates", "isRegister", "(I)Z"⟩ ∈ dzGW := dzGW_in (i := 281) (by decide +kernel) (by rfl)
theorem zw_284 : Cond.methodLink "PrimeCertificates" 67 ⟨"PrimeCertificates", "isWord", "(I)Z"⟩ ∈ dzGW := dzGW_in (i := 284) (by decide +kernel) (by rfl)
theorem zw_295 : Cond.methodLink "PrimeCertificates" 70 ⟨"PrimeCertificates", "areRegisters", "(III)Z"⟩ ∈ dzGW := dzGW_in (i := 295) (by decide +kernel) (by rfl)
theorem zw_298 : Cond.methodLink "PrimeCertificates" 74 ⟨"PrimeCertificates$Sums", "sum", "([I[I[I)Z"⟩ ∈ dzGW := dzGW_in (i := 298) (by decide +kernel) (by rfl)
theorem zw_302 : Cond.methodLink "PrimeCertificates" 78 ⟨"PrimeCertificates", "keepAnswer", "(I)I"⟩ ∈ dzGW := dzGW_in (i := 302) (by decide +kernel) (by rfl)
theorem zw_316 : Cond.methodLink "PrimeCertificates" 82 ⟨"PrimeCertificates$Sums", "difference", "([I[I[I)Z"⟩ ∈ dzGW := dzGW_in (i := 316) (by decide +kernel) (by rfl)
theorem zw_323 : Cond.methodLink "PrimeCertificates" 85 ⟨"PrimeCertificates$Sums", "product", "([I[I[I)Z"⟩ ∈ dzGW := dzGW_in (i := 323) (by decide +kernel) (by rfl)
theorem zw_342 : Cond.methodLink "PrimeCertificates" 88 ⟨"PrimeCertificates$Sums", "isZero", "([I)Z"⟩ ∈ dzGW := dzGW_in (i := 342) (by decide +kernel) (by rfl)
theorem zw_345 : Cond.methodLink "PrimeCertificates" 92 ⟨"PrimeCertificates$Sums", "quotient", "([I[I[I[I)V"⟩ ∈ dzGW := dzGW_in (i := 345) (by decide +kernel) (by rfl)
theorem zw_306 : Cond.methodLink "PrimeCertificates" 96 ⟨"PrimeCertificates$Sums", "copy", "([I[I)V"⟩ ∈ dzGW := dzGW_in (i := 306) (by decide +kernel) (by rfl)
theorem zw_392 : Cond.methodLink "PrimeCertificates" 100 ⟨"PrimeCertificates$Sums", "powerModulo", "([I[I[I[I)V"⟩ ∈ dzGW := dzGW_in (i := 392) (by decide +kernel) (by rfl)
theorem zw_403 : Cond.methodLink "PrimeCertificates" 103 ⟨"PrimeCertificates$Sums", "greatestDivisor", "([I[I[I)V"⟩ ∈ dzGW := dzGW_in (i := 403) (by decide +kernel) (by rfl)
theorem zw_412 : Cond.methodLink "PrimeCertificates" 107 ⟨"PrimeCertificates$Sums", "order", "([I[I)I"⟩ ∈ dzGW := dzGW_in (i := 412) (by decide +kernel) (by rfl)
theorem zw_419 : Cond.methodLink "PrimeCertificates" 111 ⟨"PrimeCertificates$Tape", "room", "()I"⟩ ∈ dzGW := dzGW_in (i := 419) (by decide +kernel) (by rfl)
theorem zw_423 : Cond.methodLink "PrimeCertificates" 115 ⟨"PrimeCertificates$Tape", "append", "(I)V"⟩ ∈ dzGW := dzGW_in (i := 423) (by decide +kernel) (by rfl)
theorem zw_431 : Cond.methodLink "PrimeCertificates" 123 ⟨"PrimeCertificates$Lines", "forgetBehind", "(I)V"⟩ ∈ dzGW := dzGW_in (i := 431) (by decide +kernel) (by rfl)
theorem zw_447 : Cond.methodLink "PrimeCertificates" 129 ⟨"PrimeCertificates$Checker", "findFault", "()I"⟩ ∈ dzGW := dzGW_in (i := 447) (by decide +kernel) (by rfl)
theorem zw_582 : Cond.methodLink "PrimeCertificates" 144 ⟨"PrimeCertificates$Maker", "lineFor", "([I)I"⟩ ∈ dzGW := dzGW_in (i := 582) (by decide +kernel) (by rfl)
theorem zw_670 : Cond.methodLink "PrimeCertificatesModel" 29 ⟨"PrimeCertificatesModel", "set", "(IJ)V"⟩ ∈ dzGW := dzGW_in (i := 670) (by decide +kernel) (by rfl)
theorem zw_747 : Cond.methodLink "PrimeCertificatesModel" 35 ⟨"PrimeCertificatesModel", "lengthOf", "(I)I"⟩ ∈ dzGW := dzGW_in (i := 747) (by decide +kernel) (by rfl)
theorem zw_731 : Cond.methodLink "PrimeCertificatesModel" 40 ⟨"PrimeCertificatesModel", "copy", "(II)V"⟩ ∈ dzGW := dzGW_in (i := 731) (by decide +kernel) (by rfl)
theorem zw_783 : Cond.methodLink "PrimeCertificatesModel" 44 ⟨"PrimeCertificatesModel", "guess", "(IIII)I"⟩ ∈ dzGW := dzGW_in (i := 783) (by decide +kernel) (by rfl)
theorem zw_787 : Cond.methodLink "PrimeCertificatesModel" 48 ⟨"PrimeCertificatesModel", "away", "(IIIII)V"⟩ ∈ dzGW := dzGW_in (i := 787) (by decide +kernel) (by rfl)
theorem zw_791 : Cond.methodLink "PrimeCertificatesModel" 52 ⟨"PrimeCertificatesModel", "isOver", "(IIII)Z"⟩ ∈ dzGW := dzGW_in (i := 791) (by decide +kernel) (by rfl)
theorem zw_779 : Cond.methodLink "PrimeCertificatesModel" 56 ⟨"PrimeCertificatesModel", "part", "(IIII)V"⟩ ∈ dzGW := dzGW_in (i := 779) (by decide +kernel) (by rfl)
theorem zw_767 : Cond.methodLink "PrimeCertificatesModel" 60 ⟨"PrimeCertificatesModel", "times", "(III)V"⟩ ∈ dzGW := dzGW_in (i := 767) (by decide +kernel) (by rfl)
theorem zw_803 : Cond.methodLink "PrimeCertificatesModel" 64 ⟨"PrimeCertificatesModel", "bit", "(II)I"⟩ ∈ dzGW := dzGW_in (i := 803) (by decide +kernel) (by rfl)
theorem zw_775 : Cond.methodLink "PrimeCertificatesModel" 68 ⟨"PrimeCertificatesModel", "isZero", "(I)Z"⟩ ∈ dzGW := dzGW_in (i := 775) (by decide +kernel) (by rfl)
theorem zw_755 : Cond.methodLink "PrimeCertificatesModel" 72 ⟨"PrimeCertificatesModel", "order", "(II)I"⟩ ∈ dzGW := dzGW_in (i := 755) (by decide +kernel) (by rfl)
theorem zw_716 : Cond.methodLink "PrimeCertificatesModel" 75 ⟨"PrimeCertificatesModel", "isRegister", "(I)Z"⟩ ∈ dzGW := dzGW_in (i := 716) (by decide +kernel) (by rfl)
theorem zw_743 : Cond.methodLink "PrimeCertificatesModel" 78 ⟨"PrimeCertificatesModel", "fits", "(I)Z"⟩ ∈ dzGW := dzGW_in (i := 743) (by decide +kernel) (by rfl)
theorem zw_728 : Cond.methodLink "PrimeCertificatesModel" 81 ⟨"PrimeCertificatesModel", "are", "(III)Z"⟩ ∈ dzGW := dzGW_in (i := 728) (by decide +kernel) (by rfl)
theorem zw_735 : Cond.methodLink "PrimeCertificatesModel" 85 ⟨"PrimeCertificatesModel", "raise", "(II)V"⟩ ∈ dzGW := dzGW_in (i := 735) (by decide +kernel) (by rfl)
theorem zw_739 : Cond.methodLink "PrimeCertificatesModel" 88 ⟨"PrimeCertificatesModel", "give", "(II)I"⟩ ∈ dzGW := dzGW_in (i := 739) (by decide +kernel) (by rfl)
theorem zw_759 : Cond.methodLink "PrimeCertificatesModel" 91 ⟨"PrimeCertificatesModel", "lower", "(II)V"⟩ ∈ dzGW := dzGW_in (i := 759) (by decide +kernel) (by rfl)
theorem zw_799 : Cond.methodLink "PrimeCertificatesModel" 94 ⟨"PrimeCertificatesModel", "raiseTo", "(IIII)V"⟩ ∈ dzGW := dzGW_in (i := 799) (by decide +kernel) (by rfl)
theorem zw_811 : Cond.methodLink "PrimeCertificatesModel" 97 ⟨"PrimeCertificatesModel", "divisor", "(III)V"⟩ ∈ dzGW := dzGW_in (i := 811) (by decide +kernel) (by rfl)
theorem zw_839 : Cond.methodLink "PrimeCertificatesModel" 106 ⟨"PrimeCertificatesModel", "isGood", "()Z"⟩ ∈ dzGW := dzGW_in (i := 839) (by decide +kernel) (by rfl)
theorem zw_843 : Cond.methodLink "PrimeCertificatesModel" 113 ⟨"PrimeCertificatesModel", "fail", "(II)V"⟩ ∈ dzGW := dzGW_in (i := 843) (by decide +kernel) (by rfl)
theorem zw_851 : Cond.methodLink "PrimeCertificatesModel" 116 ⟨"PrimeCertificatesModel", "next", "()I"⟩ ∈ dzGW := dzGW_in (i := 851) (by decide +kernel) (by rfl)
theorem zw_859 : Cond.methodLink "PrimeCertificatesModel" 120 ⟨"PrimeCertificatesModel", "isSmallPrime", "(I)Z"⟩ ∈ dzGW := dzGW_in (i := 859) (by decide +kernel) (by rfl)
theorem zw_847 : Cond.methodLink "PrimeCertificatesModel" 126 ⟨"PrimeCertificatesModel", "nextIn", "(II)I"⟩ ∈ dzGW := dzGW_in (i := 847) (by decide +kernel) (by rfl)
theorem zw_887 : Cond.methodLink "PrimeCertificatesModel" 131 ⟨"PrimeCertificatesModel", "isOne", "(I)Z"⟩ ∈ dzGW := dzGW_in (i := 887) (by decide +kernel) (by rfl)
theorem zw_866 : Cond.methodLink "PrimeCertificatesModel" 134 ⟨"PrimeCertificatesModel", "number", "()V"⟩ ∈ dzGW := dzGW_in (i := 866) (by decide +kernel) (by rfl)
theorem zw_871 : Cond.methodLink "PrimeCertificatesModel" 137 ⟨"PrimeCertificatesModel", "witness", "(I)V"⟩ ∈ dzGW := dzGW_in (i := 871) (by decide +kernel) (by rfl)
theorem zw_875 : Cond.methodLink "PrimeCertificatesModel" 141 ⟨"PrimeCertificatesModel", "factors", "(I)V"⟩ ∈ dzGW := dzGW_in (i := 875) (by decide +kernel) (by rfl)
theorem zw_879 : Cond.methodLink "PrimeCertificatesModel" 144 ⟨"PrimeCertificatesModel", "product", "(II)Z"⟩ ∈ dzGW := dzGW_in (i := 879) (by decide +kernel) (by rfl)
theorem zw_883 : Cond.methodLink "PrimeCertificatesModel" 148 ⟨"PrimeCertificatesModel", "isWhole", "()Z"⟩ ∈ dzGW := dzGW_in (i := 883) (by decide +kernel) (by rfl)
theorem zw_891 : Cond.methodLink "PrimeCertificatesModel" 151 ⟨"PrimeCertificatesModel", "isRight", "(IZ)Z"⟩ ∈ dzGW := dzGW_in (i := 891) (by decide +kernel) (by rfl)
theorem zw_855 : Cond.methodLink "PrimeCertificatesModel" 158 ⟨"PrimeCertificatesModel", "lineOne", "()V"⟩ ∈ dzGW := dzGW_in (i := 855) (by decide +kernel) (by rfl)
theorem zw_862 : Cond.methodLink "PrimeCertificatesModel" 161 ⟨"PrimeCertificatesModel", "lineTwo", "()V"⟩ ∈ dzGW := dzGW_in (i := 862) (by decide +kernel) (by rfl)
theorem zw_895 : Cond.methodLink "PrimeCertificatesModel" 164 ⟨"PrimeCertificatesModel", "lineThree", "()V"⟩ ∈ dzGW := dzGW_in (i := 895) (by decide +kernel) (by rfl)
theorem zw_924 : Cond.methodLink "PrimeCertificatesModel" 167 ⟨"PrimeCertificatesModel", "say", "(I)I"⟩ ∈ dzGW := dzGW_in (i := 924) (by decide +kernel) (by rfl)
theorem zw_929 : Cond.methodLink "PrimeCertificatesModel" 173 ⟨"PrimeCertificatesModel", "often", "(I)I"⟩ ∈ dzGW := dzGW_in (i := 929) (by decide +kernel) (by rfl)
theorem zw_912 : Cond.methodLink "PrimeCertificatesModel" 176 ⟨"PrimeCertificatesModel", "lineOf", "(I)I"⟩ ∈ dzGW := dzGW_in (i := 912) (by decide +kernel) (by rfl)
theorem zw_920 : Cond.methodLink "PrimeCertificatesModel" 179 ⟨"PrimeCertificatesModel", "sayOne", "(I)Z"⟩ ∈ dzGW := dzGW_in (i := 920) (by decide +kernel) (by rfl)
theorem zw_934 : Cond.methodLink "PrimeCertificatesModel" 184 ⟨"PrimeCertificatesModel", "sort", "(I)V"⟩ ∈ dzGW := dzGW_in (i := 934) (by decide +kernel) (by rfl)
theorem zw_925 : Cond.methodLink "PrimeCertificatesModel" 187 ⟨"PrimeCertificatesModel", "find", "()Z"⟩ ∈ dzGW := dzGW_in (i := 925) (by decide +kernel) (by rfl)
theorem zw_938 : Cond.methodLink "PrimeCertificatesModel" 190 ⟨"PrimeCertificatesModel", "wholeWitness", "()I"⟩ ∈ dzGW := dzGW_in (i := 938) (by decide +kernel) (by rfl)
theorem zw_942 : Cond.methodLink "PrimeCertificatesModel" 193 ⟨"PrimeCertificatesModel", "sayLine", "(II)Z"⟩ ∈ dzGW := dzGW_in (i := 942) (by decide +kernel) (by rfl)
theorem zw_946 : Cond.methodLink "PrimeCertificatesModel" 196 ⟨"PrimeCertificatesModel", "partWitnesses", "()Z"⟩ ∈ dzGW := dzGW_in (i := 946) (by decide +kernel) (by rfl)
theorem zw_911 : Cond.methodLink "PrimeCertificatesModel" 199 ⟨"PrimeCertificatesModel", "check", "()I"⟩ ∈ dzGW := dzGW_in (i := 911) (by decide +kernel) (by rfl)
theorem zw_916 : Cond.methodLink "PrimeCertificatesModel" 202 ⟨"PrimeCertificatesModel", "make", "()Z"⟩ ∈ dzGW := dzGW_in (i := 916) (by decide +kernel) (by rfl)
theorem zw_451 : Cond.methodLink "PrimeCertificates$Checker" 60 ⟨"PrimeCertificates$Lines", "end", "()I"⟩ ∈ dzGW := dzGW_in (i := 451) (by decide +kernel) (by rfl)
theorem zw_455 : Cond.methodLink "PrimeCertificates$Checker" 74 ⟨"PrimeCertificates$Checker", "readLine", "(I)Z"⟩ ∈ dzGW := dzGW_in (i := 455) (by decide +kernel) (by rfl)
theorem zw_512 : Cond.methodLink "PrimeCertificates$Checker" 82 ⟨"PrimeCertificates$Trial", "begin", "([I)V"⟩ ∈ dzGW := dzGW_in (i := 512) (by decide +kernel) (by rfl)
theorem zw_518 : Cond.methodLink "PrimeCertificates$Checker" 88 ⟨"PrimeCertificates$Checker", "productHolds", "()Z"⟩ ∈ dzGW := dzGW_in (i := 518) (by decide +kernel) (by rfl)
theorem zw_536 : Cond.methodLink "PrimeCertificates$Checker" 92 ⟨"PrimeCertificates$Checker", "rootHolds", "()Z"⟩ ∈ dzGW := dzGW_in (i := 536) (by decide +kernel) (by rfl)
theorem zw_557 : Cond.methodLink "PrimeCertificates$Checker" 95 ⟨"PrimeCertificates$Checker", "witnessesHold", "()Z"⟩ ∈ dzGW := dzGW_in (i := 557) (by decide +kernel) (by rfl)
theorem zw_566 : Cond.methodLink "PrimeCertificates$Checker" 98 ⟨"PrimeCertificates$Lines", "keepNext", "(I)V"⟩ ∈ dzGW := dzGW_in (i := 566) (by decide +kernel) (by rfl)
theorem zw_463 : Cond.methodLink "PrimeCertificates$Checker" 102 ⟨"PrimeCertificates$Checker", "refuse", "(II)Z"⟩ ∈ dzGW := dzGW_in (i := 463) (by decide +kernel) (by rfl)
theorem zw_459 : Cond.methodLink "PrimeCertificates$Checker" 112 ⟨"PrimeCertificates$Checker", "take", "()Z"⟩ ∈ dzGW := dzGW_in (i := 459) (by decide +kernel) (by rfl)
theorem zw_467 : Cond.methodLink "PrimeCertificates$Checker" 115 ⟨"PrimeCertificates$Checker", "readSmallPrime", "([I)Z"⟩ ∈ dzGW := dzGW_in (i := 467) (by decide +kernel) (by rfl)
theorem zw_480 : Cond.methodLink "PrimeCertificates$Checker" 119 ⟨"PrimeCertificates$Checker", "readNumber", "([I)Z"⟩ ∈ dzGW := dzGW_in (i := 480) (by decide +kernel) (by rfl)
theorem zw_488 : Cond.methodLink "PrimeCertificates$Checker" 122 ⟨"PrimeCertificates$Checker", "readRoot", "([I)Z"⟩ ∈ dzGW := dzGW_in (i := 488) (by decide +kernel) (by rfl)
theorem zw_495 : Cond.methodLink "PrimeCertificates$Checker" 125 ⟨"PrimeCertificates$Checker", "readFactors", "(I)Z"⟩ ∈ dzGW := dzGW_in (i := 495) (by decide +kernel) (by rfl)
theorem zw_475 : Cond.methodLink "PrimeCertificates$Checker" 128 ⟨"PrimeCertificates$Checker", "refuseTaken", "(I)Z"⟩ ∈ dzGW := dzGW_in (i := 475) (by decide +kernel) (by rfl)
theorem zw_479 : Cond.methodLink "PrimeCertificates$Checker" 135 ⟨"PrimeCertificates$Sums", "setSmall", "([II)V"⟩ ∈ dzGW := dzGW_in (i := 479) (by decide +kernel) (by rfl)
theorem zw_484 : Cond.methodLink "PrimeCertificates$Checker" 141 ⟨"java/util/Arrays", "fill", "([II)V"⟩ ∈ dzGW := dzGW_in (i := 484) (by decide +kernel) (by rfl)
theorem zw_485 : Cond.methodLink "PrimeCertificates$Checker" 146 ⟨"PrimeCertificates$Sums", "isAtMost", "([II)Z"⟩ ∈ dzGW := dzGW_in (i := 485) (by decide +kernel) (by rfl)
theorem zw_492 : Cond.methodLink "PrimeCertificates$Checker" 150 ⟨"PrimeCertificates$Checker", "isWitness", "(I[I)Z"⟩ ∈ dzGW := dzGW_in (i := 492) (by decide +kernel) (by rfl)
theorem zw_499 : Cond.methodLink "PrimeCertificates$Checker" 155 ⟨"PrimeCertificates$Checker", "readFactorLine", "(II)Z"⟩ ∈ dzGW := dzGW_in (i := 499) (by decide +kernel) (by rfl)
theorem zw_508 : Cond.methodLink "PrimeCertificates$Checker" 158 ⟨"PrimeCertificates$Checker", "readExponent", "(I)Z"⟩ ∈ dzGW := dzGW_in (i := 508) (by decide +kernel) (by rfl)
theorem zw_503 : Cond.methodLink "PrimeCertificates$Checker" 166 ⟨"PrimeCertificates$Checker", "factorNumber", "(I)[I"⟩ ∈ dzGW := dzGW_in (i := 503) (by decide +kernel) (by rfl)
theorem zw_507 : Cond.methodLink "PrimeCertificates$Checker" 170 ⟨"PrimeCertificates$Sums", "order", "([I[I)I"⟩ ∈ dzGW := dzGW_in (i := 507) (by decide +kernel) (by rfl)
theorem zw_522 : Cond.methodLink "PrimeCertificates$Checker" 177 ⟨"PrimeCertificates$Checker", "multiplyFactors", "()Z"⟩ ∈ dzGW := dzGW_in (i := 522) (by decide +kernel) (by rfl)
theorem zw_527 : Cond.methodLink "PrimeCertificates$Checker" 183 ⟨"PrimeCertificates$Sums", "divides", "([I[I)Z"⟩ ∈ dzGW := dzGW_in (i := 527) (by decide +kernel) (by rfl)
theorem zw_531 : Cond.methodLink "PrimeCertificates$Checker" 190 ⟨"PrimeCertificates$Sums", "squareIsAbove", "([I[I)Z"⟩ ∈ dzGW := dzGW_in (i := 531) (by decide +kernel) (by rfl)
theorem zw_526 : Cond.methodLink "PrimeCertificates$Checker" 193 ⟨"PrimeCertificates$Sums", "product", "([I[I[I)Z"⟩ ∈ dzGW := dzGW_in (i := 526) (by decide +kernel) (by rfl)
theorem zw_540 : Cond.methodLink "PrimeCertificates$Checker" 196 ⟨"PrimeCertificates$Trial", "closes", "(I)Z"⟩ ∈ dzGW := dzGW_in (i := 540) (by decide +kernel) (by rfl)
theorem zw_548 : Cond.methodLink "PrimeCertificates$Checker" 199 ⟨"PrimeCertificates$Trial", "parts", "(I[I)Z"⟩ ∈ dzGW := dzGW_in (i := 548) (by decide +kernel) (by rfl)
theorem zw_553 : Cond.methodLink "PrimeCertificates$Checker" 202 ⟨"PrimeCertificates$Checker", "factorPlace", "(I)I"⟩ ∈ dzGW := dzGW_in (i := 553) (by decide +kernel) (by rfl)
theorem zw_561 : Cond.methodLink "PrimeCertificates$Checker" 206 ⟨"PrimeCertificates$Trial", "partsEverywhere", "(I[I)Z"⟩ ∈ dzGW := dzGW_in (i := 561) (by decide +kernel) (by rfl)
theorem zw_590 : Cond.methodLink "PrimeCertificates$Lines" 27 ⟨"PrimeCertificates$Sums", "order", "([I[I)I"⟩ ∈ dzGW := dzGW_in (i := 590) (by decide +kernel) (by rfl)
theorem zw_586 : Cond.methodLink "PrimeCertificates$Maker" 54 ⟨"PrimeCertificates$Lines", "lineOf", "([I)I"⟩ ∈ dzGW := dzGW_in (i := 586) (by decide +kernel) (by rfl)
theorem zw_592 : Cond.methodLink "PrimeCertificates$Maker" 61 ⟨"PrimeCertificates$Sums", "isAtMost", "([II)Z"⟩ ∈ dzGW := dzGW_in (i := 592) (by decide +kernel) (by rfl)
theorem zw_594 : Cond.methodLink "PrimeCertificates$Maker" 71 ⟨"PrimeCertificates$Maker", "planSmallLine", "([I)Z"⟩ ∈ dzGW := dzGW_in (i := 594) (by decide +kernel) (by rfl)
theorem zw_599 : Cond.methodLink "PrimeCertificates$Maker" 75 ⟨"PrimeCertificates$Maker", "hasRoom", "(I)Z"⟩ ∈ dzGW := dzGW_in (i := 599) (by decide +kernel) (by rfl)
theorem zw_604 : Cond.methodLink "PrimeCertificates$Maker" 78 ⟨"PrimeCertificates$Maker", "writeSmallLines", "()I"⟩ ∈ dzGW := dzGW_in (i := 604) (by decide +kernel) (by rfl)
theorem zw_610 : Cond.methodLink "PrimeCertificates$Maker" 82 ⟨"PrimeCertificates$Trial", "begin", "([I)V"⟩ ∈ dzGW := dzGW_in (i := 610) (by decide +kernel) (by rfl)
theorem zw_611 : Cond.methodLink "PrimeCertificates$Maker" 88 ⟨"PrimeCertificates$Maker", "findFactors", "()Z"⟩ ∈ dzGW := dzGW_in (i := 611) (by decide +kernel) (by rfl)
theorem zw_635 : Cond.methodLink "PrimeCertificates$Maker" 92 ⟨"PrimeCertificates$Sums", "isOne", "([I)Z"⟩ ∈ dzGW := dzGW_in (i := 635) (by decide +kernel) (by rfl)
theorem zw_636 : Cond.methodLink "PrimeCertificates$Maker" 95 ⟨"PrimeCertificates$Maker", "lastLineInts", "(Z)I"⟩ ∈ dzGW := dzGW_in (i := 636) (by decide +kernel) (by rfl)
theorem zw_641 : Cond.methodLink "PrimeCertificates$Maker" 99 ⟨"PrimeCertificates$Maker", "factorsSuffice", "()Z"⟩ ∈ dzGW := dzGW_in (i := 641) (by decide +kernel) (by rfl)
theorem zw_646 : Cond.methodLink "PrimeCertificates$Maker" 102 ⟨"PrimeCertificates$Maker", "findRoot", "()Z"⟩ ∈ dzGW := dzGW_in (i := 646) (by decide +kernel) (by rfl)
theorem zw_652 : Cond.methodLink "PrimeCertificates$Maker" 105 ⟨"PrimeCertificates$Maker", "findWitnesses", "()Z"⟩ ∈ dzGW := dzGW_in (i := 652) (by decide +kernel) (by rfl)
theorem zw_660 : Cond.methodLink "PrimeCertificates$Maker" 108 ⟨"PrimeCertificates$Maker", "writeLastLine", "(Z)I"⟩ ∈ dzGW := dzGW_in (i := 660) (by decide +kernel) (by rfl)
theorem zw_598 : Cond.methodLink "PrimeCertificates$Maker" 117 ⟨"PrimeCertificates$Sums", "copy", "([I[I)V"⟩ ∈ dzGW := dzGW_in (i := 598) (by decide +kernel) (by rfl)
theorem zw_615 : Cond.methodLink "PrimeCertificates$Maker" 121 ⟨"PrimeCertificates$Sums", "setSmall", "([II)V"⟩ ∈ dzGW := dzGW_in (i := 615) (by decide +kernel) (by rfl)
theorem zw_616 : Cond.methodLink "PrimeCertificates$Maker" 125 ⟨"PrimeCertificates$Maker", "divideOut", "([I)I"⟩ ∈ dzGW := dzGW_in (i := 616) (by decide +kernel) (by rfl)
theorem zw_622 : Cond.methodLink "PrimeCertificates$Maker" 128 ⟨"PrimeCertificates$Maker", "insertPrime", "(I)Z"⟩ ∈ dzGW := dzGW_in (i := 622) (by decide +kernel) (by rfl)
theorem zw_626 : Cond.methodLink "PrimeCertificates$Maker" 136 ⟨"PrimeCertificates$Maker", "insertFactor", "(II)Z"⟩ ∈ dzGW := dzGW_in (i := 626) (by decide +kernel) (by rfl)
theorem zw_620 : Cond.methodLink "PrimeCertificates$Maker" 140 ⟨"PrimeCertificates$Sums", "quotient", "([I[I[I[I)V"⟩ ∈ dzGW := dzGW_in (i := 620) (by decide +kernel) (by rfl)
theorem zw_621 : Cond.methodLink "PrimeCertificates$Maker" 144 ⟨"PrimeCertificates$Sums", "isZero", "([I)Z"⟩ ∈ dzGW := dzGW_in (i := 621) (by decide +kernel) (by rfl)
theorem zw_630 : Cond.methodLink "PrimeCertificates$Maker" 147 ⟨"PrimeCertificates$Maker", "factorNumber", "(I)[I"⟩ ∈ dzGW := dzGW_in (i := 630) (by decide +kernel) (by rfl)
theorem zw_634 : Cond.methodLink "PrimeCertificates$Maker" 151 ⟨"PrimeCertificates$Sums", "order", "([I[I)I"⟩ ∈ dzGW := dzGW_in (i := 634) (by decide +kernel) (by rfl)
theorem zw_603 : Cond.methodLink "PrimeCertificates$Maker" 160 ⟨"PrimeCertificates$Tape", "room", "()I"⟩ ∈ dzGW := dzGW_in (i := 603) (by decide +kernel) (by rfl)
theorem zw_640 : Cond.methodLink "PrimeCertificates$Maker" 168 ⟨"PrimeCertificates$Sums", "usedWords", "([I)I"⟩ ∈ dzGW := dzGW_in (i := 640) (by decide +kernel) (by rfl)
theorem zw_645 : Cond.methodLink "PrimeCertificates$Maker" 171 ⟨"PrimeCertificates$Sums", "squareIsAbove", "([I[I)Z"⟩ ∈ dzGW := dzGW_in (i := 645) (by decide +kernel) (by rfl)
theorem zw_650 : Cond.methodLink "PrimeCertificates$Maker" 175 ⟨"PrimeCertificates$Trial", "parts", "(I[I)Z"⟩ ∈ dzGW := dzGW_in (i := 650) (by decide +kernel) (by rfl)
theorem zw_651 : Cond.methodLink "PrimeCertificates$Maker" 179 ⟨"PrimeCertificates$Trial", "closes", "(I)Z"⟩ ∈ dzGW := dzGW_in (i := 651) (by decide +kernel) (by rfl)
theorem zw_659 : Cond.methodLink "PrimeCertificates$Maker" 191 ⟨"PrimeCertificates$Trial", "partsEverywhere", "(I[I)Z"⟩ ∈ dzGW := dzGW_in (i := 659) (by decide +kernel) (by rfl)
theorem zw_608 : Cond.methodLink "PrimeCertificates$Maker" 194 ⟨"PrimeCertificates$Tape", "append", "(I)V"⟩ ∈ dzGW := dzGW_in (i := 608) (by decide +kernel) (by rfl)
theorem zw_609 : Cond.methodLink "PrimeCertificates$Maker" 201 ⟨"PrimeCertificates$Lines", "keepNext", "(I)V"⟩ ∈ dzGW := dzGW_in (i := 609) (by decide +kernel) (by rfl)
theorem zw_331 : Cond.methodLink "PrimeCertificates$Sums" 40 ⟨"PrimeCertificates$Sums", "usedWords", "([I)I"⟩ ∈ dzGW := dzGW_in (i := 331) (by decide +kernel) (by rfl)
theorem zw_334 : Cond.methodLink "PrimeCertificates$Sums" 52 ⟨"java/util/Arrays", "fill", "([II)V"⟩ ∈ dzGW := dzGW_in (i := 334) (by decide +kernel) (by rfl)
theorem zw_327 : Cond.methodLink "PrimeCertificates$Sums" 58 ⟨"PrimeCertificates$Sums", "setWideToProduct", "([I[I)V"⟩ ∈ dzGW := dzGW_in (i := 327) (by decide +kernel) (by rfl)
theorem zw_337 : Cond.methodLink "PrimeCertificates$Sums" 62 ⟨"PrimeCertificates$Sums", "copy", "([I[I)V"⟩ ∈ dzGW := dzGW_in (i := 337) (by decide +kernel) (by rfl)
theorem zw_535 : Cond.methodLink "PrimeCertificates$Sums" 65 ⟨"PrimeCertificates$Sums", "order", "([I[I)I"⟩ ∈ dzGW := dzGW_in (i := 535) (by decide +kernel) (by rfl)
theorem zw_349 : Cond.methodLink "PrimeCertificates$Sums" 69 ⟨"PrimeCertificates$Sums", "setDivisor", "([I)V"⟩ ∈ dzGW := dzGW_in (i := 349) (by decide +kernel) (by rfl)
theorem zw_360 : Cond.methodLink "PrimeCertificates$Sums" 73 ⟨"PrimeCertificates$Sums", "setWide", "([I)V"⟩ ∈ dzGW := dzGW_in (i := 360) (by decide +kernel) (by rfl)
theorem zw_364 : Cond.methodLink "PrimeCertificates$Sums" 76 ⟨"PrimeCertificates$Sums", "reduceWide", "()V"⟩ ∈ dzGW := dzGW_in (i := 364) (by decide +kernel) (by rfl)
theorem zw_407 : Cond.methodLink "PrimeCertificates$Sums" 79 ⟨"PrimeCertificates$Sums", "isZero", "([I)Z"⟩ ∈ dzGW := dzGW_in (i := 407) (by decide +kernel) (by rfl)
theorem zw_396 : Cond.methodLink "PrimeCertificates$Sums" 83 ⟨"PrimeCertificates$Sums", "setSmall", "([II)V"⟩ ∈ dzGW := dzGW_in (i := 396) (by decide +kernel) (by rfl)
theorem zw_353 : Cond.methodLink "PrimeCertificates$Sums" 86 ⟨"PrimeCertificates$Sums", "leadingZeros", "(I)I"⟩ ∈ dzGW := dzGW_in (i := 353) (by decide +kernel) (by rfl)
theorem zw_356 : Cond.methodLink "PrimeCertificates$Sums" 90 ⟨"PrimeCertificates$Sums", "shiftUp", "([II[I)V"⟩ ∈ dzGW := dzGW_in (i := 356) (by decide +kernel) (by rfl)
theorem zw_368 : Cond.methodLink "PrimeCertificates$Sums" 94 ⟨"PrimeCertificates$Sums", "guessTimes", "(I)J"⟩ ∈ dzGW := dzGW_in (i := 368) (by decide +kernel) (by rfl)
theorem zw_376 : Cond.methodLink "PrimeCertificates$Sums" 98 ⟨"PrimeCertificates$Sums", "takeAway", "(JI)Z"⟩ ∈ dzGW := dzGW_in (i := 376) (by decide +kernel) (by rfl)
theorem zw_380 : Cond.methodLink "PrimeCertificates$Sums" 102 ⟨"PrimeCertificates$Sums", "giveBack", "(I)V"⟩ ∈ dzGW := dzGW_in (i := 380) (by decide +kernel) (by rfl)
theorem zw_384 : Cond.methodLink "PrimeCertificates$Sums" 106 ⟨"PrimeCertificates$Sums", "shiftWideDown", "()V"⟩ ∈ dzGW := dzGW_in (i := 384) (by decide +kernel) (by rfl)
theorem zw_372 : Cond.methodLink "PrimeCertificates$Sums" 109 ⟨"PrimeCertificates$Sums", "isAbove", "(JJ)Z"⟩ ∈ dzGW := dzGW_in (i := 372) (by decide +kernel) (by rfl)
theorem zw_516 : Cond.methodLink "PrimeCertificates$Trial" 34 ⟨"PrimeCertificates$Sums", "copy", "([I[I)V"⟩ ∈ dzGW := dzGW_in (i := 516) (by decide +kernel) (by rfl)
theorem zw_517 : Cond.methodLink "PrimeCertificates$Trial" 40 ⟨"PrimeCertificates$Sums", "difference", "([I[I[I)Z"⟩ ∈ dzGW := dzGW_in (i := 517) (by decide +kernel) (by rfl)
theorem zw_544 : Cond.methodLink "PrimeCertificates$Trial" 44 ⟨"PrimeCertificates$Sums", "powerModulo", "([I[I[I[I)V"⟩ ∈ dzGW := dzGW_in (i := 544) (by decide +kernel) (by rfl)
theorem zw_545 : Cond.methodLink "PrimeCertificates$Trial" 48 ⟨"PrimeCertificates$Sums", "isOne", "([I)Z"⟩ ∈ dzGW := dzGW_in (i := 545) (by decide +kernel) (by rfl)
theorem zw_552 : Cond.methodLink "PrimeCertificates$Trial" 52 ⟨"PrimeCertificates$Sums", "quotient", "([I[I[I[I)V"⟩ ∈ dzGW := dzGW_in (i := 552) (by decide +kernel) (by rfl)
theorem zw_565 : Cond.methodLink "PrimeCertificates$Trial" 55 ⟨"PrimeCertificates$Sums", "greatestDivisor", "([I[I[I)V"⟩ ∈ dzGW := dzGW_in (i := 565) (by decide +kernel) (by rfl)
theorem zw_15 : Cond.methodLink "PrimeCertificatesLaw" 9 ⟨"PrimeCertificates", "<init>", "()V"⟩ ∈ dzGW := dzGW_in (i := 15) (by decide +kernel) (by rfl)
theorem zw_666 : Cond.methodLink "PrimeCertificatesLaw" 12 ⟨"PrimeCertificatesModel", "<init>", "()V"⟩ ∈ dzGW := dzGW_in (i := 666) (by decide +kernel) (by rfl)
theorem zw_277 : Cond.methodLink "PrimeCertificatesLaw" 13 ⟨"PrimeCertificates", "put", "(III)Z"⟩ ∈ dzGW := dzGW_in (i := 277) (by decide +kernel) (by rfl)
theorem zw_712 : Cond.methodLink "PrimeCertificatesLaw" 17 ⟨"PrimeCertificatesModel", "put", "(III)Z"⟩ ∈ dzGW := dzGW_in (i := 712) (by decide +kernel) (by rfl)
theorem zw_287 : Cond.methodLink "PrimeCertificatesLaw" 18 ⟨"PrimeCertificates", "get", "(II)I"⟩ ∈ dzGW := dzGW_in (i := 287) (by decide +kernel) (by rfl)
theorem zw_720 : Cond.methodLink "PrimeCertificatesLaw" 22 ⟨"PrimeCertificatesModel", "get", "(II)I"⟩ ∈ dzGW := dzGW_in (i := 720) (by decide +kernel) (by rfl)
theorem zw_291 : Cond.methodLink "PrimeCertificatesLaw" 23 ⟨"PrimeCertificates", "add", "(III)I"⟩ ∈ dzGW := dzGW_in (i := 291) (by decide +kernel) (by rfl)
theorem zw_724 : Cond.methodLink "PrimeCertificatesLaw" 27 ⟨"PrimeCertificatesModel", "add", "(III)I"⟩ ∈ dzGW := dzGW_in (i := 724) (by decide +kernel) (by rfl)
theorem zw_312 : Cond.methodLink "PrimeCertificatesLaw" 28 ⟨"PrimeCertificates", "subtract", "(III)I"⟩ ∈ dzGW := dzGW_in (i := 312) (by decide +kernel) (by rfl)
theorem zw_751 : Cond.methodLink "PrimeCertificatesLaw" 31 ⟨"PrimeCertificatesModel", "subtract", "(III)I"⟩ ∈ dzGW := dzGW_in (i := 751) (by decide +kernel) (by rfl)
theorem zw_319 : Cond.methodLink "PrimeCertificatesLaw" 32 ⟨"PrimeCertificates", "multiply", "(III)I"⟩ ∈ dzGW := dzGW_in (i := 319) (by decide +kernel) (by rfl)
theorem zw_763 : Cond.methodLink "PrimeCertificatesLaw" 35 ⟨"PrimeCertificatesModel", "multiply", "(III)I"⟩ ∈ dzGW := dzGW_in (i := 763) (by decide +kernel) (by rfl)
theorem zw_338 : Cond.methodLink "PrimeCertificatesLaw" 36 ⟨"PrimeCertificates", "divide", "(IIII)I"⟩ ∈ dzGW := dzGW_in (i := 338) (by decide +kernel) (by rfl)
theorem zw_771 : Cond.methodLink "PrimeCertificatesLaw" 40 ⟨"PrimeCertificatesModel", "divide", "(IIII)I"⟩ ∈ dzGW := dzGW_in (i := 771) (by decide +kernel) (by rfl)
theorem zw_388 : Cond.methodLink "PrimeCertificatesLaw" 41 ⟨"PrimeCertificates", "power", "(IIII)I"⟩ ∈ dzGW := dzGW_in (i := 388) (by decide +kernel) (by rfl)
theorem zw_795 : Cond.methodLink "PrimeCertificatesLaw" 44 ⟨"PrimeCertificatesModel", "power", "(IIII)I"⟩ ∈ dzGW := dzGW_in (i := 795) (by decide +kernel) (by rfl)
theorem zw_399 : Cond.methodLink "PrimeCertificatesLaw" 45 ⟨"PrimeCertificates", "common", "(III)I"⟩ ∈ dzGW := dzGW_in (i := 399) (by decide +kernel) (by rfl)
theorem zw_807 : Cond.methodLink "PrimeCertificatesLaw" 48 ⟨"PrimeCertificatesModel", "common", "(III)I"⟩ ∈ dzGW := dzGW_in (i := 807) (by decide +kernel) (by rfl)
theorem zw_408 : Cond.methodLink "PrimeCertificatesLaw" 49 ⟨"PrimeCertificates", "compare", "(II)I"⟩ ∈ dzGW := dzGW_in (i := 408) (by decide +kernel) (by rfl)
theorem zw_815 : Cond.methodLink "PrimeCertificatesLaw" 52 ⟨"PrimeCertificatesModel", "compare", "(II)I"⟩ ∈ dzGW := dzGW_in (i := 815) (by decide +kernel) (by rfl)
theorem zw_415 : Cond.methodLink "PrimeCertificatesLaw" 53 ⟨"PrimeCertificates", "say", "(I)I"⟩ ∈ dzGW := dzGW_in (i := 415) (by decide +kernel) (by rfl)
theorem zw_819 : Cond.methodLink "PrimeCertificatesLaw" 57 ⟨"PrimeCertificatesModel", "say", "(I)I"⟩ ∈ dzGW := dzGW_in (i := 819) (by decide +kernel) (by rfl)
theorem zw_427 : Cond.methodLink "PrimeCertificatesLaw" 58 ⟨"PrimeCertificates", "cut", "(I)Z"⟩ ∈ dzGW := dzGW_in (i := 427) (by decide +kernel) (by rfl)
theorem zw_823 : Cond.methodLink "PrimeCertificatesLaw" 62 ⟨"PrimeCertificatesModel", "cut", "(I)Z"⟩ ∈ dzGW := dzGW_in (i := 823) (by decide +kernel) (by rfl)
theorem zw_435 : Cond.methodLink "PrimeCertificatesLaw" 63 ⟨"PrimeCertificates", "length", "()I"⟩ ∈ dzGW := dzGW_in (i := 435) (by decide +kernel) (by rfl)
theorem zw_827 : Cond.methodLink "PrimeCertificatesLaw" 67 ⟨"PrimeCertificatesModel", "length", "()I"⟩ ∈ dzGW := dzGW_in (i := 827) (by decide +kernel) (by rfl)
theorem zw_439 : Cond.methodLink "PrimeCertificatesLaw" 68 ⟨"PrimeCertificates", "at", "(I)I"⟩ ∈ dzGW := dzGW_in (i := 439) (by decide +kernel) (by rfl)
theorem zw_831 : Cond.methodLink "PrimeCertificatesLaw" 71 ⟨"PrimeCertificatesModel", "at", "(I)I"⟩ ∈ dzGW := dzGW_in (i := 831) (by decide +kernel) (by rfl)
theorem zw_443 : Cond.methodLink "PrimeCertificatesLaw" 72 ⟨"PrimeCertificates", "check", "()I"⟩ ∈ dzGW := dzGW_in (i := 443) (by decide +kernel) (by rfl)
theorem zw_835 : Cond.methodLink "PrimeCertificatesLaw" 75 ⟨"PrimeCertificatesModel", "check", "()I"⟩ ∈ dzGW := dzGW_in (i := 835) (by decide +kernel) (by rfl)
theorem zw_570 : Cond.methodLink "PrimeCertificatesLaw" 76 ⟨"PrimeCertificates", "place", "()I"⟩ ∈ dzGW := dzGW_in (i := 570) (by decide +kernel) (by rfl)
theorem zw_899 : Cond.methodLink "PrimeCertificatesLaw" 79 ⟨"PrimeCertificatesModel", "place", "()I"⟩ ∈ dzGW := dzGW_in (i := 899) (by decide +kernel) (by rfl)
theorem zw_574 : Cond.methodLink "PrimeCertificatesLaw" 80 ⟨"PrimeCertificates", "tell", "(II)Z"⟩ ∈ dzGW := dzGW_in (i := 574) (by decide +kernel) (by rfl)
theorem zw_903 : Cond.methodLink "PrimeCertificatesLaw" 84 ⟨"PrimeCertificatesModel", "tell", "(II)Z"⟩ ∈ dzGW := dzGW_in (i := 903) (by decide +kernel) (by rfl)
theorem zw_578 : Cond.methodLink "PrimeCertificatesLaw" 85 ⟨"PrimeCertificates", "prove", "(I)I"⟩ ∈ dzGW := dzGW_in (i := 578) (by decide +kernel) (by rfl)
theorem zw_907 : Cond.methodLink "PrimeCertificatesLaw" 88 ⟨"PrimeCertificatesModel", "prove", "(I)I"⟩ ∈ dzGW := dzGW_in (i := 907) (by decide +kernel) (by rfl)
def zl_c : List (Nat × Nat × Nat) := [(0, 44, 3), (0, 49, 5), (0, 58, 6), (0, 63, 8), (0, 67, 9), (0, 70, 12), (0, 74, 13), (0, 78, 15), (0, 82, 17), (0, 85, 22), (0, 88, 24), (0, 92, 35), (0, 96, 14), (0, 100, 38), (0, 103, 40), (0, 107, 42), (0, 111, 44), (0, 115, 45), (0, 123, 47), (0, 129, 79), (0, 144, 97), (1, 29, 99), (1, 35, 103), (1, 40, 101), (1, 44, 108), (1, 48, 109), (1, 52, 110), (1, 56, 111), (1, 60, 107), (1, 64, 112), (1, 68, 104), (1, 72, 102), (1, 75, 117), (1, 78, 115), (1, 81, 120), (1, 85, 105), (1, 88, 121), (1, 91, 106), (1, 94, 113), (1, 97, 114), (1, 106, 134), (1, 113, 133), (1, 116, 135), (1, 120, 137), (1, 126, 136), (1, 131, 116), (1, 134, 139), (1, 137, 140), (1, 141, 141), (1, 144, 142), (1, 148, 143), (1, 151, 144), (1, 158, 138), (1, 161, 145), (1, 164, 146), (1, 167, 129), (1, 173, 152), (1, 176, 150), (1, 179, 151), (1, 184, 153), (1, 187, 154), (1, 190, 155), (1, 193, 157), (1, 196, 156), (1, 199, 147), (1, 202, 158), (2, 60, 51), (2, 74, 65), (2, 82, 66), (2, 88, 70), (2, 92, 75), (2, 95, 77), (2, 98, 78), (2, 102, 52), (2, 112, 53), (2, 115, 56), (2, 119, 58), (2, 122, 60), (2, 125, 64), (2, 128, 55), (2, 135, 37), (2, 141, 20), (2, 146, 57), (2, 150, 59), (2, 155, 62), (2, 158, 63), (2, 166, 61), (2, 170, 42), (2, 177, 67), (2, 183, 68), (2, 190, 69), (2, 193, 22), (2, 196, 72), (2, 199, 73), (2, 202, 74), (2, 206, 76), (4, 27, 42), (5, 54, 83), (5, 61, 57), (5, 71, 84), (5, 75, 85), (5, 78, 86), (5, 82, 66), (5, 88, 91), (5, 92, 71), (5, 95, 92), (5, 99, 93), (5, 102, 94), (5, 105, 95), (5, 108, 96), (5, 117, 14), (5, 121, 37), (5, 125, 87), (5, 128, 90), (5, 136, 89), (5, 140, 35), (5, 144, 24), (5, 147, 88), (5, 151, 42), (5, 160, 44), (5, 168, 19), (5, 171, 69), (5, 175, 73), (5, 179, 72), (5, 191, 76), (5, 194, 45), (5, 201, 78), (6, 40, 19), (6, 52, 20), (6, 58, 21), (6, 62, 14), (6, 65, 42), (6, 69, 27), (6, 73, 28), (6, 76, 34), (6, 79, 24), (6, 83, 37), (6, 86, 25), (6, 90, 26), (6, 94, 30), (6, 98, 31), (6, 102, 32), (6, 106, 33), (6, 109, 29), (8, 34, 14), (8, 40, 17), (8, 44, 38), (8, 48, 71), (8, 52, 35), (8, 55, 40), (9, 9, 7), (9, 12, 100), (9, 13, 10), (9, 17, 118), (9, 18, 11), (9, 22, 119), (9, 23, 16), (9, 27, 122), (9, 28, 18), (9, 31, 123), (9, 32, 23), (9, 35, 124), (9, 36, 36), (9, 40, 125), (9, 41, 39), (9, 44, 126), (9, 45, 41), (9, 48, 127), (9, 49, 43), (9, 52, 128), (9, 53, 46), (9, 57, 129), (9, 58, 48), (9, 62, 130), (9, 63, 49), (9, 67, 131), (9, 68, 50), (9, 71, 132), (9, 72, 80), (9, 75, 147), (9, 76, 81), (9, 79, 148), (9, 80, 82), (9, 84, 149), (9, 85, 98), (9, 88, 159)]
set_option maxRecDepth 100000 in
theorem zl_c_ok : ∀ q ∈ zl_c, Cond.methodLink (dzCn q.1) q.2.1 (dzY q.2.2) ∈ dzGW := List.forall_mem_cons.mpr ⟨zw_106, List.forall_mem_cons.mpr ⟨zw_138, List.forall_mem_cons.mpr ⟨zw_212, List.forall_mem_cons.mpr ⟨zw_281, List.forall_mem_cons.mpr ⟨zw_284, List.forall_mem_cons.mpr ⟨zw_295, List.forall_mem_cons.mpr ⟨zw_298, List.forall_mem_cons.mpr ⟨zw_302, List.forall_mem_cons.mpr ⟨zw_316, List.forall_mem_cons.mpr ⟨zw_323, List.forall_mem_cons.mpr ⟨zw_342, List.forall_mem_cons.mpr ⟨zw_345, List.forall_mem_cons.mpr ⟨zw_306, List.forall_mem_cons.mpr ⟨zw_392, List.forall_mem_cons.mpr ⟨zw_403, List.forall_mem_cons.mpr ⟨zw_412, List.forall_mem_cons.mpr ⟨zw_419, List.forall_mem_cons.mpr ⟨zw_423, List.forall_mem_cons.mpr ⟨zw_431, List.forall_mem_cons.mpr ⟨zw_447, List.forall_mem_cons.mpr ⟨zw_582, List.forall_mem_cons.mpr ⟨zw_670, List.forall_mem_cons.mpr ⟨zw_747, List.forall_mem_cons.mpr ⟨zw_731, List.forall_mem_cons.mpr ⟨zw_783, List.forall_mem_cons.mpr ⟨zw_787, List.forall_mem_cons.mpr ⟨zw_791, List.forall_mem_cons.mpr ⟨zw_779, List.forall_mem_cons.mpr ⟨zw_767, List.forall_mem_cons.mpr ⟨zw_803, List.forall_mem_cons.mpr ⟨zw_775, List.forall_mem_cons.mpr ⟨zw_755, List.forall_mem_cons.mpr ⟨zw_716, List.forall_mem_cons.mpr ⟨zw_743, List.forall_mem_cons.mpr ⟨zw_728, List.forall_mem_cons.mpr ⟨zw_735, List.forall_mem_cons.mpr ⟨zw_739, List.forall_mem_cons.mpr ⟨zw_759, List.forall_mem_cons.mpr ⟨zw_799, List.forall_mem_cons.mpr ⟨zw_811, List.forall_mem_cons.mpr ⟨zw_839, List.forall_mem_cons.mpr ⟨zw_843, List.forall_mem_cons.mpr ⟨zw_851, List.forall_mem_cons.mpr ⟨zw_859, List.forall_mem_cons.mpr ⟨zw_847, List.forall_mem_cons.mpr ⟨zw_887, List.forall_mem_cons.mpr ⟨zw_866, List.forall_mem_cons.mpr ⟨zw_871, List.forall_mem_cons.mpr ⟨zw_875, List.forall_mem_cons.mpr ⟨zw_879, List.forall_mem_cons.mpr ⟨zw_883, List.forall_mem_cons.mpr ⟨zw_891, List.forall_mem_cons.mpr ⟨zw_855, List.forall_mem_cons.mpr ⟨zw_862, List.forall_mem_cons.mpr ⟨zw_895, List.forall_mem_cons.mpr ⟨zw_924, List.forall_mem_cons.mpr ⟨zw_929, List.forall_mem_cons.mpr ⟨zw_912, List.forall_mem_cons.mpr ⟨zw_920, List.forall_mem_cons.mpr ⟨zw_934, List.forall_mem_cons.mpr ⟨zw_925, List.forall_mem_cons.mpr ⟨zw_938, List.forall_mem_cons.mpr ⟨zw_942, List.forall_mem_cons.mpr ⟨zw_946, List.forall_mem_cons.mpr ⟨zw_911, List.forall_mem_cons.mpr ⟨zw_916, List.forall_mem_cons.mpr ⟨zw_451, List.forall_mem_cons.mpr ⟨zw_455, List.forall_mem_cons.mpr ⟨zw_512, List.forall_mem_cons.mpr ⟨zw_518, List.forall_mem_cons.mpr ⟨zw_536, List.forall_mem_cons.mpr ⟨zw_557, List.forall_mem_cons.mpr ⟨zw_566, List.forall_mem_cons.mpr ⟨zw_463, List.forall_mem_cons.mpr ⟨zw_459, List.forall_mem_cons.mpr ⟨zw_467, List.forall_mem_cons.mpr ⟨zw_480, List.forall_mem_cons.mpr ⟨zw_488, List.forall_mem_cons.mpr ⟨zw_495, List.forall_mem_cons.mpr ⟨zw_475, List.forall_mem_cons.mpr ⟨zw_479, List.forall_mem_cons.mpr ⟨zw_484, List.forall_mem_cons.mpr ⟨zw_485, List.forall_mem_cons.mpr ⟨zw_492, List.forall_mem_cons.mpr ⟨zw_499, List.forall_mem_cons.mpr ⟨zw_508, List.forall_mem_cons.mpr ⟨zw_503, List.forall_mem_cons.mpr ⟨zw_507, List.forall_mem_cons.mpr ⟨zw_522, List.forall_mem_cons.mpr ⟨zw_527, List.forall_mem_cons.mpr ⟨zw_531, List.forall_mem_cons.mpr ⟨zw_526, List.forall_mem_cons.mpr ⟨zw_540, List.forall_mem_cons.mpr ⟨zw_548, List.forall_mem_cons.mpr ⟨zw_553, List.forall_mem_cons.mpr ⟨zw_561, List.forall_mem_cons.mpr ⟨zw_590, List.forall_mem_cons.mpr ⟨zw_586, List.forall_mem_cons.mpr ⟨zw_592, List.forall_mem_cons.mpr ⟨zw_594, List.forall_mem_cons.mpr ⟨zw_599, List.forall_mem_cons.mpr ⟨zw_604, List.forall_mem_cons.mpr ⟨zw_610, List.forall_mem_cons.mpr ⟨zw_611, List.forall_mem_cons.mpr ⟨zw_635, List.forall_mem_cons.mpr ⟨zw_636, List.forall_mem_cons.mpr ⟨zw_641, List.forall_mem_cons.mpr ⟨zw_646, List.forall_mem_cons.mpr ⟨zw_652, List.forall_mem_cons.mpr ⟨zw_660, List.forall_mem_cons.mpr ⟨zw_598, List.forall_mem_cons.mpr ⟨zw_615, List.forall_mem_cons.mpr ⟨zw_616, List.forall_mem_cons.mpr ⟨zw_622, List.forall_mem_cons.mpr ⟨zw_626, List.forall_mem_cons.mpr ⟨zw_620, List.forall_mem_cons.mpr ⟨zw_621, List.forall_mem_cons.mpr ⟨zw_630, List.forall_mem_cons.mpr ⟨zw_634, List.forall_mem_cons.mpr ⟨zw_603, List.forall_mem_cons.mpr ⟨zw_640, List.forall_mem_cons.mpr ⟨zw_645, List.forall_mem_cons.mpr ⟨zw_650, List.forall_mem_cons.mpr ⟨zw_651, List.forall_mem_cons.mpr ⟨zw_659, List.forall_mem_cons.mpr ⟨zw_608, List.forall_mem_cons.mpr ⟨zw_609, List.forall_mem_cons.mpr ⟨zw_331, List.forall_mem_cons.mpr ⟨zw_334, List.forall_mem_cons.mpr ⟨zw_327, List.forall_mem_cons.mpr ⟨zw_337, List.forall_mem_cons.mpr ⟨zw_535, List.forall_mem_cons.mpr ⟨zw_349, List.forall_mem_cons.mpr ⟨zw_360, List.forall_mem_cons.mpr ⟨zw_364, List.forall_mem_cons.mpr ⟨zw_407, List.forall_mem_cons.mpr ⟨zw_396, List.forall_mem_cons.mpr ⟨zw_353, List.forall_mem_cons.mpr ⟨zw_356, List.forall_mem_cons.mpr ⟨zw_368, List.forall_mem_cons.mpr ⟨zw_376, List.forall_mem_cons.mpr ⟨zw_380, List.forall_mem_cons.mpr ⟨zw_384, List.forall_mem_cons.mpr ⟨zw_372, List.forall_mem_cons.mpr ⟨zw_516, List.forall_mem_cons.mpr ⟨zw_517, List.forall_mem_cons.mpr ⟨zw_544, List.forall_mem_cons.mpr ⟨zw_545, List.forall_mem_cons.mpr ⟨zw_552, List.forall_mem_cons.mpr ⟨zw_565, List.forall_mem_cons.mpr ⟨zw_15, List.forall_mem_cons.mpr ⟨zw_666, List.forall_mem_cons.mpr ⟨zw_277, List.forall_mem_cons.mpr ⟨zw_712, List.forall_mem_cons.mpr ⟨zw_287, List.forall_mem_cons.mpr ⟨zw_720, List.forall_mem_cons.mpr ⟨zw_291, List.forall_mem_cons.mpr ⟨zw_724, List.forall_mem_cons.mpr ⟨zw_312, List.forall_mem_cons.mpr ⟨zw_751, List.forall_mem_cons.mpr ⟨zw_319, List.forall_mem_cons.mpr ⟨zw_763, List.forall_mem_cons.mpr ⟨zw_338, List.forall_mem_cons.mpr ⟨zw_771, List.forall_mem_cons.mpr ⟨zw_388, List.forall_mem_cons.mpr ⟨zw_795, List.forall_mem_cons.mpr ⟨zw_399, List.forall_mem_cons.mpr ⟨zw_807, List.forall_mem_cons.mpr ⟨zw_408, List.forall_mem_cons.mpr ⟨zw_815, List.forall_mem_cons.mpr ⟨zw_415, List.forall_mem_cons.mpr ⟨zw_819, List.forall_mem_cons.mpr ⟨zw_427, List.forall_mem_cons.mpr ⟨zw_823, List.forall_mem_cons.mpr ⟨zw_435, List.forall_mem_cons.mpr ⟨zw_827, List.forall_mem_cons.mpr ⟨zw_439, List.forall_mem_cons.mpr ⟨zw_831, List.forall_mem_cons.mpr ⟨zw_443, List.forall_mem_cons.mpr ⟨zw_835, List.forall_mem_cons.mpr ⟨zw_570, List.forall_mem_cons.mpr ⟨zw_899, List.forall_mem_cons.mpr ⟨zw_574, List.forall_mem_cons.mpr ⟨zw_903, List.forall_mem_cons.mpr ⟨zw_578, List.forall_mem_cons.mpr ⟨zw_907, fun _ h => absurd h List.not_mem_nil⟩⟩⟩⟩⟩⟩⟩⟩⟩⟩⟩⟩⟩⟩⟩⟩⟩⟩⟩⟩⟩⟩⟩⟩⟩⟩⟩⟩⟩⟩⟩⟩⟩⟩⟩⟩⟩⟩⟩⟩⟩⟩⟩⟩⟩⟩⟩⟩⟩⟩⟩⟩⟩⟩⟩⟩⟩⟩⟩⟩⟩⟩⟩⟩⟩⟩⟩⟩⟩⟩⟩⟩⟩⟩⟩⟩⟩⟩⟩⟩⟩⟩⟩⟩⟩⟩⟩⟩⟩⟩⟩⟩⟩⟩⟩⟩⟩⟩⟩⟩⟩⟩⟩⟩⟩⟩⟩⟩⟩⟩⟩⟩⟩⟩⟩⟩⟩⟩⟩⟩⟩⟩⟩⟩⟩⟩⟩⟩⟩⟩⟩⟩⟩⟩⟩⟩⟩⟩⟩⟩⟩⟩⟩⟩⟩⟩⟩⟩⟩⟩⟩⟩⟩⟩⟩⟩⟩⟩⟩⟩⟩⟩⟩⟩⟩⟩⟩⟩⟩⟩⟩⟩⟩⟩⟩⟩⟩⟩⟩⟩⟩⟩⟩⟩⟩⟩
/-- calls of a nest mate's private method -/
def zl_n : List (Nat × Nat × Nat) := [(0, 23, 0), (0, 30, 1), (0, 37, 2), (2, 11, 4), (2, 132, 54), (5, 11, 4), (5, 67, 54)]
def dzNw (q : Nat × Nat × Nat) : Cond := Cond.methodLinkNest (dzCn q.1) q.2.1 (dzY q.2.2) "PrimeCertificates"
theorem zl_n_ok : ∀ q ∈ zl_n, dzNw q ∈ lw_tbl := List.forall_mem_cons.mpr ⟨List.mem_append_right _ (List.mem_of_getElem? (i := 25) (by decide +kernel)), List.forall_mem_cons.mpr ⟨List.mem_append_right _ (List.mem_of_getElem? (i := 60) (by decide +kernel)), List.forall_mem_cons.mpr ⟨List.mem_append_right _ (List.mem_of_getElem? (i := 78) (by decide +kernel)), List.forall_mem_cons.mpr ⟨List.mem_append_right _ (List.mem_of_getElem? (i := 144) (by decide +kernel)), List.forall_mem_cons.mpr ⟨List.mem_append_right _ (List.mem_of_getElem? (i := 472) (by decide +kernel)), List.forall_mem_cons.mpr ⟨List.mem_append_right _ (List.mem_of_getElem? (i := 217) (by decide +kernel)), List.forall_mem_cons.mpr ⟨List.mem_append_right _ (List.mem_of_getElem? (i := 593) (by decide +kernel)), fun _ h => absurd h List.not_mem_nil⟩⟩⟩⟩⟩⟩⟩
theorem zl_over : Cond.arrayOver (.array .int) ∈ lw_tbl := List.mem_append_right _ (List.mem_of_getElem? (i := 22) (by decide +kernel))
theorem zw_674 : Cond.constantLong "PrimeCertificatesModel" 33 (65535 : Int64) ∈ dzGW := dzGW_in (i := 674) (by decide +kernel) (by rfl)
theorem zw_719 : Cond.constant "PrimeCertificatesModel" 39 (65535 : Int32) ∈ dzGW := dzGW_in (i := 719) (by decide +kernel) (by rfl)
theorem zw_870 : Cond.constantLong "PrimeCertificatesModel" 129 (3 : Int64) ∈ dzGW := dzGW_in (i := 870) (by decide +kernel) (by rfl)
theorem zw_933 : Cond.constantLong "PrimeCertificatesModel" 182 (1009 : Int64) ∈ dzGW := dzGW_in (i := 933) (by decide +kernel) (by rfl)
theorem zw_471 : Cond.constant "PrimeCertificates$Checker" 131 (65535 : Int32) ∈ dzGW := dzGW_in (i := 471) (by decide +kernel) (by rfl)
theorem zw_591 : Cond.constant "PrimeCertificates$Maker" 60 (65535 : Int32) ∈ dzGW := dzGW_in (i := 591) (by decide +kernel) (by rfl)
theorem zw_301 : Cond.constantLong "PrimeCertificates$Sums" 44 (4294967295 : Int64) ∈ dzGW := dzGW_in (i := 301) (by decide +kernel) (by rfl)
theorem zw_375 : Cond.constantLong "PrimeCertificates$Sums" 113 (-9223372036854775808 : Int64) ∈ dzGW := dzGW_in (i := 375) (by decide +kernel) (by rfl)
def dzKw (q : Nat × Nat × Value) : Cond := match q.2.2 with
  | .int v => Cond.constant (dzCn q.1) q.2.1 v
  | .long v => Cond.constantLong (dzCn q.1) q.2.1 v
  | _ => Cond.tt
def zl_k : List (Nat × Nat × Value) := [(1, 33, .long (65535)), (1, 39, .int (65535)), (1, 129, .long (3)), (1, 182, .long (1009)), (2, 131, .int (65535)), (5, 60, .int (65535)), (6, 44, .long (4294967295)), (6, 113, .long (-9223372036854775808))]
theorem zl_k_ok : ∀ q ∈ zl_k, dzKw q ∈ dzGW := List.forall_mem_cons.mpr ⟨zw_674, List.forall_mem_cons.mpr ⟨zw_719, List.forall_mem_cons.mpr ⟨zw_870, List.forall_mem_cons.mpr ⟨zw_933, List.forall_mem_cons.mpr ⟨zw_471, List.forall_mem_cons.mpr ⟨zw_591, List.forall_mem_cons.mpr ⟨zw_301, List.forall_mem_cons.mpr ⟨zw_375, fun _ h => absurd h List.not_mem_nil⟩⟩⟩⟩⟩⟩⟩⟩
theorem zw_23 : Cond.classLink "PrimeCertificates" 21 "PrimeCertificates$Sums" ∈ dzGW := dzGW_in (i := 23) (by decide +kernel) (by rfl)
theorem zw_58 : Cond.classLink "PrimeCertificates" 28 "PrimeCertificates$Tape" ∈ dzGW := dzGW_in (i := 58) (by decide +kernel) (by rfl)
theorem zw_76 : Cond.classLink "PrimeCertificates" 35 "PrimeCertificates$Lines" ∈ dzGW := dzGW_in (i := 76) (by decide +kernel) (by rfl)
theorem zw_104 : Cond.classLink "PrimeCertificates" 42 "PrimeCertificates$Trial" ∈ dzGW := dzGW_in (i := 104) (by decide +kernel) (by rfl)
theorem zw_136 : Cond.classLink "PrimeCertificates" 47 "PrimeCertificates$Checker" ∈ dzGW := dzGW_in (i := 136) (by decide +kernel) (by rfl)
theorem zw_210 : Cond.classLink "PrimeCertificates" 56 "PrimeCertificates$Maker" ∈ dzGW := dzGW_in (i := 210) (by decide +kernel) (by rfl)
theorem zw_142 : Cond.classLink "PrimeCertificates$Checker" 9 "PrimeCertificates$Factors" ∈ dzGW := dzGW_in (i := 142) (by decide +kernel) (by rfl)
theorem zw_216 : Cond.classLink "PrimeCertificates$Maker" 9 "PrimeCertificates$Factors" ∈ dzGW := dzGW_in (i := 216) (by decide +kernel) (by rfl)
theorem zw_13 : Cond.classLink "PrimeCertificatesLaw" 7 "PrimeCertificates" ∈ dzGW := dzGW_in (i := 13) (by decide +kernel) (by rfl)
theorem zw_664 : Cond.classLink "PrimeCertificatesLaw" 10 "PrimeCertificatesModel" ∈ dzGW := dzGW_in (i := 664) (by decide +kernel) (by rfl)
def zl_o : List (Nat × Nat × Nat) := [(0, 21, 6), (0, 28, 7), (0, 35, 4), (0, 42, 8), (0, 47, 2), (0, 56, 5), (2, 9, 3), (5, 9, 3), (9, 7, 0), (9, 10, 1)]
theorem zl_o_ok : ∀ q ∈ zl_o, Cond.classLink (dzCn q.1) q.2.1 (dzCn q.2.2) ∈ dzGW := List.forall_mem_cons.mpr ⟨zw_23, List.forall_mem_cons.mpr ⟨zw_58, List.forall_mem_cons.mpr ⟨zw_76, List.forall_mem_cons.mpr ⟨zw_104, List.forall_mem_cons.mpr ⟨zw_136, List.forall_mem_cons.mpr ⟨zw_210, List.forall_mem_cons.mpr ⟨zw_142, List.forall_mem_cons.mpr ⟨zw_216, List.forall_mem_cons.mpr ⟨zw_13, List.forall_mem_cons.mpr ⟨zw_664, fun _ h => absurd h List.not_mem_nil⟩⟩⟩⟩⟩⟩⟩⟩⟩⟩
theorem zw_21 : Cond.classLink "PrimeCertificates" 9 "[[I" ∈ dzGW := dzGW_in (i := 21) (by decide +kernel) (by rfl)
theorem zw_82 : Cond.classLink "PrimeCertificates$Lines" 9 "[[I" ∈ dzGW := dzGW_in (i := 82) (by decide +kernel) (by rfl)
def zl_m : List (Nat × Nat) := [(0, 9), (4, 9)]
theorem zl_m_ok : ∀ q ∈ zl_m, Cond.classLink (dzCn q.1) q.2 "[[I" ∈ dzGW := List.forall_mem_cons.mpr ⟨zw_21, List.forall_mem_cons.mpr ⟨zw_82, fun _ h => absurd h List.not_mem_nil⟩⟩
theorem zw_309 : Cond.methodLink "PrimeCertificates$Sums" 46 ⟨"java/lang/System", "arraycopy", "(Ljava/lang/Object;ILjava/lang/Object;II)V"⟩ ∈ dzGW := dzGW_in (i := 309) (by decide +kernel) (by rfl)
def zl_a : List (Nat × Nat) := [(6, 46)]
theorem zl_a_ok : ∀ q ∈ zl_a, Cond.methodLink (dzCn q.1) q.2 ⟨"java/lang/System", "arraycopy", "(Ljava/lang/Object;ILjava/lang/Object;II)V"⟩ ∈ dzGW := List.forall_mem_cons.mpr ⟨zw_309, fun _ h => absurd h List.not_mem_nil⟩
theorem zw_18 : Cond.methodLink "PrimeCertificates" 1 ⟨"java/lang/Object", "<init>", "()V"⟩ ∈ dzGW := dzGW_in (i := 18) (by decide +kernel) (by rfl)
theorem zw_669 : Cond.methodLink "PrimeCertificatesModel" 1 ⟨"java/lang/Object", "<init>", "()V"⟩ ∈ dzGW := dzGW_in (i := 669) (by decide +kernel) (by rfl)
theorem zw_141 : Cond.methodLink "PrimeCertificates$Checker" 3 ⟨"java/lang/Object", "<init>", "()V"⟩ ∈ dzGW := dzGW_in (i := 141) (by decide +kernel) (by rfl)
theorem zw_147 : Cond.methodLink "PrimeCertificates$Factors" 3 ⟨"java/lang/Object", "<init>", "()V"⟩ ∈ dzGW := dzGW_in (i := 147) (by decide +kernel) (by rfl)
theorem zw_81 : Cond.methodLink "PrimeCertificates$Lines" 3 ⟨"java/lang/Object", "<init>", "()V"⟩ ∈ dzGW := dzGW_in (i := 81) (by decide +kernel) (by rfl)
theorem zw_215 : Cond.methodLink "PrimeCertificates$Maker" 3 ⟨"java/lang/Object", "<init>", "()V"⟩ ∈ dzGW := dzGW_in (i := 215) (by decide +kernel) (by rfl)
theorem zw_28 : Cond.methodLink "PrimeCertificates$Sums" 3 ⟨"java/lang/Object", "<init>", "()V"⟩ ∈ dzGW := dzGW_in (i := 28) (by decide +kernel) (by rfl)
theorem zw_63 : Cond.methodLink "PrimeCertificates$Tape" 3 ⟨"java/lang/Object", "<init>", "()V"⟩ ∈ dzGW := dzGW_in (i := 63) (by decide +kernel) (by rfl)
theorem zw_109 : Cond.methodLink "PrimeCertificates$Trial" 3 ⟨"java/lang/Object", "<init>", "()V"⟩ ∈ dzGW := dzGW_in (i := 109) (by decide +kernel) (by rfl)
def zl_i : List (Nat × Nat) := [(0, 1), (1, 1), (2, 3), (3, 3), (4, 3), (5, 3), (6, 3), (7, 3), (8, 3)]
theorem zl_i_ok : ∀ q ∈ zl_i, Cond.methodLink (dzCn q.1) q.2 ⟨"java/lang/Object", "<init>", "()V"⟩ ∈ dzGW := List.forall_mem_cons.mpr ⟨zw_18, List.forall_mem_cons.mpr ⟨zw_669, List.forall_mem_cons.mpr ⟨zw_141, List.forall_mem_cons.mpr ⟨zw_147, List.forall_mem_cons.mpr ⟨zw_81, List.forall_mem_cons.mpr ⟨zw_215, List.forall_mem_cons.mpr ⟨zw_28, List.forall_mem_cons.mpr ⟨zw_63, List.forall_mem_cons.mpr ⟨zw_109, fun _ h => absurd h List.not_mem_nil⟩⟩⟩⟩⟩⟩⟩⟩⟩
theorem zw_656 : Cond.methodLink "PrimeCertificates$Maker" 185 ⟨"java/lang/Math", "max", "(II)I"⟩ ∈ dzGW := dzGW_in (i := 656) (by decide +kernel) (by rfl)
def zl_x : List (Nat × Nat) := [(5, 185)]
theorem zl_x_ok : ∀ q ∈ zl_x, Cond.methodLink (dzCn q.1) q.2 ⟨"java/lang/Math", "max", "(II)I"⟩ ∈ dzGW := List.forall_mem_cons.mpr ⟨zw_656, fun _ h => absurd h List.not_mem_nil⟩
theorem zw_657 : Cond.static ⟨"java/lang/Math", "max", "(II)I"⟩ ∈ dzGW := dzGW_in (i := 657) (by decide +kernel) (by rfl)
theorem zw_12 : Cond.initialized "java/lang/Math" ∈ dzGW := dzGW_in (i := 12) (by decide +kernel) (by rfl)
set_option maxRecDepth 100000 in
theorem zs_mx : Cond.static Lib.Math.max.name ∈ dzGW ∧ Cond.initialized "java/lang/Math" ∈ dzGW ∧ Cond.code Lib.Math.max.name Lib.Math.max.code 2 (some .int) ∈ dzGW := ⟨zw_657, zw_12, dzGW_in (i := 658) (by rfl) (by rfl)⟩
theorem zw_311 : Cond.native ⟨"java/lang/System", "arraycopy", "(Ljava/lang/Object;ILjava/lang/Object;II)V"⟩ ∈ dzGW := dzGW_in (i := 311) (by decide +kernel) (by rfl)
theorem zw_310 : Cond.static ⟨"java/lang/System", "arraycopy", "(Ljava/lang/Object;ILjava/lang/Object;II)V"⟩ ∈ dzGW := dzGW_in (i := 310) (by decide +kernel) (by rfl)
theorem zw_10 : Cond.initialized "java/lang/System" ∈ dzGW := dzGW_in (i := 10) (by decide +kernel) (by rfl)
theorem zs_ac : Cond.native ⟨"java/lang/System", "arraycopy", "(Ljava/lang/Object;ILjava/lang/Object;II)V"⟩ ∈ dzGW ∧ Cond.static ⟨"java/lang/System", "arraycopy", "(Ljava/lang/Object;ILjava/lang/Object;II)V"⟩ ∈ dzGW ∧ Cond.initialized "java/lang/System" ∈ dzGW := ⟨zw_311, zw_310, zw_10⟩
theorem zw_19 : Cond.instanceMethod ⟨"java/lang/Object", "<init>", "()V"⟩ ∈ dzGW := dzGW_in (i := 19) (by decide +kernel) (by rfl)
theorem zs_oi : Cond.instanceMethod ⟨"java/lang/Object", "<init>", "()V"⟩ ∈ dzGW ∧ Cond.code ⟨"java/lang/Object", "<init>", "()V"⟩ ⟨#[0xb1]⟩ 1 none ∈ dzGW := ⟨zw_19, dzGW_in (i := 20) (by rfl) (by rfl)⟩
theorem zw_57 : Cond.arrayClass .int ∈ dzGW := dzGW_in (i := 57) (by decide +kernel) (by rfl)
theorem zs_ai : Cond.arrayClass .int ∈ dzGW := zw_57
theorem zw_14 : Cond.instantiable "PrimeCertificates" 8 ∈ dzGW := dzGW_in (i := 14) (by decide +kernel) (by rfl)
theorem zw_1 : Cond.initialized "PrimeCertificates" ∈ dzGW := dzGW_in (i := 1) (by decide +kernel) (by rfl)
theorem zw_260 : Cond.laysFinal "PrimeCertificates" "PrimeCertificates" "registers" "[[I" ∈ dzGW := dzGW_in (i := 260) (by decide +kernel) (by rfl)
theorem zw_262 : Cond.laysFinal "PrimeCertificates" "PrimeCertificates" "answer" "[I" ∈ dzGW := dzGW_in (i := 262) (by decide +kernel) (by rfl)
theorem zw_264 : Cond.laysFinal "PrimeCertificates" "PrimeCertificates" "remainder" "[I" ∈ dzGW := dzGW_in (i := 264) (by decide +kernel) (by rfl)
theorem zw_266 : Cond.laysFinal "PrimeCertificates" "PrimeCertificates" "sums" "LPrimeCertificates$Sums;" ∈ dzGW := dzGW_in (i := 266) (by decide +kernel) (by rfl)
theorem zw_268 : Cond.laysFinal "PrimeCertificates" "PrimeCertificates" "tape" "LPrimeCertificates$Tape;" ∈ dzGW := dzGW_in (i := 268) (by decide +kernel) (by rfl)
theorem zw_270 : Cond.laysFinal "PrimeCertificates" "PrimeCertificates" "lines" "LPrimeCertificates$Lines;" ∈ dzGW := dzGW_in (i := 270) (by decide +kernel) (by rfl)
theorem zw_272 : Cond.laysFinal "PrimeCertificates" "PrimeCertificates" "checker" "LPrimeCertificates$Checker;" ∈ dzGW := dzGW_in (i := 272) (by decide +kernel) (by rfl)
theorem zw_274 : Cond.laysFinal "PrimeCertificates" "PrimeCertificates" "maker" "LPrimeCertificates$Maker;" ∈ dzGW := dzGW_in (i := 274) (by decide +kernel) (by rfl)
theorem zu_0 : Cond.instantiable "PrimeCertificates" 8 ∈ dzGW ∧ Cond.initialized "PrimeCertificates" ∈ dzGW ∧ ∀ w ∈ u_ws "PrimeCertificates" zc_0 8, w ∈ dzGW := ⟨zw_14, zw_1, List.forall_mem_cons.mpr ⟨zw_260, List.forall_mem_cons.mpr ⟨zw_262, List.forall_mem_cons.mpr ⟨zw_264, List.forall_mem_cons.mpr ⟨zw_266, List.forall_mem_cons.mpr ⟨zw_268, List.forall_mem_cons.mpr ⟨zw_270, List.forall_mem_cons.mpr ⟨zw_272, List.forall_mem_cons.mpr ⟨zw_274, fun _ h => absurd h List.not_mem_nil⟩⟩⟩⟩⟩⟩⟩⟩⟩
theorem zw_665 : Cond.instantiable "PrimeCertificatesModel" 12 ∈ dzGW := dzGW_in (i := 665) (by decide +kernel) (by rfl)
theorem zw_9 : Cond.initialized "PrimeCertificatesModel" ∈ dzGW := dzGW_in (i := 9) (by decide +kernel) (by rfl)
theorem zw_687 : Cond.laysFinal "PrimeCertificatesModel" "PrimeCertificatesModel" "digits" "[I" ∈ dzGW := dzGW_in (i := 687) (by decide +kernel) (by rfl)
theorem zw_689 : Cond.laysFinal "PrimeCertificatesModel" "PrimeCertificatesModel" "tape" "[I" ∈ dzGW := dzGW_in (i := 689) (by decide +kernel) (by rfl)
theorem zw_691 : Cond.lays "PrimeCertificatesModel" "PrimeCertificatesModel" "size" "I" ∈ dzGW := dzGW_in (i := 691) (by decide +kernel) (by rfl)
theorem zw_693 : Cond.lays "PrimeCertificatesModel" "PrimeCertificatesModel" "place" "I" ∈ dzGW := dzGW_in (i := 693) (by decide +kernel) (by rfl)
theorem zw_695 : Cond.lays "PrimeCertificatesModel" "PrimeCertificatesModel" "lines" "I" ∈ dzGW := dzGW_in (i := 695) (by decide +kernel) (by rfl)
theorem zw_697 : Cond.lays "PrimeCertificatesModel" "PrimeCertificatesModel" "told" "I" ∈ dzGW := dzGW_in (i := 697) (by decide +kernel) (by rfl)
theorem zw_699 : Cond.lays "PrimeCertificatesModel" "PrimeCertificatesModel" "cursor" "I" ∈ dzGW := dzGW_in (i := 699) (by decide +kernel) (by rfl)
theorem zw_701 : Cond.lays "PrimeCertificatesModel" "PrimeCertificatesModel" "fault" "I" ∈ dzGW := dzGW_in (i := 701) (by decide +kernel) (by rfl)
theorem zw_703 : Cond.lays "PrimeCertificatesModel" "PrimeCertificatesModel" "found" "I" ∈ dzGW := dzGW_in (i := 703) (by decide +kernel) (by rfl)
theorem zw_705 : Cond.laysFinal "PrimeCertificatesModel" "PrimeCertificatesModel" "foundLines" "[I" ∈ dzGW := dzGW_in (i := 705) (by decide +kernel) (by rfl)
theorem zw_707 : Cond.laysFinal "PrimeCertificatesModel" "PrimeCertificatesModel" "foundOften" "[I" ∈ dzGW := dzGW_in (i := 707) (by decide +kernel) (by rfl)
theorem zw_709 : Cond.laysFinal "PrimeCertificatesModel" "PrimeCertificatesModel" "foundWitnesses" "[I" ∈ dzGW := dzGW_in (i := 709) (by decide +kernel) (by rfl)
theorem zu_1 : Cond.instantiable "PrimeCertificatesModel" 12 ∈ dzGW ∧ Cond.initialized "PrimeCertificatesModel" ∈ dzGW ∧ ∀ w ∈ u_ws "PrimeCertificatesModel" zc_1 12, w ∈ dzGW := ⟨zw_665, zw_9, List.forall_mem_cons.mpr ⟨zw_687, List.forall_mem_cons.mpr ⟨zw_689, List.forall_mem_cons.mpr ⟨zw_691, List.forall_mem_cons.mpr ⟨zw_693, List.forall_mem_cons.mpr ⟨zw_695, List.forall_mem_cons.mpr ⟨zw_697, List.forall_mem_cons.mpr ⟨zw_699, List.forall_mem_cons.mpr ⟨zw_701, List.forall_mem_cons.mpr ⟨zw_703, List.forall_mem_cons.mpr ⟨zw_705, List.forall_mem_cons.mpr ⟨zw_707, List.forall_mem_cons.mpr ⟨zw_709, fun _ h => absurd h List.not_mem_nil⟩⟩⟩⟩⟩⟩⟩⟩⟩⟩⟩⟩⟩
theorem zw_137 : Cond.instantiable "PrimeCertificates$Checker" 13 ∈ dzGW := dzGW_in (i := 137) (by decide +kernel) (by rfl)
theorem zw_6 : Cond.initialized "PrimeCertificates$Checker" ∈ dzGW := dzGW_in (i := 6) (by decide +kernel) (by rfl)
theorem zw_183 : Cond.laysFinal "PrimeCertificates$Checker" "PrimeCertificates$Checker" "tape" "LPrimeCertificates$Tape;" ∈ dzGW := dzGW_in (i := 183) (by decide +kernel) (by rfl)
theorem zw_185 : Cond.laysFinal "PrimeCertificates$Checker" "PrimeCertificates$Checker" "lines" "LPrimeCertificates$Lines;" ∈ dzGW := dzGW_in (i := 185) (by decide +kernel) (by rfl)
theorem zw_187 : Cond.laysFinal "PrimeCertificates$Checker" "PrimeCertificates$Checker" "sums" "LPrimeCertificates$Sums;" ∈ dzGW := dzGW_in (i := 187) (by decide +kernel) (by rfl)
theorem zw_189 : Cond.laysFinal "PrimeCertificates$Checker" "PrimeCertificates$Checker" "trial" "LPrimeCertificates$Trial;" ∈ dzGW := dzGW_in (i := 189) (by decide +kernel) (by rfl)
theorem zw_191 : Cond.laysFinal "PrimeCertificates$Checker" "PrimeCertificates$Checker" "factors" "LPrimeCertificates$Factors;" ∈ dzGW := dzGW_in (i := 191) (by decide +kernel) (by rfl)
theorem zw_193 : Cond.laysFinal "PrimeCertificates$Checker" "PrimeCertificates$Checker" "product" "[I" ∈ dzGW := dzGW_in (i := 193) (by decide +kernel) (by rfl)
theorem zw_195 : Cond.lays "PrimeCertificates$Checker" "PrimeCertificates$Checker" "next" "I" ∈ dzGW := dzGW_in (i := 195) (by decide +kernel) (by rfl)
theorem zw_197 : Cond.lays "PrimeCertificates$Checker" "PrimeCertificates$Checker" "taken" "I" ∈ dzGW := dzGW_in (i := 197) (by decide +kernel) (by rfl)
theorem zw_199 : Cond.lays "PrimeCertificates$Checker" "PrimeCertificates$Checker" "kind" "I" ∈ dzGW := dzGW_in (i := 199) (by decide +kernel) (by rfl)
theorem zw_201 : Cond.lays "PrimeCertificates$Checker" "PrimeCertificates$Checker" "root" "I" ∈ dzGW := dzGW_in (i := 201) (by decide +kernel) (by rfl)
theorem zw_203 : Cond.lays "PrimeCertificates$Checker" "PrimeCertificates$Checker" "countPlace" "I" ∈ dzGW := dzGW_in (i := 203) (by decide +kernel) (by rfl)
theorem zw_205 : Cond.lays "PrimeCertificates$Checker" "PrimeCertificates$Checker" "fault" "I" ∈ dzGW := dzGW_in (i := 205) (by decide +kernel) (by rfl)
theorem zw_207 : Cond.lays "PrimeCertificates$Checker" "PrimeCertificates$Checker" "faultPlace" "I" ∈ dzGW := dzGW_in (i := 207) (by decide +kernel) (by rfl)
theorem zu_2 : Cond.instantiable "PrimeCertificates$Checker" 13 ∈ dzGW ∧ Cond.initialized "PrimeCertificates$Checker" ∈ dzGW ∧ ∀ w ∈ u_ws "PrimeCertificates$Checker" zc_2 13, w ∈ dzGW := ⟨zw_137, zw_6, List.forall_mem_cons.mpr ⟨zw_183, List.forall_mem_cons.mpr ⟨zw_185, List.forall_mem_cons.mpr ⟨zw_187, List.forall_mem_cons.mpr ⟨zw_189, List.forall_mem_cons.mpr ⟨zw_191, List.forall_mem_cons.mpr ⟨zw_193, List.forall_mem_cons.mpr ⟨zw_195, List.forall_mem_cons.mpr ⟨zw_197, List.forall_mem_cons.mpr ⟨zw_199, List.forall_mem_cons.mpr ⟨zw_201, List.forall_mem_cons.mpr ⟨zw_203, List.forall_mem_cons.mpr ⟨zw_205, List.forall_mem_cons.mpr ⟨zw_207, fun _ h => absurd h List.not_mem_nil⟩⟩⟩⟩⟩⟩⟩⟩⟩⟩⟩⟩⟩⟩
theorem zw_143 : Cond.instantiable "PrimeCertificates$Factors" 4 ∈ dzGW := dzGW_in (i := 143) (by decide +kernel) (by rfl)
theorem zw_7 : Cond.initialized "PrimeCertificates$Factors" ∈ dzGW := dzGW_in (i := 7) (by decide +kernel) (by rfl)
theorem zw_160 : Cond.laysFinal "PrimeCertificates$Factors" "PrimeCertificates$Factors" "lines" "[I" ∈ dzGW := dzGW_in (i := 160) (by decide +kernel) (by rfl)
theorem zw_162 : Cond.laysFinal "PrimeCertificates$Factors" "PrimeCertificates$Factors" "exponents" "[I" ∈ dzGW := dzGW_in (i := 162) (by decide +kernel) (by rfl)
theorem zw_164 : Cond.laysFinal "PrimeCertificates$Factors" "PrimeCertificates$Factors" "witnesses" "[I" ∈ dzGW := dzGW_in (i := 164) (by decide +kernel) (by rfl)
theorem zw_166 : Cond.lays "PrimeCertificates$Factors" "PrimeCertificates$Factors" "count" "I" ∈ dzGW := dzGW_in (i := 166) (by decide +kernel) (by rfl)
theorem zu_3 : Cond.instantiable "PrimeCertificates$Factors" 4 ∈ dzGW ∧ Cond.initialized "PrimeCertificates$Factors" ∈ dzGW ∧ ∀ w ∈ u_ws "PrimeCertificates$Factors" zc_3 4, w ∈ dzGW := ⟨zw_143, zw_7, List.forall_mem_cons.mpr ⟨zw_160, List.forall_mem_cons.mpr ⟨zw_162, List.forall_mem_cons.mpr ⟨zw_164, List.forall_mem_cons.mpr ⟨zw_166, fun _ h => absurd h List.not_mem_nil⟩⟩⟩⟩⟩
theorem zw_77 : Cond.instantiable "PrimeCertificates$Lines" 4 ∈ dzGW := dzGW_in (i := 77) (by decide +kernel) (by rfl)
theorem zw_4 : Cond.initialized "PrimeCertificates$Lines" ∈ dzGW := dzGW_in (i := 4) (by decide +kernel) (by rfl)
theorem zw_95 : Cond.laysFinal "PrimeCertificates$Lines" "PrimeCertificates$Lines" "numbers" "[[I" ∈ dzGW := dzGW_in (i := 95) (by decide +kernel) (by rfl)
theorem zw_97 : Cond.laysFinal "PrimeCertificates$Lines" "PrimeCertificates$Lines" "ends" "[I" ∈ dzGW := dzGW_in (i := 97) (by decide +kernel) (by rfl)
theorem zw_99 : Cond.lays "PrimeCertificates$Lines" "PrimeCertificates$Lines" "count" "I" ∈ dzGW := dzGW_in (i := 99) (by decide +kernel) (by rfl)
theorem zw_101 : Cond.lays "PrimeCertificates$Lines" "PrimeCertificates$Lines" "told" "I" ∈ dzGW := dzGW_in (i := 101) (by decide +kernel) (by rfl)
theorem zu_4 : Cond.instantiable "PrimeCertificates$Lines" 4 ∈ dzGW ∧ Cond.initialized "PrimeCertificates$Lines" ∈ dzGW ∧ ∀ w ∈ u_ws "PrimeCertificates$Lines" zc_4 4, w ∈ dzGW := ⟨zw_77, zw_4, List.forall_mem_cons.mpr ⟨zw_95, List.forall_mem_cons.mpr ⟨zw_97, List.forall_mem_cons.mpr ⟨zw_99, List.forall_mem_cons.mpr ⟨zw_101, fun _ h => absurd h List.not_mem_nil⟩⟩⟩⟩⟩
theorem zw_211 : Cond.instantiable "PrimeCertificates$Maker" 11 ∈ dzGW := dzGW_in (i := 211) (by decide +kernel) (by rfl)
theorem zw_8 : Cond.initialized "PrimeCertificates$Maker" ∈ dzGW := dzGW_in (i := 8) (by decide +kernel) (by rfl)
theorem zw_229 : Cond.laysFinal "PrimeCertificates$Maker" "PrimeCertificates$Maker" "tape" "LPrimeCertificates$Tape;" ∈ dzGW := dzGW_in (i := 229) (by decide +kernel) (by rfl)
theorem zw_231 : Cond.laysFinal "PrimeCertificates$Maker" "PrimeCertificates$Maker" "lines" "LPrimeCertificates$Lines;" ∈ dzGW := dzGW_in (i := 231) (by decide +kernel) (by rfl)
theorem zw_233 : Cond.laysFinal "PrimeCertificates$Maker" "PrimeCertificates$Maker" "sums" "LPrimeCertificates$Sums;" ∈ dzGW := dzGW_in (i := 233) (by decide +kernel) (by rfl)
theorem zw_235 : Cond.laysFinal "PrimeCertificates$Maker" "PrimeCertificates$Maker" "trial" "LPrimeCertificates$Trial;" ∈ dzGW := dzGW_in (i := 235) (by decide +kernel) (by rfl)
theorem zw_237 : Cond.laysFinal "PrimeCertificates$Maker" "PrimeCertificates$Maker" "factors" "LPrimeCertificates$Factors;" ∈ dzGW := dzGW_in (i := 237) (by decide +kernel) (by rfl)
theorem zw_239 : Cond.laysFinal "PrimeCertificates$Maker" "PrimeCertificates$Maker" "left" "[I" ∈ dzGW := dzGW_in (i := 239) (by decide +kernel) (by rfl)
theorem zw_241 : Cond.laysFinal "PrimeCertificates$Maker" "PrimeCertificates$Maker" "share" "[I" ∈ dzGW := dzGW_in (i := 241) (by decide +kernel) (by rfl)
theorem zw_243 : Cond.laysFinal "PrimeCertificates$Maker" "PrimeCertificates$Maker" "rest" "[I" ∈ dzGW := dzGW_in (i := 243) (by decide +kernel) (by rfl)
theorem zw_245 : Cond.laysFinal "PrimeCertificates$Maker" "PrimeCertificates$Maker" "small" "[I" ∈ dzGW := dzGW_in (i := 245) (by decide +kernel) (by rfl)
theorem zw_247 : Cond.lays "PrimeCertificates$Maker" "PrimeCertificates$Maker" "newLines" "I" ∈ dzGW := dzGW_in (i := 247) (by decide +kernel) (by rfl)
theorem zw_249 : Cond.lays "PrimeCertificates$Maker" "PrimeCertificates$Maker" "root" "I" ∈ dzGW := dzGW_in (i := 249) (by decide +kernel) (by rfl)
theorem zu_5 : Cond.instantiable "PrimeCertificates$Maker" 11 ∈ dzGW ∧ Cond.initialized "PrimeCertificates$Maker" ∈ dzGW ∧ ∀ w ∈ u_ws "PrimeCertificates$Maker" zc_5 11, w ∈ dzGW := ⟨zw_211, zw_8, List.forall_mem_cons.mpr ⟨zw_229, List.forall_mem_cons.mpr ⟨zw_231, List.forall_mem_cons.mpr ⟨zw_233, List.forall_mem_cons.mpr ⟨zw_235, List.forall_mem_cons.mpr ⟨zw_237, List.forall_mem_cons.mpr ⟨zw_239, List.forall_mem_cons.mpr ⟨zw_241, List.forall_mem_cons.mpr ⟨zw_243, List.forall_mem_cons.mpr ⟨zw_245, List.forall_mem_cons.mpr ⟨zw_247, List.forall_mem_cons.mpr ⟨zw_249, fun _ h => absurd h List.not_mem_nil⟩⟩⟩⟩⟩⟩⟩⟩⟩⟩⟩⟩
theorem zw_24 : Cond.instantiable "PrimeCertificates$Sums" 9 ∈ dzGW := dzGW_in (i := 24) (by decide +kernel) (by rfl)
theorem zw_2 : Cond.initialized "PrimeCertificates$Sums" ∈ dzGW := dzGW_in (i := 2) (by decide +kernel) (by rfl)
theorem zw_38 : Cond.laysFinal "PrimeCertificates$Sums" "PrimeCertificates$Sums" "wide" "[I" ∈ dzGW := dzGW_in (i := 38) (by decide +kernel) (by rfl)
theorem zw_40 : Cond.laysFinal "PrimeCertificates$Sums" "PrimeCertificates$Sums" "goes" "[I" ∈ dzGW := dzGW_in (i := 40) (by decide +kernel) (by rfl)
theorem zw_42 : Cond.laysFinal "PrimeCertificates$Sums" "PrimeCertificates$Sums" "divisor" "[I" ∈ dzGW := dzGW_in (i := 42) (by decide +kernel) (by rfl)
theorem zw_44 : Cond.lays "PrimeCertificates$Sums" "PrimeCertificates$Sums" "divisorWords" "I" ∈ dzGW := dzGW_in (i := 44) (by decide +kernel) (by rfl)
theorem zw_46 : Cond.lays "PrimeCertificates$Sums" "PrimeCertificates$Sums" "shift" "I" ∈ dzGW := dzGW_in (i := 46) (by decide +kernel) (by rfl)
theorem zw_48 : Cond.laysFinal "PrimeCertificates$Sums" "PrimeCertificates$Sums" "residue" "[I" ∈ dzGW := dzGW_in (i := 48) (by decide +kernel) (by rfl)
theorem zw_50 : Cond.laysFinal "PrimeCertificates$Sums" "PrimeCertificates$Sums" "power" "[I" ∈ dzGW := dzGW_in (i := 50) (by decide +kernel) (by rfl)
theorem zw_52 : Cond.laysFinal "PrimeCertificates$Sums" "PrimeCertificates$Sums" "larger" "[I" ∈ dzGW := dzGW_in (i := 52) (by decide +kernel) (by rfl)
theorem zw_54 : Cond.laysFinal "PrimeCertificates$Sums" "PrimeCertificates$Sums" "smaller" "[I" ∈ dzGW := dzGW_in (i := 54) (by decide +kernel) (by rfl)
theorem zu_6 : Cond.instantiable "PrimeCertificates$Sums" 9 ∈ dzGW ∧ Cond.initialized "PrimeCertificates$Sums" ∈ dzGW ∧ ∀ w ∈ u_ws "PrimeCertificates$Sums" zc_6 9, w ∈ dzGW := ⟨zw_24, zw_2, List.forall_mem_cons.mpr ⟨zw_38, List.forall_mem_cons.mpr ⟨zw_40, List.forall_mem_cons.mpr ⟨zw_42, List.forall_mem_cons.mpr ⟨zw_44, List.forall_mem_cons.mpr ⟨zw_46, List.forall_mem_cons.mpr ⟨zw_48, List.forall_mem_cons.mpr ⟨zw_50, List.forall_mem_cons.mpr ⟨zw_52, List.forall_mem_cons.mpr ⟨zw_54, fun _ h => absurd h List.not_mem_nil⟩⟩⟩⟩⟩⟩⟩⟩⟩⟩
theorem zw_59 : Cond.instantiable "PrimeCertificates$Tape" 2 ∈ dzGW := dzGW_in (i := 59) (by decide +kernel) (by rfl)
theorem zw_3 : Cond.initialized "PrimeCertificates$Tape" ∈ dzGW := dzGW_in (i := 3) (by decide +kernel) (by rfl)
theorem zw_71 : Cond.laysFinal "PrimeCertificates$Tape" "PrimeCertificates$Tape" "ints" "[I" ∈ dzGW := dzGW_in (i := 71) (by decide +kernel) (by rfl)
theorem zw_73 : Cond.lays "PrimeCertificates$Tape" "PrimeCertificates$Tape" "size" "I" ∈ dzGW := dzGW_in (i := 73) (by decide +kernel) (by rfl)
theorem zu_7 : Cond.instantiable "PrimeCertificates$Tape" 2 ∈ dzGW ∧ Cond.initialized "PrimeCertificates$Tape" ∈ dzGW ∧ ∀ w ∈ u_ws "PrimeCertificates$Tape" zc_7 2, w ∈ dzGW := ⟨zw_59, zw_3, List.forall_mem_cons.mpr ⟨zw_71, List.forall_mem_cons.mpr ⟨zw_73, fun _ h => absurd h List.not_mem_nil⟩⟩⟩
theorem zw_105 : Cond.instantiable "PrimeCertificates$Trial" 7 ∈ dzGW := dzGW_in (i := 105) (by decide +kernel) (by rfl)
theorem zw_5 : Cond.initialized "PrimeCertificates$Trial" ∈ dzGW := dzGW_in (i := 5) (by decide +kernel) (by rfl)
theorem zw_121 : Cond.laysFinal "PrimeCertificates$Trial" "PrimeCertificates$Trial" "sums" "LPrimeCertificates$Sums;" ∈ dzGW := dzGW_in (i := 121) (by decide +kernel) (by rfl)
theorem zw_123 : Cond.laysFinal "PrimeCertificates$Trial" "PrimeCertificates$Trial" "number" "[I" ∈ dzGW := dzGW_in (i := 123) (by decide +kernel) (by rfl)
theorem zw_125 : Cond.laysFinal "PrimeCertificates$Trial" "PrimeCertificates$Trial" "oneLess" "[I" ∈ dzGW := dzGW_in (i := 125) (by decide +kernel) (by rfl)
theorem zw_127 : Cond.laysFinal "PrimeCertificates$Trial" "PrimeCertificates$Trial" "one" "[I" ∈ dzGW := dzGW_in (i := 127) (by decide +kernel) (by rfl)
theorem zw_129 : Cond.laysFinal "PrimeCertificates$Trial" "PrimeCertificates$Trial" "base" "[I" ∈ dzGW := dzGW_in (i := 129) (by decide +kernel) (by rfl)
theorem zw_131 : Cond.laysFinal "PrimeCertificates$Trial" "PrimeCertificates$Trial" "exponent" "[I" ∈ dzGW := dzGW_in (i := 131) (by decide +kernel) (by rfl)
theorem zw_133 : Cond.laysFinal "PrimeCertificates$Trial" "PrimeCertificates$Trial" "power" "[I" ∈ dzGW := dzGW_in (i := 133) (by decide +kernel) (by rfl)
theorem zu_8 : Cond.instantiable "PrimeCertificates$Trial" 7 ∈ dzGW ∧ Cond.initialized "PrimeCertificates$Trial" ∈ dzGW ∧ ∀ w ∈ u_ws "PrimeCertificates$Trial" zc_8 7, w ∈ dzGW := ⟨zw_105, zw_5, List.forall_mem_cons.mpr ⟨zw_121, List.forall_mem_cons.mpr ⟨zw_123, List.forall_mem_cons.mpr ⟨zw_125, List.forall_mem_cons.mpr ⟨zw_127, List.forall_mem_cons.mpr ⟨zw_129, List.forall_mem_cons.mpr ⟨zw_131, List.forall_mem_cons.mpr ⟨zw_133, fun _ h => absurd h List.not_mem_nil⟩⟩⟩⟩⟩⟩⟩⟩
def dzMw (mid : Nat) (k : Nat) : Prop := Cond.code (dzY mid) (dzBy mid) (dzMx mid) (dzRt mid) ∈ dzGW ∧ Cond.initialized (dzY mid).cls ∈ dzGW ∧ plainName (dzY mid).cls = true ∧ ((dzY mid).cls ≠ "java/lang/invoke/MethodHandle" ∧ (dzY mid).cls ≠ "java/lang/invoke/VarHandle") ∧ match k with
  | 0 => Cond.static (dzY mid) ∈ dzGW
  | 1 => Cond.instanceMethod (dzY mid) ∈ dzGW ∧ Cond.selects (dzY mid).cls (dzY mid) (dzY mid) ∈ dzGW
  | _ => Cond.instanceMethod (dzY mid) ∈ dzGW ∧ (dzY mid).name = "<init>"
theorem zw_26 : Cond.instanceMethod ⟨"PrimeCertificates$Sums", "<init>", "()V"⟩ ∈ dzGW := dzGW_in (i := 26) (by decide +kernel) (by rfl)
set_option maxRecDepth 100000 in
theorem zm_0 : dzMw 0 2 := ⟨dzGW_in (i := 27) (by rfl) (by rfl), zw_2, by decide +kernel, by decide +kernel, ⟨zw_26, by decide +kernel⟩⟩
theorem zw_61 : Cond.instanceMethod ⟨"PrimeCertificates$Tape", "<init>", "()V"⟩ ∈ dzGW := dzGW_in (i := 61) (by decide +kernel) (by rfl)
set_option maxRecDepth 100000 in
theorem zm_1 : dzMw 1 2 := ⟨dzGW_in (i := 62) (by rfl) (by rfl), zw_3, by decide +kernel, by decide +kernel, ⟨zw_61, by decide +kernel⟩⟩
theorem zw_79 : Cond.instanceMethod ⟨"PrimeCertificates$Lines", "<init>", "()V"⟩ ∈ dzGW := dzGW_in (i := 79) (by decide +kernel) (by rfl)
set_option maxRecDepth 100000 in
theorem zm_2 : dzMw 2 2 := ⟨dzGW_in (i := 80) (by rfl) (by rfl), zw_4, by decide +kernel, by decide +kernel, ⟨zw_79, by decide +kernel⟩⟩
theorem zw_107 : Cond.instanceMethod ⟨"PrimeCertificates$Trial", "<init>", "(LPrimeCertificates$Sums;)V"⟩ ∈ dzGW := dzGW_in (i := 107) (by decide +kernel) (by rfl)
set_option maxRecDepth 100000 in
theorem zm_3 : dzMw 3 2 := ⟨dzGW_in (i := 108) (by rfl) (by rfl), zw_5, by decide +kernel, by decide +kernel, ⟨zw_107, by decide +kernel⟩⟩
theorem zw_145 : Cond.instanceMethod ⟨"PrimeCertificates$Factors", "<init>", "()V"⟩ ∈ dzGW := dzGW_in (i := 145) (by decide +kernel) (by rfl)
set_option maxRecDepth 100000 in
theorem zm_4 : dzMw 4 2 := ⟨dzGW_in (i := 146) (by rfl) (by rfl), zw_7, by decide +kernel, by decide +kernel, ⟨zw_145, by decide +kernel⟩⟩
theorem zw_139 : Cond.instanceMethod ⟨"PrimeCertificates$Checker", "<init>", "(LPrimeCertificates$Tape;LPrimeCertificates$Lines;LPrimeCertificates$Sums;LPrimeCertificates$Trial;)V"⟩ ∈ dzGW := dzGW_in (i := 139) (by decide +kernel) (by rfl)
set_option maxRecDepth 100000 in
theorem zm_5 : dzMw 5 2 := ⟨dzGW_in (i := 140) (by rfl) (by rfl), zw_6, by decide +kernel, by decide +kernel, ⟨zw_139, by decide +kernel⟩⟩
theorem zw_213 : Cond.instanceMethod ⟨"PrimeCertificates$Maker", "<init>", "(LPrimeCertificates$Tape;LPrimeCertificates$Lines;LPrimeCertificates$Sums;LPrimeCertificates$Trial;)V"⟩ ∈ dzGW := dzGW_in (i := 213) (by decide +kernel) (by rfl)
set_option maxRecDepth 100000 in
theorem zm_6 : dzMw 6 2 := ⟨dzGW_in (i := 214) (by rfl) (by rfl), zw_8, by decide +kernel, by decide +kernel, ⟨zw_213, by decide +kernel⟩⟩
theorem zw_16 : Cond.instanceMethod ⟨"PrimeCertificates", "<init>", "()V"⟩ ∈ dzGW := dzGW_in (i := 16) (by decide +kernel) (by rfl)
set_option maxRecDepth 100000 in
theorem zm_7 : dzMw 7 2 := ⟨dzGW_in (i := 17) (by rfl) (by rfl), zw_1, by decide +kernel, by decide +kernel, ⟨zw_16, by decide +kernel⟩⟩
theorem zw_282 : Cond.static ⟨"PrimeCertificates", "isRegister", "(I)Z"⟩ ∈ dzGW := dzGW_in (i := 282) (by decide +kernel) (by rfl)
set_option maxRecDepth 100000 in
theorem zm_8 : dzMw 8 0 := ⟨dzGW_in (i := 283) (by rfl) (by rfl), zw_1, by decide +kernel, by decide +kernel, zw_282⟩
theorem zw_285 : Cond.static ⟨"PrimeCertificates", "isWord", "(I)Z"⟩ ∈ dzGW := dzGW_in (i := 285) (by decide +kernel) (by rfl)
set_option maxRecDepth 100000 in
theorem zm_9 : dzMw 9 0 := ⟨dzGW_in (i := 286) (by rfl) (by rfl), zw_1, by decide +kernel, by decide +kernel, zw_285⟩
theorem zw_278 : Cond.instanceMethod ⟨"PrimeCertificates", "put", "(III)Z"⟩ ∈ dzGW := dzGW_in (i := 278) (by decide +kernel) (by rfl)
theorem zw_279 : Cond.selects "PrimeCertificates" ⟨"PrimeCertificates", "put", "(III)Z"⟩ ⟨"PrimeCertificates", "put", "(III)Z"⟩ ∈ dzGW := dzGW_in (i := 279) (by decide +kernel) (by rfl)
set_option maxRecDepth 100000 in
theorem zm_10 : dzMw 10 1 := ⟨dzGW_in (i := 280) (by rfl) (by rfl), zw_1, by decide +kernel, by decide +kernel, ⟨zw_278, zw_279⟩⟩
theorem zw_288 : Cond.instanceMethod ⟨"PrimeCertificates", "get", "(II)I"⟩ ∈ dzGW := dzGW_in (i := 288) (by decide +kernel) (by rfl)
theorem zw_289 : Cond.selects "PrimeCertificates" ⟨"PrimeCertificates", "get", "(II)I"⟩ ⟨"PrimeCertificates", "get", "(II)I"⟩ ∈ dzGW := dzGW_in (i := 289) (by decide +kernel) (by rfl)
set_option maxRecDepth 100000 in
theorem zm_11 : dzMw 11 1 := ⟨dzGW_in (i := 290) (by rfl) (by rfl), zw_1, by decide +kernel, by decide +kernel, ⟨zw_288, zw_289⟩⟩
theorem zw_296 : Cond.static ⟨"PrimeCertificates", "areRegisters", "(III)Z"⟩ ∈ dzGW := dzGW_in (i := 296) (by decide +kernel) (by rfl)
set_option maxRecDepth 100000 in
theorem zm_12 : dzMw 12 0 := ⟨dzGW_in (i := 297) (by rfl) (by rfl), zw_1, by decide +kernel, by decide +kernel, zw_296⟩
theorem zw_299 : Cond.static ⟨"PrimeCertificates$Sums", "sum", "([I[I[I)Z"⟩ ∈ dzGW := dzGW_in (i := 299) (by decide +kernel) (by rfl)
set_option maxRecDepth 100000 in
theorem zm_13 : dzMw 13 0 := ⟨dzGW_in (i := 300) (by rfl) (by rfl), zw_2, by decide +kernel, by decide +kernel, zw_299⟩
theorem zw_307 : Cond.static ⟨"PrimeCertificates$Sums", "copy", "([I[I)V"⟩ ∈ dzGW := dzGW_in (i := 307) (by decide +kernel) (by rfl)
set_option maxRecDepth 100000 in
theorem zm_14 : dzMw 14 0 := ⟨dzGW_in (i := 308) (by rfl) (by rfl), zw_2, by decide +kernel, by decide +kernel, zw_307⟩
theorem zw_304 : Cond.instanceMethod ⟨"PrimeCertificates", "keepAnswer", "(I)I"⟩ ∈ dzGW := dzGW_in (i := 304) (by decide +kernel) (by rfl)
set_option maxRecDepth 100000 in
theorem zm_15 : dzMw 15 1 := ⟨dzGW_in (i := 305) (by rfl) (by rfl), zw_1, by decide +kernel, by decide +kernel, ⟨zw_304, dzGW_sel (q := (⟨"PrimeCertificates", "keepAnswer", "(I)I"⟩, 8)) (by decide +kernel)⟩⟩
theorem zw_292 : Cond.instanceMethod ⟨"PrimeCertificates", "add", "(III)I"⟩ ∈ dzGW := dzGW_in (i := 292) (by decide +kernel) (by rfl)
theorem zw_293 : Cond.selects "PrimeCertificates" ⟨"PrimeCertificates", "add", "(III)I"⟩ ⟨"PrimeCertificates", "add", "(III)I"⟩ ∈ dzGW := dzGW_in (i := 293) (by decide +kernel) (by rfl)
set_option maxRecDepth 100000 in
theorem zm_16 : dzMw 16 1 := ⟨dzGW_in (i := 294) (by rfl) (by rfl), zw_1, by decide +kernel, by decide +kernel, ⟨zw_292, zw_293⟩⟩
theorem zw_317 : Cond.static ⟨"PrimeCertificates$Sums", "difference", "([I[I[I)Z"⟩ ∈ dzGW := dzGW_in (i := 317) (by decide +kernel) (by rfl)
set_option maxRecDepth 100000 in
theorem zm_17 : dzMw 17 0 := ⟨dzGW_in (i := 318) (by rfl) (by rfl), zw_2, by decide +kernel, by decide +kernel, zw_317⟩
theorem zw_313 : Cond.instanceMethod ⟨"PrimeCertificates", "subtract", "(III)I"⟩ ∈ dzGW := dzGW_in (i := 313) (by decide +kernel) (by rfl)
theorem zw_314 : Cond.selects "PrimeCertificates" ⟨"PrimeCertificates", "subtract", "(III)I"⟩ ⟨"PrimeCertificates", "subtract", "(III)I"⟩ ∈ dzGW := dzGW_in (i := 314) (by decide +kernel) (by rfl)
set_option maxRecDepth 100000 in
theorem zm_18 : dzMw 18 1 := ⟨dzGW_in (i := 315) (by rfl) (by rfl), zw_1, by decide +kernel, by decide +kernel, ⟨zw_313, zw_314⟩⟩
theorem zw_332 : Cond.static ⟨"PrimeCertificates$Sums", "usedWords", "([I)I"⟩ ∈ dzGW := dzGW_in (i := 332) (by decide +kernel) (by rfl)
set_option maxRecDepth 100000 in
theorem zm_19 : dzMw 19 0 := ⟨dzGW_in (i := 333) (by rfl) (by rfl), zw_2, by decide +kernel, by decide +kernel, zw_332⟩
theorem zw_11 : Cond.initialized "java/util/Arrays" ∈ dzGW := dzGW_in (i := 11) (by decide +kernel) (by rfl)
theorem zw_335 : Cond.static ⟨"java/util/Arrays", "fill", "([II)V"⟩ ∈ dzGW := dzGW_in (i := 335) (by decide +kernel) (by rfl)
set_option maxRecDepth 100000 in
theorem zm_20 : dzMw 20 0 := ⟨dzGW_in (i := 336) (by rfl) (by rfl), zw_11, by decide +kernel, by decide +kernel, zw_335⟩
theorem zw_329 : Cond.instanceMethod ⟨"PrimeCertificates$Sums", "setWideToProduct", "([I[I)V"⟩ ∈ dzGW := dzGW_in (i := 329) (by decide +kernel) (by rfl)
set_option maxRecDepth 100000 in
theorem zm_21 : dzMw 21 1 := ⟨dzGW_in (i := 330) (by rfl) (by rfl), zw_2, by decide +kernel, by decide +kernel, ⟨zw_329, dzGW_sel (q := (⟨"PrimeCertificates$Sums", "setWideToProduct", "([I[I)V"⟩, 9)) (by decide +kernel)⟩⟩
theorem zw_324 : Cond.instanceMethod ⟨"PrimeCertificates$Sums", "product", "([I[I[I)Z"⟩ ∈ dzGW := dzGW_in (i := 324) (by decide +kernel) (by rfl)
theorem zw_325 : Cond.selects "PrimeCertificates$Sums" ⟨"PrimeCertificates$Sums", "product", "([I[I[I)Z"⟩ ⟨"PrimeCertificates$Sums", "product", "([I[I[I)Z"⟩ ∈ dzGW := dzGW_in (i := 325) (by decide +kernel) (by rfl)
set_option maxRecDepth 100000 in
theorem zm_22 : dzMw 22 1 := ⟨dzGW_in (i := 326) (by rfl) (by rfl), zw_2, by decide +kernel, by decide +kernel, ⟨zw_324, zw_325⟩⟩
theorem zw_320 : Cond.instanceMethod ⟨"PrimeCertificates", "multiply", "(III)I"⟩ ∈ dzGW := dzGW_in (i := 320) (by decide +kernel) (by rfl)
theorem zw_321 : Cond.selects "PrimeCertificates" ⟨"PrimeCertificates", "multiply", "(III)I"⟩ ⟨"PrimeCertificates", "multiply", "(III)I"⟩ ∈ dzGW := dzGW_in (i := 321) (by decide +kernel) (by rfl)
set_option maxRecDepth 100000 in
theorem zm_23 : dzMw 23 1 := ⟨dzGW_in (i := 322) (by rfl) (by rfl), zw_1, by decide +kernel, by decide +kernel, ⟨zw_320, zw_321⟩⟩
theorem zw_343 : Cond.static ⟨"PrimeCertificates$Sums", "isZero", "([I)Z"⟩ ∈ dzGW := dzGW_in (i := 343) (by decide +kernel) (by rfl)
set_option maxRecDepth 100000 in
theorem zm_24 : dzMw 24 0 := ⟨dzGW_in (i := 344) (by rfl) (by rfl), zw_2, by decide +kernel, by decide +kernel, zw_343⟩
theorem zw_354 : Cond.static ⟨"PrimeCertificates$Sums", "leadingZeros", "(I)I"⟩ ∈ dzGW := dzGW_in (i := 354) (by decide +kernel) (by rfl)
set_option maxRecDepth 100000 in
theorem zm_25 : dzMw 25 0 := ⟨dzGW_in (i := 355) (by rfl) (by rfl), zw_2, by decide +kernel, by decide +kernel, zw_354⟩
theorem zw_358 : Cond.instanceMethod ⟨"PrimeCertificates$Sums", "shiftUp", "([II[I)V"⟩ ∈ dzGW := dzGW_in (i := 358) (by decide +kernel) (by rfl)
set_option maxRecDepth 100000 in
theorem zm_26 : dzMw 26 1 := ⟨dzGW_in (i := 359) (by rfl) (by rfl), zw_2, by decide +kernel, by decide +kernel, ⟨zw_358, dzGW_sel (q := (⟨"PrimeCertificates$Sums", "shiftUp", "([II[I)V"⟩, 9)) (by decide +kernel)⟩⟩
theorem zw_351 : Cond.instanceMethod ⟨"PrimeCertificates$Sums", "setDivisor", "([I)V"⟩ ∈ dzGW := dzGW_in (i := 351) (by decide +kernel) (by rfl)
set_option maxRecDepth 100000 in
theorem zm_27 : dzMw 27 1 := ⟨dzGW_in (i := 352) (by rfl) (by rfl), zw_2, by decide +kernel, by decide +kernel, ⟨zw_351, dzGW_sel (q := (⟨"PrimeCertificates$Sums", "setDivisor", "([I)V"⟩, 9)) (by decide +kernel)⟩⟩
theorem zw_362 : Cond.instanceMethod ⟨"PrimeCertificates$Sums", "setWide", "([I)V"⟩ ∈ dzGW := dzGW_in (i := 362) (by decide +kernel) (by rfl)
set_option maxRecDepth 100000 in
theorem zm_28 : dzMw 28 1 := ⟨dzGW_in (i := 363) (by rfl) (by rfl), zw_2, by decide +kernel, by decide +kernel, ⟨zw_362, dzGW_sel (q := (⟨"PrimeCertificates$Sums", "setWide", "([I)V"⟩, 9)) (by decide +kernel)⟩⟩
theorem zw_373 : Cond.static ⟨"PrimeCertificates$Sums", "isAbove", "(JJ)Z"⟩ ∈ dzGW := dzGW_in (i := 373) (by decide +kernel) (by rfl)
set_option maxRecDepth 100000 in
theorem zm_29 : dzMw 29 0 := ⟨dzGW_in (i := 374) (by rfl) (by rfl), zw_2, by decide +kernel, by decide +kernel, zw_373⟩
theorem zw_370 : Cond.instanceMethod ⟨"PrimeCertificates$Sums", "guessTimes", "(I)J"⟩ ∈ dzGW := dzGW_in (i := 370) (by decide +kernel) (by rfl)
set_option maxRecDepth 100000 in
theorem zm_30 : dzMw 30 1 := ⟨dzGW_in (i := 371) (by rfl) (by rfl), zw_2, by decide +kernel, by decide +kernel, ⟨zw_370, dzGW_sel (q := (⟨"PrimeCertificates$Sums", "guessTimes", "(I)J"⟩, 9)) (by decide +kernel)⟩⟩
theorem zw_378 : Cond.instanceMethod ⟨"PrimeCertificates$Sums", "takeAway", "(JI)Z"⟩ ∈ dzGW := dzGW_in (i := 378) (by decide +kernel) (by rfl)
set_option maxRecDepth 100000 in
theorem zm_31 : dzMw 31 1 := ⟨dzGW_in (i := 379) (by rfl) (by rfl), zw_2, by decide +kernel, by decide +kernel, ⟨zw_378, dzGW_sel (q := (⟨"PrimeCertificates$Sums", "takeAway", "(JI)Z"⟩, 9)) (by decide +kernel)⟩⟩
theorem zw_382 : Cond.instanceMethod ⟨"PrimeCertificates$Sums", "giveBack", "(I)V"⟩ ∈ dzGW := dzGW_in (i := 382) (by decide +kernel) (by rfl)
set_option maxRecDepth 100000 in
theorem zm_32 : dzMw 32 1 := ⟨dzGW_in (i := 383) (by rfl) (by rfl), zw_2, by decide +kernel, by decide +kernel, ⟨zw_382, dzGW_sel (q := (⟨"PrimeCertificates$Sums", "giveBack", "(I)V"⟩, 9)) (by decide +kernel)⟩⟩
theorem zw_386 : Cond.instanceMethod ⟨"PrimeCertificates$Sums", "shiftWideDown", "()V"⟩ ∈ dzGW := dzGW_in (i := 386) (by decide +kernel) (by rfl)
set_option maxRecDepth 100000 in
theorem zm_33 : dzMw 33 1 := ⟨dzGW_in (i := 387) (by rfl) (by rfl), zw_2, by decide +kernel, by decide +kernel, ⟨zw_386, dzGW_sel (q := (⟨"PrimeCertificates$Sums", "shiftWideDown", "()V"⟩, 9)) (by decide +kernel)⟩⟩
theorem zw_366 : Cond.instanceMethod ⟨"PrimeCertificates$Sums", "reduceWide", "()V"⟩ ∈ dzGW := dzGW_in (i := 366) (by decide +kernel) (by rfl)
set_option maxRecDepth 100000 in
theorem zm_34 : dzMw 34 1 := ⟨dzGW_in (i := 367) (by rfl) (by rfl), zw_2, by decide +kernel, by decide +kernel, ⟨zw_366, dzGW_sel (q := (⟨"PrimeCertificates$Sums", "reduceWide", "()V"⟩, 9)) (by decide +kernel)⟩⟩
theorem zw_346 : Cond.instanceMethod ⟨"PrimeCertificates$Sums", "quotient", "([I[I[I[I)V"⟩ ∈ dzGW := dzGW_in (i := 346) (by decide +kernel) (by rfl)
theorem zw_347 : Cond.selects "PrimeCertificates$Sums" ⟨"PrimeCertificates$Sums", "quotient", "([I[I[I[I)V"⟩ ⟨"PrimeCertificates$Sums", "quotient", "([I[I[I[I)V"⟩ ∈ dzGW := dzGW_in (i := 347) (by decide +kernel) (by rfl)
set_option maxRecDepth 100000 in
theorem zm_35 : dzMw 35 1 := ⟨dzGW_in (i := 348) (by rfl) (by rfl), zw_2, by decide +kernel, by decide +kernel, ⟨zw_346, zw_347⟩⟩
theorem zw_339 : Cond.instanceMethod ⟨"PrimeCertificates", "divide", "(IIII)I"⟩ ∈ dzGW := dzGW_in (i := 339) (by decide +kernel) (by rfl)
theorem zw_340 : Cond.selects "PrimeCertificates" ⟨"PrimeCertificates", "divide", "(IIII)I"⟩ ⟨"PrimeCertificates", "divide", "(IIII)I"⟩ ∈ dzGW := dzGW_in (i := 340) (by decide +kernel) (by rfl)
set_option maxRecDepth 100000 in
theorem zm_36 : dzMw 36 1 := ⟨dzGW_in (i := 341) (by rfl) (by rfl), zw_1, by decide +kernel, by decide +kernel, ⟨zw_339, zw_340⟩⟩
theorem zw_397 : Cond.static ⟨"PrimeCertificates$Sums", "setSmall", "([II)V"⟩ ∈ dzGW := dzGW_in (i := 397) (by decide +kernel) (by rfl)
set_option maxRecDepth 100000 in
theorem zm_37 : dzMw 37 0 := ⟨dzGW_in (i := 398) (by rfl) (by rfl), zw_2, by decide +kernel, by decide +kernel, zw_397⟩
theorem zw_393 : Cond.instanceMethod ⟨"PrimeCertificates$Sums", "powerModulo", "([I[I[I[I)V"⟩ ∈ dzGW := dzGW_in (i := 393) (by decide +kernel) (by rfl)
theorem zw_394 : Cond.selects "PrimeCertificates$Sums" ⟨"PrimeCertificates$Sums", "powerModulo", "([I[I[I[I)V"⟩ ⟨"PrimeCertificates$Sums", "powerModulo", "([I[I[I[I)V"⟩ ∈ dzGW := dzGW_in (i := 394) (by decide +kernel) (by rfl)
set_option maxRecDepth 100000 in
theorem zm_38 : dzMw 38 1 := ⟨dzGW_in (i := 395) (by rfl) (by rfl), zw_2, by decide +kernel, by decide +kernel, ⟨zw_393, zw_394⟩⟩
theorem zw_389 : Cond.instanceMethod ⟨"PrimeCertificates", "power", "(IIII)I"⟩ ∈ dzGW := dzGW_in (i := 389) (by decide +kernel) (by rfl)
theorem zw_390 : Cond.selects "PrimeCertificates" ⟨"PrimeCertificates", "power", "(IIII)I"⟩ ⟨"PrimeCertificates", "power", "(IIII)I"⟩ ∈ dzGW := dzGW_in (i := 390) (by decide +kernel) (by rfl)
set_option maxRecDepth 100000 in
theorem zm_39 : dzMw 39 1 := ⟨dzGW_in (i := 391) (by rfl) (by rfl), zw_1, by decide +kernel, by decide +kernel, ⟨zw_389, zw_390⟩⟩
theorem zw_404 : Cond.instanceMethod ⟨"PrimeCertificates$Sums", "greatestDivisor", "([I[I[I)V"⟩ ∈ dzGW := dzGW_in (i := 404) (by decide +kernel) (by rfl)
theorem zw_405 : Cond.selects "PrimeCertificates$Sums" ⟨"PrimeCertificates$Sums", "greatestDivisor", "([I[I[I)V"⟩ ⟨"PrimeCertificates$Sums", "greatestDivisor", "([I[I[I)V"⟩ ∈ dzGW := dzGW_in (i := 405) (by decide +kernel) (by rfl)
set_option maxRecDepth 100000 in
theorem zm_40 : dzMw 40 1 := ⟨dzGW_in (i := 406) (by rfl) (by rfl), zw_2, by decide +kernel, by decide +kernel, ⟨zw_404, zw_405⟩⟩
theorem zw_400 : Cond.instanceMethod ⟨"PrimeCertificates", "common", "(III)I"⟩ ∈ dzGW := dzGW_in (i := 400) (by decide +kernel) (by rfl)
theorem zw_401 : Cond.selects "PrimeCertificates" ⟨"PrimeCertificates", "common", "(III)I"⟩ ⟨"PrimeCertificates", "common", "(III)I"⟩ ∈ dzGW := dzGW_in (i := 401) (by decide +kernel) (by rfl)
set_option maxRecDepth 100000 in
theorem zm_41 : dzMw 41 1 := ⟨dzGW_in (i := 402) (by rfl) (by rfl), zw_1, by decide +kernel, by decide +kernel, ⟨zw_400, zw_401⟩⟩
theorem zw_413 : Cond.static ⟨"PrimeCertificates$Sums", "order", "([I[I)I"⟩ ∈ dzGW := dzGW_in (i := 413) (by decide +kernel) (by rfl)
set_option maxRecDepth 100000 in
theorem zm_42 : dzMw 42 0 := ⟨dzGW_in (i := 414) (by rfl) (by rfl), zw_2, by decide +kernel, by decide +kernel, zw_413⟩
theorem zw_409 : Cond.instanceMethod ⟨"PrimeCertificates", "compare", "(II)I"⟩ ∈ dzGW := dzGW_in (i := 409) (by decide +kernel) (by rfl)
theorem zw_410 : Cond.selects "PrimeCertificates" ⟨"PrimeCertificates", "compare", "(II)I"⟩ ⟨"PrimeCertificates", "compare", "(II)I"⟩ ∈ dzGW := dzGW_in (i := 410) (by decide +kernel) (by rfl)
set_option maxRecDepth 100000 in
theorem zm_43 : dzMw 43 1 := ⟨dzGW_in (i := 411) (by rfl) (by rfl), zw_1, by decide +kernel, by decide +kernel, ⟨zw_409, zw_410⟩⟩
theorem zw_420 : Cond.instanceMethod ⟨"PrimeCertificates$Tape", "room", "()I"⟩ ∈ dzGW := dzGW_in (i := 420) (by decide +kernel) (by rfl)
theorem zw_421 : Cond.selects "PrimeCertificates$Tape" ⟨"PrimeCertificates$Tape", "room", "()I"⟩ ⟨"PrimeCertificates$Tape", "room", "()I"⟩ ∈ dzGW := dzGW_in (i := 421) (by decide +kernel) (by rfl)
set_option maxRecDepth 100000 in
theorem zm_44 : dzMw 44 1 := ⟨dzGW_in (i := 422) (by rfl) (by rfl), zw_3, by decide +kernel, by decide +kernel, ⟨zw_420, zw_421⟩⟩
theorem zw_424 : Cond.instanceMethod ⟨"PrimeCertificates$Tape", "append", "(I)V"⟩ ∈ dzGW := dzGW_in (i := 424) (by decide +kernel) (by rfl)
theorem zw_425 : Cond.selects "PrimeCertificates$Tape" ⟨"PrimeCertificates$Tape", "append", "(I)V"⟩ ⟨"PrimeCertificates$Tape", "append", "(I)V"⟩ ∈ dzGW := dzGW_in (i := 425) (by decide +kernel) (by rfl)
set_option maxRecDepth 100000 in
theorem zm_45 : dzMw 45 1 := ⟨dzGW_in (i := 426) (by rfl) (by rfl), zw_3, by decide +kernel, by decide +kernel, ⟨zw_424, zw_425⟩⟩
theorem zw_416 : Cond.instanceMethod ⟨"PrimeCertificates", "say", "(I)I"⟩ ∈ dzGW := dzGW_in (i := 416) (by decide +kernel) (by rfl)
theorem zw_417 : Cond.selects "PrimeCertificates" ⟨"PrimeCertificates", "say", "(I)I"⟩ ⟨"PrimeCertificates", "say", "(I)I"⟩ ∈ dzGW := dzGW_in (i := 417) (by decide +kernel) (by rfl)
set_option maxRecDepth 100000 in
theorem zm_46 : dzMw 46 1 := ⟨dzGW_in (i := 418) (by rfl) (by rfl), zw_1, by decide +kernel, by decide +kernel, ⟨zw_416, zw_417⟩⟩
theorem zw_432 : Cond.instanceMethod ⟨"PrimeCertificates$Lines", "forgetBehind", "(I)V"⟩ ∈ dzGW := dzGW_in (i := 432) (by decide +kernel) (by rfl)
theorem zw_433 : Cond.selects "PrimeCertificates$Lines" ⟨"PrimeCertificates$Lines", "forgetBehind", "(I)V"⟩ ⟨"PrimeCertificates$Lines", "forgetBehind", "(I)V"⟩ ∈ dzGW := dzGW_in (i := 433) (by decide +kernel) (by rfl)
set_option maxRecDepth 100000 in
theorem zm_47 : dzMw 47 1 := ⟨dzGW_in (i := 434) (by rfl) (by rfl), zw_4, by decide +kernel, by decide +kernel, ⟨zw_432, zw_433⟩⟩
theorem zw_428 : Cond.instanceMethod ⟨"PrimeCertificates", "cut", "(I)Z"⟩ ∈ dzGW := dzGW_in (i := 428) (by decide +kernel) (by rfl)
theorem zw_429 : Cond.selects "PrimeCertificates" ⟨"PrimeCertificates", "cut", "(I)Z"⟩ ⟨"PrimeCertificates", "cut", "(I)Z"⟩ ∈ dzGW := dzGW_in (i := 429) (by decide +kernel) (by rfl)
set_option maxRecDepth 100000 in
theorem zm_48 : dzMw 48 1 := ⟨dzGW_in (i := 430) (by rfl) (by rfl), zw_1, by decide +kernel, by decide +kernel, ⟨zw_428, zw_429⟩⟩
theorem zw_436 : Cond.instanceMethod ⟨"PrimeCertificates", "length", "()I"⟩ ∈ dzGW := dzGW_in (i := 436) (by decide +kernel) (by rfl)
theorem zw_437 : Cond.selects "PrimeCertificates" ⟨"PrimeCertificates", "length", "()I"⟩ ⟨"PrimeCertificates", "length", "()I"⟩ ∈ dzGW := dzGW_in (i := 437) (by decide +kernel) (by rfl)
set_option maxRecDepth 100000 in
theorem zm_49 : dzMw 49 1 := ⟨dzGW_in (i := 438) (by rfl) (by rfl), zw_1, by decide +kernel, by decide +kernel, ⟨zw_436, zw_437⟩⟩
theorem zw_440 : Cond.instanceMethod ⟨"PrimeCertificates", "at", "(I)I"⟩ ∈ dzGW := dzGW_in (i := 440) (by decide +kernel) (by rfl)
theorem zw_441 : Cond.selects "PrimeCertificates" ⟨"PrimeCertificates", "at", "(I)I"⟩ ⟨"PrimeCertificates", "at", "(I)I"⟩ ∈ dzGW := dzGW_in (i := 441) (by decide +kernel) (by rfl)
set_option maxRecDepth 100000 in
theorem zm_50 : dzMw 50 1 := ⟨dzGW_in (i := 442) (by rfl) (by rfl), zw_1, by decide +kernel, by decide +kernel, ⟨zw_440, zw_441⟩⟩
theorem zw_452 : Cond.instanceMethod ⟨"PrimeCertificates$Lines", "end", "()I"⟩ ∈ dzGW := dzGW_in (i := 452) (by decide +kernel) (by rfl)
theorem zw_453 : Cond.selects "PrimeCertificates$Lines" ⟨"PrimeCertificates$Lines", "end", "()I"⟩ ⟨"PrimeCertificates$Lines", "end", "()I"⟩ ∈ dzGW := dzGW_in (i := 453) (by decide +kernel) (by rfl)
set_option maxRecDepth 100000 in
theorem zm_51 : dzMw 51 1 := ⟨dzGW_in (i := 454) (by rfl) (by rfl), zw_4, by decide +kernel, by decide +kernel, ⟨zw_452, zw_453⟩⟩
theorem zw_465 : Cond.instanceMethod ⟨"PrimeCertificates$Checker", "refuse", "(II)Z"⟩ ∈ dzGW := dzGW_in (i := 465) (by decide +kernel) (by rfl)
set_option maxRecDepth 100000 in
theorem zm_52 : dzMw 52 1 := ⟨dzGW_in (i := 466) (by rfl) (by rfl), zw_6, by decide +kernel, by decide +kernel, ⟨zw_465, dzGW_sel (q := (⟨"PrimeCertificates$Checker", "refuse", "(II)Z"⟩, 13)) (by decide +kernel)⟩⟩
theorem zw_461 : Cond.instanceMethod ⟨"PrimeCertificates$Checker", "take", "()Z"⟩ ∈ dzGW := dzGW_in (i := 461) (by decide +kernel) (by rfl)
set_option maxRecDepth 100000 in
theorem zm_53 : dzMw 53 1 := ⟨dzGW_in (i := 462) (by rfl) (by rfl), zw_6, by decide +kernel, by decide +kernel, ⟨zw_461, dzGW_sel (q := (⟨"PrimeCertificates$Checker", "take", "()Z"⟩, 13)) (by decide +kernel)⟩⟩
theorem zw_473 : Cond.static ⟨"PrimeCertificates", "isSmallPrime", "(I)Z"⟩ ∈ dzGW := dzGW_in (i := 473) (by decide +kernel) (by rfl)
set_option maxRecDepth 100000 in
theorem zm_54 : dzMw 54 0 := ⟨dzGW_in (i := 474) (by rfl) (by rfl), zw_1, by decide +kernel, by decide +kernel, zw_473⟩
theorem zw_477 : Cond.instanceMethod ⟨"PrimeCertificates$Checker", "refuseTaken", "(I)Z"⟩ ∈ dzGW := dzGW_in (i := 477) (by decide +kernel) (by rfl)
set_option maxRecDepth 100000 in
theorem zm_55 : dzMw 55 1 := ⟨dzGW_in (i := 478) (by rfl) (by rfl), zw_6, by decide +kernel, by decide +kernel, ⟨zw_477, dzGW_sel (q := (⟨"PrimeCertificates$Checker", "refuseTaken", "(I)Z"⟩, 13)) (by decide +kernel)⟩⟩
theorem zw_469 : Cond.instanceMethod ⟨"PrimeCertificates$Checker", "readSmallPrime", "([I)Z"⟩ ∈ dzGW := dzGW_in (i := 469) (by decide +kernel) (by rfl)
set_option maxRecDepth 100000 in
theorem zm_56 : dzMw 56 1 := ⟨dzGW_in (i := 470) (by rfl) (by rfl), zw_6, by decide +kernel, by decide +kernel, ⟨zw_469, dzGW_sel (q := (⟨"PrimeCertificates$Checker", "readSmallPrime", "([I)Z"⟩, 13)) (by decide +kernel)⟩⟩
theorem zw_486 : Cond.static ⟨"PrimeCertificates$Sums", "isAtMost", "([II)Z"⟩ ∈ dzGW := dzGW_in (i := 486) (by decide +kernel) (by rfl)
set_option maxRecDepth 100000 in
theorem zm_57 : dzMw 57 0 := ⟨dzGW_in (i := 487) (by rfl) (by rfl), zw_2, by decide +kernel, by decide +kernel, zw_486⟩
theorem zw_482 : Cond.instanceMethod ⟨"PrimeCertificates$Checker", "readNumber", "([I)Z"⟩ ∈ dzGW := dzGW_in (i := 482) (by decide +kernel) (by rfl)
set_option maxRecDepth 100000 in
theorem zm_58 : dzMw 58 1 := ⟨dzGW_in (i := 483) (by rfl) (by rfl), zw_6, by decide +kernel, by decide +kernel, ⟨zw_482, dzGW_sel (q := (⟨"PrimeCertificates$Checker", "readNumber", "([I)Z"⟩, 13)) (by decide +kernel)⟩⟩
theorem zw_493 : Cond.static ⟨"PrimeCertificates$Checker", "isWitness", "(I[I)Z"⟩ ∈ dzGW := dzGW_in (i := 493) (by decide +kernel) (by rfl)
set_option maxRecDepth 100000 in
theorem zm_59 : dzMw 59 0 := ⟨dzGW_in (i := 494) (by rfl) (by rfl), zw_6, by decide +kernel, by decide +kernel, zw_493⟩
theorem zw_490 : Cond.instanceMethod ⟨"PrimeCertificates$Checker", "readRoot", "([I)Z"⟩ ∈ dzGW := dzGW_in (i := 490) (by decide +kernel) (by rfl)
set_option maxRecDepth 100000 in
theorem zm_60 : dzMw 60 1 := ⟨dzGW_in (i := 491) (by rfl) (by rfl), zw_6, by decide +kernel, by decide +kernel, ⟨zw_490, dzGW_sel (q := (⟨"PrimeCertificates$Checker", "readRoot", "([I)Z"⟩, 13)) (by decide +kernel)⟩⟩
theorem zw_505 : Cond.instanceMethod ⟨"PrimeCertificates$Checker", "factorNumber", "(I)[I"⟩ ∈ dzGW := dzGW_in (i := 505) (by decide +kernel) (by rfl)
set_option maxRecDepth 100000 in
theorem zm_61 : dzMw 61 1 := ⟨dzGW_in (i := 506) (by rfl) (by rfl), zw_6, by decide +kernel, by decide +kernel, ⟨zw_505, dzGW_sel (q := (⟨"PrimeCertificates$Checker", "factorNumber", "(I)[I"⟩, 13)) (by decide +kernel)⟩⟩
theorem zw_501 : Cond.instanceMethod ⟨"PrimeCertificates$Checker", "readFactorLine", "(II)Z"⟩ ∈ dzGW := dzGW_in (i := 501) (by decide +kernel) (by rfl)
set_option maxRecDepth 100000 in
theorem zm_62 : dzMw 62 1 := ⟨dzGW_in (i := 502) (by rfl) (by rfl), zw_6, by decide +kernel, by decide +kernel, ⟨zw_501, dzGW_sel (q := (⟨"PrimeCertificates$Checker", "readFactorLine", "(II)Z"⟩, 13)) (by decide +kernel)⟩⟩
theorem zw_510 : Cond.instanceMethod ⟨"PrimeCertificates$Checker", "readExponent", "(I)Z"⟩ ∈ dzGW := dzGW_in (i := 510) (by decide +kernel) (by rfl)
set_option maxRecDepth 100000 in
theorem zm_63 : dzMw 63 1 := ⟨dzGW_in (i := 511) (by rfl) (by rfl), zw_6, by decide +kernel, by decide +kernel, ⟨zw_510, dzGW_sel (q := (⟨"PrimeCertificates$Checker", "readExponent", "(I)Z"⟩, 13)) (by decide +kernel)⟩⟩
theorem zw_497 : Cond.instanceMethod ⟨"PrimeCertificates$Checker", "readFactors", "(I)Z"⟩ ∈ dzGW := dzGW_in (i := 497) (by decide +kernel) (by rfl)
set_option maxRecDepth 100000 in
theorem zm_64 : dzMw 64 1 := ⟨dzGW_in (i := 498) (by rfl) (by rfl), zw_6, by decide +kernel, by decide +kernel, ⟨zw_497, dzGW_sel (q := (⟨"PrimeCertificates$Checker", "readFactors", "(I)Z"⟩, 13)) (by decide +kernel)⟩⟩
theorem zw_457 : Cond.instanceMethod ⟨"PrimeCertificates$Checker", "readLine", "(I)Z"⟩ ∈ dzGW := dzGW_in (i := 457) (by decide +kernel) (by rfl)
set_option maxRecDepth 100000 in
theorem zm_65 : dzMw 65 1 := ⟨dzGW_in (i := 458) (by rfl) (by rfl), zw_6, by decide +kernel, by decide +kernel, ⟨zw_457, dzGW_sel (q := (⟨"PrimeCertificates$Checker", "readLine", "(I)Z"⟩, 13)) (by decide +kernel)⟩⟩
theorem zw_513 : Cond.instanceMethod ⟨"PrimeCertificates$Trial", "begin", "([I)V"⟩ ∈ dzGW := dzGW_in (i := 513) (by decide +kernel) (by rfl)
theorem zw_514 : Cond.selects "PrimeCertificates$Trial" ⟨"PrimeCertificates$Trial", "begin", "([I)V"⟩ ⟨"PrimeCertificates$Trial", "begin", "([I)V"⟩ ∈ dzGW := dzGW_in (i := 514) (by decide +kernel) (by rfl)
set_option maxRecDepth 100000 in
theorem zm_66 : dzMw 66 1 := ⟨dzGW_in (i := 515) (by rfl) (by rfl), zw_5, by decide +kernel, by decide +kernel, ⟨zw_513, zw_514⟩⟩
theorem zw_524 : Cond.instanceMethod ⟨"PrimeCertificates$Checker", "multiplyFactors", "()Z"⟩ ∈ dzGW := dzGW_in (i := 524) (by decide +kernel) (by rfl)
set_option maxRecDepth 100000 in
theorem zm_67 : dzMw 67 1 := ⟨dzGW_in (i := 525) (by rfl) (by rfl), zw_6, by decide +kernel, by decide +kernel, ⟨zw_524, dzGW_sel (q := (⟨"PrimeCertificates$Checker", "multiplyFactors", "()Z"⟩, 13)) (by decide +kernel)⟩⟩
theorem zw_528 : Cond.instanceMethod ⟨"PrimeCertificates$Sums", "divides", "([I[I)Z"⟩ ∈ dzGW := dzGW_in (i := 528) (by decide +kernel) (by rfl)
theorem zw_529 : Cond.selects "PrimeCertificates$Sums" ⟨"PrimeCertificates$Sums", "divides", "([I[I)Z"⟩ ⟨"PrimeCertificates$Sums", "divides", "([I[I)Z"⟩ ∈ dzGW := dzGW_in (i := 529) (by decide +kernel) (by rfl)
set_option maxRecDepth 100000 in
theorem zm_68 : dzMw 68 1 := ⟨dzGW_in (i := 530) (by rfl) (by rfl), zw_2, by decide +kernel, by decide +kernel, ⟨zw_528, zw_529⟩⟩
theorem zw_532 : Cond.instanceMethod ⟨"PrimeCertificates$Sums", "squareIsAbove", "([I[I)Z"⟩ ∈ dzGW := dzGW_in (i := 532) (by decide +kernel) (by rfl)
theorem zw_533 : Cond.selects "PrimeCertificates$Sums" ⟨"PrimeCertificates$Sums", "squareIsAbove", "([I[I)Z"⟩ ⟨"PrimeCertificates$Sums", "squareIsAbove", "([I[I)Z"⟩ ∈ dzGW := dzGW_in (i := 533) (by decide +kernel) (by rfl)
set_option maxRecDepth 100000 in
theorem zm_69 : dzMw 69 1 := ⟨dzGW_in (i := 534) (by rfl) (by rfl), zw_2, by decide +kernel, by decide +kernel, ⟨zw_532, zw_533⟩⟩
theorem zw_520 : Cond.instanceMethod ⟨"PrimeCertificates$Checker", "productHolds", "()Z"⟩ ∈ dzGW := dzGW_in (i := 520) (by decide +kernel) (by rfl)
set_option maxRecDepth 100000 in
theorem zm_70 : dzMw 70 1 := ⟨dzGW_in (i := 521) (by rfl) (by rfl), zw_6, by decide +kernel, by decide +kernel, ⟨zw_520, dzGW_sel (q := (⟨"PrimeCertificates$Checker", "productHolds", "()Z"⟩, 13)) (by decide +kernel)⟩⟩
theorem zw_546 : Cond.static ⟨"PrimeCertificates$Sums", "isOne", "([I)Z"⟩ ∈ dzGW := dzGW_in (i := 546) (by decide +kernel) (by rfl)
set_option maxRecDepth 100000 in
theorem zm_71 : dzMw 71 0 := ⟨dzGW_in (i := 547) (by rfl) (by rfl), zw_2, by decide +kernel, by decide +kernel, zw_546⟩
theorem zw_541 : Cond.instanceMethod ⟨"PrimeCertificates$Trial", "closes", "(I)Z"⟩ ∈ dzGW := dzGW_in (i := 541) (by decide +kernel) (by rfl)
theorem zw_542 : Cond.selects "PrimeCertificates$Trial" ⟨"PrimeCertificates$Trial", "closes", "(I)Z"⟩ ⟨"PrimeCertificates$Trial", "closes", "(I)Z"⟩ ∈ dzGW := dzGW_in (i := 542) (by decide +kernel) (by rfl)
set_option maxRecDepth 100000 in
theorem zm_72 : dzMw 72 1 := ⟨dzGW_in (i := 543) (by rfl) (by rfl), zw_5, by decide +kernel, by decide +kernel, ⟨zw_541, zw_542⟩⟩
theorem zw_549 : Cond.instanceMethod ⟨"PrimeCertificates$Trial", "parts", "(I[I)Z"⟩ ∈ dzGW := dzGW_in (i := 549) (by decide +kernel) (by rfl)
theorem zw_550 : Cond.selects "PrimeCertificates$Trial" ⟨"PrimeCertificates$Trial", "parts", "(I[I)Z"⟩ ⟨"PrimeCertificates$Trial", "parts", "(I[I)Z"⟩ ∈ dzGW := dzGW_in (i := 550) (by decide +kernel) (by rfl)
set_option maxRecDepth 100000 in
theorem zm_73 : dzMw 73 1 := ⟨dzGW_in (i := 551) (by rfl) (by rfl), zw_5, by decide +kernel, by decide +kernel, ⟨zw_549, zw_550⟩⟩
theorem zw_555 : Cond.instanceMethod ⟨"PrimeCertificates$Checker", "factorPlace", "(I)I"⟩ ∈ dzGW := dzGW_in (i := 555) (by decide +kernel) (by rfl)
set_option maxRecDepth 100000 in
theorem zm_74 : dzMw 74 1 := ⟨dzGW_in (i := 556) (by rfl) (by rfl), zw_6, by decide +kernel, by decide +kernel, ⟨zw_555, dzGW_sel (q := (⟨"PrimeCertificates$Checker", "factorPlace", "(I)I"⟩, 13)) (by decide +kernel)⟩⟩
theorem zw_538 : Cond.instanceMethod ⟨"PrimeCertificates$Checker", "rootHolds", "()Z"⟩ ∈ dzGW := dzGW_in (i := 538) (by decide +kernel) (by rfl)
set_option maxRecDepth 100000 in
theorem zm_75 : dzMw 75 1 := ⟨dzGW_in (i := 539) (by rfl) (by rfl), zw_6, by decide +kernel, by decide +kernel, ⟨zw_538, dzGW_sel (q := (⟨"PrimeCertificates$Checker", "rootHolds", "()Z"⟩, 13)) (by decide +kernel)⟩⟩
theorem zw_562 : Cond.instanceMethod ⟨"PrimeCertificates$Trial", "partsEverywhere", "(I[I)Z"⟩ ∈ dzGW := dzGW_in (i := 562) (by decide +kernel) (by rfl)
theorem zw_563 : Cond.selects "PrimeCertificates$Trial" ⟨"PrimeCertificates$Trial", "partsEverywhere", "(I[I)Z"⟩ ⟨"PrimeCertificates$Trial", "partsEverywhere", "(I[I)Z"⟩ ∈ dzGW := dzGW_in (i := 563) (by decide +kernel) (by rfl)
set_option maxRecDepth 100000 in
theorem zm_76 : dzMw 76 1 := ⟨dzGW_in (i := 564) (by rfl) (by rfl), zw_5, by decide +kernel, by decide +kernel, ⟨zw_562, zw_563⟩⟩
theorem zw_559 : Cond.instanceMethod ⟨"PrimeCertificates$Checker", "witnessesHold", "()Z"⟩ ∈ dzGW := dzGW_in (i := 559) (by decide +kernel) (by rfl)
set_option maxRecDepth 100000 in
theorem zm_77 : dzMw 77 1 := ⟨dzGW_in (i := 560) (by rfl) (by rfl), zw_6, by decide +kernel, by decide +kernel, ⟨zw_559, dzGW_sel (q := (⟨"PrimeCertificates$Checker", "witnessesHold", "()Z"⟩, 13)) (by decide +kernel)⟩⟩
theorem zw_567 : Cond.instanceMethod ⟨"PrimeCertificates$Lines", "keepNext", "(I)V"⟩ ∈ dzGW := dzGW_in (i := 567) (by decide +kernel) (by rfl)
theorem zw_568 : Cond.selects "PrimeCertificates$Lines" ⟨"PrimeCertificates$Lines", "keepNext", "(I)V"⟩ ⟨"PrimeCertificates$Lines", "keepNext", "(I)V"⟩ ∈ dzGW := dzGW_in (i := 568) (by decide +kernel) (by rfl)
set_option maxRecDepth 100000 in
theorem zm_78 : dzMw 78 1 := ⟨dzGW_in (i := 569) (by rfl) (by rfl), zw_4, by decide +kernel, by decide +kernel, ⟨zw_567, zw_568⟩⟩
theorem zw_448 : Cond.instanceMethod ⟨"PrimeCertificates$Checker", "findFault", "()I"⟩ ∈ dzGW := dzGW_in (i := 448) (by decide +kernel) (by rfl)
theorem zw_449 : Cond.selects "PrimeCertificates$Checker" ⟨"PrimeCertificates$Checker", "findFault", "()I"⟩ ⟨"PrimeCertificates$Checker", "findFault", "()I"⟩ ∈ dzGW := dzGW_in (i := 449) (by decide +kernel) (by rfl)
set_option maxRecDepth 100000 in
theorem zm_79 : dzMw 79 1 := ⟨dzGW_in (i := 450) (by rfl) (by rfl), zw_6, by decide +kernel, by decide +kernel, ⟨zw_448, zw_449⟩⟩
theorem zw_444 : Cond.instanceMethod ⟨"PrimeCertificates", "check", "()I"⟩ ∈ dzGW := dzGW_in (i := 444) (by decide +kernel) (by rfl)
theorem zw_445 : Cond.selects "PrimeCertificates" ⟨"PrimeCertificates", "check", "()I"⟩ ⟨"PrimeCertificates", "check", "()I"⟩ ∈ dzGW := dzGW_in (i := 445) (by decide +kernel) (by rfl)
set_option maxRecDepth 100000 in
theorem zm_80 : dzMw 80 1 := ⟨dzGW_in (i := 446) (by rfl) (by rfl), zw_1, by decide +kernel, by decide +kernel, ⟨zw_444, zw_445⟩⟩
theorem zw_571 : Cond.instanceMethod ⟨"PrimeCertificates", "place", "()I"⟩ ∈ dzGW := dzGW_in (i := 571) (by decide +kernel) (by rfl)
theorem zw_572 : Cond.selects "PrimeCertificates" ⟨"PrimeCertificates", "place", "()I"⟩ ⟨"PrimeCertificates", "place", "()I"⟩ ∈ dzGW := dzGW_in (i := 572) (by decide +kernel) (by rfl)
set_option maxRecDepth 100000 in
theorem zm_81 : dzMw 81 1 := ⟨dzGW_in (i := 573) (by rfl) (by rfl), zw_1, by decide +kernel, by decide +kernel, ⟨zw_571, zw_572⟩⟩
theorem zw_575 : Cond.instanceMethod ⟨"PrimeCertificates", "tell", "(II)Z"⟩ ∈ dzGW := dzGW_in (i := 575) (by decide +kernel) (by rfl)
theorem zw_576 : Cond.selects "PrimeCertificates" ⟨"PrimeCertificates", "tell", "(II)Z"⟩ ⟨"PrimeCertificates", "tell", "(II)Z"⟩ ∈ dzGW := dzGW_in (i := 576) (by decide +kernel) (by rfl)
set_option maxRecDepth 100000 in
theorem zm_82 : dzMw 82 1 := ⟨dzGW_in (i := 577) (by rfl) (by rfl), zw_1, by decide +kernel, by decide +kernel, ⟨zw_575, zw_576⟩⟩
theorem zw_587 : Cond.instanceMethod ⟨"PrimeCertificates$Lines", "lineOf", "([I)I"⟩ ∈ dzGW := dzGW_in (i := 587) (by decide +kernel) (by rfl)
theorem zw_588 : Cond.selects "PrimeCertificates$Lines" ⟨"PrimeCertificates$Lines", "lineOf", "([I)I"⟩ ⟨"PrimeCertificates$Lines", "lineOf", "([I)I"⟩ ∈ dzGW := dzGW_in (i := 588) (by decide +kernel) (by rfl)
set_option maxRecDepth 100000 in
theorem zm_83 : dzMw 83 1 := ⟨dzGW_in (i := 589) (by rfl) (by rfl), zw_4, by decide +kernel, by decide +kernel, ⟨zw_587, zw_588⟩⟩
theorem zw_596 : Cond.instanceMethod ⟨"PrimeCertificates$Maker", "planSmallLine", "([I)Z"⟩ ∈ dzGW := dzGW_in (i := 596) (by decide +kernel) (by rfl)
set_option maxRecDepth 100000 in
theorem zm_84 : dzMw 84 1 := ⟨dzGW_in (i := 597) (by rfl) (by rfl), zw_8, by decide +kernel, by decide +kernel, ⟨zw_596, dzGW_sel (q := (⟨"PrimeCertificates$Maker", "planSmallLine", "([I)Z"⟩, 11)) (by decide +kernel)⟩⟩
theorem zw_601 : Cond.instanceMethod ⟨"PrimeCertificates$Maker", "hasRoom", "(I)Z"⟩ ∈ dzGW := dzGW_in (i := 601) (by decide +kernel) (by rfl)
set_option maxRecDepth 100000 in
theorem zm_85 : dzMw 85 1 := ⟨dzGW_in (i := 602) (by rfl) (by rfl), zw_8, by decide +kernel, by decide +kernel, ⟨zw_601, dzGW_sel (q := (⟨"PrimeCertificates$Maker", "hasRoom", "(I)Z"⟩, 11)) (by decide +kernel)⟩⟩
theorem zw_606 : Cond.instanceMethod ⟨"PrimeCertificates$Maker", "writeSmallLines", "()I"⟩ ∈ dzGW := dzGW_in (i := 606) (by decide +kernel) (by rfl)
set_option maxRecDepth 100000 in
theorem zm_86 : dzMw 86 1 := ⟨dzGW_in (i := 607) (by rfl) (by rfl), zw_8, by decide +kernel, by decide +kernel, ⟨zw_606, dzGW_sel (q := (⟨"PrimeCertificates$Maker", "writeSmallLines", "()I"⟩, 11)) (by decide +kernel)⟩⟩
theorem zw_618 : Cond.instanceMethod ⟨"PrimeCertificates$Maker", "divideOut", "([I)I"⟩ ∈ dzGW := dzGW_in (i := 618) (by decide +kernel) (by rfl)
set_option maxRecDepth 100000 in
theorem zm_87 : dzMw 87 1 := ⟨dzGW_in (i := 619) (by rfl) (by rfl), zw_8, by decide +kernel, by decide +kernel, ⟨zw_618, dzGW_sel (q := (⟨"PrimeCertificates$Maker", "divideOut", "([I)I"⟩, 11)) (by decide +kernel)⟩⟩
theorem zw_632 : Cond.instanceMethod ⟨"PrimeCertificates$Maker", "factorNumber", "(I)[I"⟩ ∈ dzGW := dzGW_in (i := 632) (by decide +kernel) (by rfl)
set_option maxRecDepth 100000 in
theorem zm_88 : dzMw 88 1 := ⟨dzGW_in (i := 633) (by rfl) (by rfl), zw_8, by decide +kernel, by decide +kernel, ⟨zw_632, dzGW_sel (q := (⟨"PrimeCertificates$Maker", "factorNumber", "(I)[I"⟩, 11)) (by decide +kernel)⟩⟩
theorem zw_628 : Cond.instanceMethod ⟨"PrimeCertificates$Maker", "insertFactor", "(II)Z"⟩ ∈ dzGW := dzGW_in (i := 628) (by decide +kernel) (by rfl)
set_option maxRecDepth 100000 in
theorem zm_89 : dzMw 89 1 := ⟨dzGW_in (i := 629) (by rfl) (by rfl), zw_8, by decide +kernel, by decide +kernel, ⟨zw_628, dzGW_sel (q := (⟨"PrimeCertificates$Maker", "insertFactor", "(II)Z"⟩, 11)) (by decide +kernel)⟩⟩
theorem zw_624 : Cond.instanceMethod ⟨"PrimeCertificates$Maker", "insertPrime", "(I)Z"⟩ ∈ dzGW := dzGW_in (i := 624) (by decide +kernel) (by rfl)
set_option maxRecDepth 100000 in
theorem zm_90 : dzMw 90 1 := ⟨dzGW_in (i := 625) (by rfl) (by rfl), zw_8, by decide +kernel, by decide +kernel, ⟨zw_624, dzGW_sel (q := (⟨"PrimeCertificates$Maker", "insertPrime", "(I)Z"⟩, 11)) (by decide +kernel)⟩⟩
theorem zw_613 : Cond.instanceMethod ⟨"PrimeCertificates$Maker", "findFactors", "()Z"⟩ ∈ dzGW := dzGW_in (i := 613) (by decide +kernel) (by rfl)
set_option maxRecDepth 100000 in
theorem zm_91 : dzMw 91 1 := ⟨dzGW_in (i := 614) (by rfl) (by rfl), zw_8, by decide +kernel, by decide +kernel, ⟨zw_613, dzGW_sel (q := (⟨"PrimeCertificates$Maker", "findFactors", "()Z"⟩, 11)) (by decide +kernel)⟩⟩
theorem zw_638 : Cond.instanceMethod ⟨"PrimeCertificates$Maker", "lastLineInts", "(Z)I"⟩ ∈ dzGW := dzGW_in (i := 638) (by decide +kernel) (by rfl)
set_option maxRecDepth 100000 in
theorem zm_92 : dzMw 92 1 := ⟨dzGW_in (i := 639) (by rfl) (by rfl), zw_8, by decide +kernel, by decide +kernel, ⟨zw_638, dzGW_sel (q := (⟨"PrimeCertificates$Maker", "lastLineInts", "(Z)I"⟩, 11)) (by decide +kernel)⟩⟩
theorem zw_643 : Cond.instanceMethod ⟨"PrimeCertificates$Maker", "factorsSuffice", "()Z"⟩ ∈ dzGW := dzGW_in (i := 643) (by decide +kernel) (by rfl)
set_option maxRecDepth 100000 in
theorem zm_93 : dzMw 93 1 := ⟨dzGW_in (i := 644) (by rfl) (by rfl), zw_8, by decide +kernel, by decide +kernel, ⟨zw_643, dzGW_sel (q := (⟨"PrimeCertificates$Maker", "factorsSuffice", "()Z"⟩, 11)) (by decide +kernel)⟩⟩
theorem zw_648 : Cond.instanceMethod ⟨"PrimeCertificates$Maker", "findRoot", "()Z"⟩ ∈ dzGW := dzGW_in (i := 648) (by decide +kernel) (by rfl)
set_option maxRecDepth 100000 in
theorem zm_94 : dzMw 94 1 := ⟨dzGW_in (i := 649) (by rfl) (by rfl), zw_8, by decide +kernel, by decide +kernel, ⟨zw_648, dzGW_sel (q := (⟨"PrimeCertificates$Maker", "findRoot", "()Z"⟩, 11)) (by decide +kernel)⟩⟩
theorem zw_654 : Cond.instanceMethod ⟨"PrimeCertificates$Maker", "findWitnesses", "()Z"⟩ ∈ dzGW := dzGW_in (i := 654) (by decide +kernel) (by rfl)
set_option maxRecDepth 100000 in
theorem zm_95 : dzMw 95 1 := ⟨dzGW_in (i := 655) (by rfl) (by rfl), zw_8, by decide +kernel, by decide +kernel, ⟨zw_654, dzGW_sel (q := (⟨"PrimeCertificates$Maker", "findWitnesses", "()Z"⟩, 11)) (by decide +kernel)⟩⟩
theorem zw_662 : Cond.instanceMethod ⟨"PrimeCertificates$Maker", "writeLastLine", "(Z)I"⟩ ∈ dzGW := dzGW_in (i := 662) (by decide +kernel) (by rfl)
set_option maxRecDepth 100000 in
theorem zm_96 : dzMw 96 1 := ⟨dzGW_in (i := 663) (by rfl) (by rfl), zw_8, by decide +kernel, by decide +kernel, ⟨zw_662, dzGW_sel (q := (⟨"PrimeCertificates$Maker", "writeLastLine", "(Z)I"⟩, 11)) (by decide +kernel)⟩⟩
theorem zw_583 : Cond.instanceMethod ⟨"PrimeCertificates$Maker", "lineFor", "([I)I"⟩ ∈ dzGW := dzGW_in (i := 583) (by decide +kernel) (by rfl)
theorem zw_584 : Cond.selects "PrimeCertificates$Maker" ⟨"PrimeCertificates$Maker", "lineFor", "([I)I"⟩ ⟨"PrimeCertificates$Maker", "lineFor", "([I)I"⟩ ∈ dzGW := dzGW_in (i := 584) (by decide +kernel) (by rfl)
set_option maxRecDepth 100000 in
theorem zm_97 : dzMw 97 1 := ⟨dzGW_in (i := 585) (by rfl) (by rfl), zw_8, by decide +kernel, by decide +kernel, ⟨zw_583, zw_584⟩⟩
theorem zw_579 : Cond.instanceMethod ⟨"PrimeCertificates", "prove", "(I)I"⟩ ∈ dzGW := dzGW_in (i := 579) (by decide +kernel) (by rfl)
theorem zw_580 : Cond.selects "PrimeCertificates" ⟨"PrimeCertificates", "prove", "(I)I"⟩ ⟨"PrimeCertificates", "prove", "(I)I"⟩ ∈ dzGW := dzGW_in (i := 580) (by decide +kernel) (by rfl)
set_option maxRecDepth 100000 in
theorem zm_98 : dzMw 98 1 := ⟨dzGW_in (i := 581) (by rfl) (by rfl), zw_1, by decide +kernel, by decide +kernel, ⟨zw_579, zw_580⟩⟩
theorem zw_672 : Cond.instanceMethod ⟨"PrimeCertificatesModel", "set", "(IJ)V"⟩ ∈ dzGW := dzGW_in (i := 672) (by decide +kernel) (by rfl)
set_option maxRecDepth 100000 in
theorem zm_99 : dzMw 99 1 := ⟨dzGW_in (i := 673) (by rfl) (by rfl), zw_9, by decide +kernel, by decide +kernel, ⟨zw_672, dzGW_sel (q := (⟨"PrimeCertificatesModel", "set", "(IJ)V"⟩, 12)) (by decide +kernel)⟩⟩
theorem zw_667 : Cond.instanceMethod ⟨"PrimeCertificatesModel", "<init>", "()V"⟩ ∈ dzGW := dzGW_in (i := 667) (by decide +kernel) (by rfl)
set_option maxRecDepth 100000 in
theorem zm_100 : dzMw 100 2 := ⟨dzGW_in (i := 668) (by rfl) (by rfl), zw_9, by decide +kernel, by decide +kernel, ⟨zw_667, by decide +kernel⟩⟩
theorem zw_733 : Cond.instanceMethod ⟨"PrimeCertificatesModel", "copy", "(II)V"⟩ ∈ dzGW := dzGW_in (i := 733) (by decide +kernel) (by rfl)
set_option maxRecDepth 100000 in
theorem zm_101 : dzMw 101 1 := ⟨dzGW_in (i := 734) (by rfl) (by rfl), zw_9, by decide +kernel, by decide +kernel, ⟨zw_733, dzGW_sel (q := (⟨"PrimeCertificatesModel", "copy", "(II)V"⟩, 12)) (by decide +kernel)⟩⟩
theorem zw_757 : Cond.instanceMethod ⟨"PrimeCertificatesModel", "order", "(II)I"⟩ ∈ dzGW := dzGW_in (i := 757) (by decide +kernel) (by rfl)
set_option maxRecDepth 100000 in
theorem zm_102 : dzMw 102 1 := ⟨dzGW_in (i := 758) (by rfl) (by rfl), zw_9, by decide +kernel, by decide +kernel, ⟨zw_757, dzGW_sel (q := (⟨"PrimeCertificatesModel", "order", "(II)I"⟩, 12)) (by decide +kernel)⟩⟩
theorem zw_749 : Cond.instanceMethod ⟨"PrimeCertificatesModel", "lengthOf", "(I)I"⟩ ∈ dzGW := dzGW_in (i := 749) (by decide +kernel) (by rfl)
set_option maxRecDepth 100000 in
theorem zm_103 : dzMw 103 1 := ⟨dzGW_in (i := 750) (by rfl) (by rfl), zw_9, by decide +kernel, by decide +kernel, ⟨zw_749, dzGW_sel (q := (⟨"PrimeCertificatesModel", "lengthOf", "(I)I"⟩, 12)) (by decide +kernel)⟩⟩
theorem zw_777 : Cond.instanceMethod ⟨"PrimeCertificatesModel", "isZero", "(I)Z"⟩ ∈ dzGW := dzGW_in (i := 777) (by decide +kernel) (by rfl)
set_option maxRecDepth 100000 in
theorem zm_104 : dzMw 104 1 := ⟨dzGW_in (i := 778) (by rfl) (by rfl), zw_9, by decide +kernel, by decide +kernel, ⟨zw_777, dzGW_sel (q := (⟨"PrimeCertificatesModel", "isZero", "(I)Z"⟩, 12)) (by decide +kernel)⟩⟩
theorem zw_737 : Cond.instanceMethod ⟨"PrimeCertificatesModel", "raise", "(II)V"⟩ ∈ dzGW := dzGW_in (i := 737) (by decide +kernel) (by rfl)
set_option maxRecDepth 100000 in
theorem zm_105 : dzMw 105 1 := ⟨dzGW_in (i := 738) (by rfl) (by rfl), zw_9, by decide +kernel, by decide +kernel, ⟨zw_737, dzGW_sel (q := (⟨"PrimeCertificatesModel", "raise", "(II)V"⟩, 12)) (by decide +kernel)⟩⟩
theorem zw_761 : Cond.instanceMethod ⟨"PrimeCertificatesModel", "lower", "(II)V"⟩ ∈ dzGW := dzGW_in (i := 761) (by decide +kernel) (by rfl)
set_option maxRecDepth 100000 in
theorem zm_106 : dzMw 106 1 := ⟨dzGW_in (i := 762) (by rfl) (by rfl), zw_9, by decide +kernel, by decide +kernel, ⟨zw_761, dzGW_sel (q := (⟨"PrimeCertificatesModel", "lower", "(II)V"⟩, 12)) (by decide +kernel)⟩⟩
theorem zw_769 : Cond.instanceMethod ⟨"PrimeCertificatesModel", "times", "(III)V"⟩ ∈ dzGW := dzGW_in (i := 769) (by decide +kernel) (by rfl)
set_option maxRecDepth 100000 in
theorem zm_107 : dzMw 107 1 := ⟨dzGW_in (i := 770) (by rfl) (by rfl), zw_9, by decide +kernel, by decide +kernel, ⟨zw_769, dzGW_sel (q := (⟨"PrimeCertificatesModel", "times", "(III)V"⟩, 12)) (by decide +kernel)⟩⟩
theorem zw_785 : Cond.instanceMethod ⟨"PrimeCertificatesModel", "guess", "(IIII)I"⟩ ∈ dzGW := dzGW_in (i := 785) (by decide +kernel) (by rfl)
set_option maxRecDepth 100000 in
theorem zm_108 : dzMw 108 1 := ⟨dzGW_in (i := 786) (by rfl) (by rfl), zw_9, by decide +kernel, by decide +kernel, ⟨zw_785, dzGW_sel (q := (⟨"PrimeCertificatesModel", "guess", "(IIII)I"⟩, 12)) (by decide +kernel)⟩⟩
theorem zw_789 : Cond.instanceMethod ⟨"PrimeCertificatesModel", "away", "(IIIII)V"⟩ ∈ dzGW := dzGW_in (i := 789) (by decide +kernel) (by rfl)
set_option maxRecDepth 100000 in
theorem zm_109 : dzMw 109 1 := ⟨dzGW_in (i := 790) (by rfl) (by rfl), zw_9, by decide +kernel, by decide +kernel, ⟨zw_789, dzGW_sel (q := (⟨"PrimeCertificatesModel", "away", "(IIIII)V"⟩, 12)) (by decide +kernel)⟩⟩
theorem zw_793 : Cond.instanceMethod ⟨"PrimeCertificatesModel", "isOver", "(IIII)Z"⟩ ∈ dzGW := dzGW_in (i := 793) (by decide +kernel) (by rfl)
set_option maxRecDepth 100000 in
theorem zm_110 : dzMw 110 1 := ⟨dzGW_in (i := 794) (by rfl) (by rfl), zw_9, by decide +kernel, by decide +kernel, ⟨zw_793, dzGW_sel (q := (⟨"PrimeCertificatesModel", "isOver", "(IIII)Z"⟩, 12)) (by decide +kernel)⟩⟩
theorem zw_781 : Cond.instanceMethod ⟨"PrimeCertificatesModel", "part", "(IIII)V"⟩ ∈ dzGW := dzGW_in (i := 781) (by decide +kernel) (by rfl)
set_option maxRecDepth 100000 in
theorem zm_111 : dzMw 111 1 := ⟨dzGW_in (i := 782) (by rfl) (by rfl), zw_9, by decide +kernel, by decide +kernel, ⟨zw_781, dzGW_sel (q := (⟨"PrimeCertificatesModel", "part", "(IIII)V"⟩, 12)) (by decide +kernel)⟩⟩
theorem zw_805 : Cond.instanceMethod ⟨"PrimeCertificatesModel", "bit", "(II)I"⟩ ∈ dzGW := dzGW_in (i := 805) (by decide +kernel) (by rfl)
set_option maxRecDepth 100000 in
theorem zm_112 : dzMw 112 1 := ⟨dzGW_in (i := 806) (by rfl) (by rfl), zw_9, by decide +kernel, by decide +kernel, ⟨zw_805, dzGW_sel (q := (⟨"PrimeCertificatesModel", "bit", "(II)I"⟩, 12)) (by decide +kernel)⟩⟩
theorem zw_801 : Cond.instanceMethod ⟨"PrimeCertificatesModel", "raiseTo", "(IIII)V"⟩ ∈ dzGW := dzGW_in (i := 801) (by decide +kernel) (by rfl)
set_option maxRecDepth 100000 in
theorem zm_113 : dzMw 113 1 := ⟨dzGW_in (i := 802) (by rfl) (by rfl), zw_9, by decide +kernel, by decide +kernel, ⟨zw_801, dzGW_sel (q := (⟨"PrimeCertificatesModel", "raiseTo", "(IIII)V"⟩, 12)) (by decide +kernel)⟩⟩
theorem zw_813 : Cond.instanceMethod ⟨"PrimeCertificatesModel", "divisor", "(III)V"⟩ ∈ dzGW := dzGW_in (i := 813) (by decide +kernel) (by rfl)
set_option maxRecDepth 100000 in
theorem zm_114 : dzMw 114 1 := ⟨dzGW_in (i := 814) (by rfl) (by rfl), zw_9, by decide +kernel, by decide +kernel, ⟨zw_813, dzGW_sel (q := (⟨"PrimeCertificatesModel", "divisor", "(III)V"⟩, 12)) (by decide +kernel)⟩⟩
theorem zw_745 : Cond.instanceMethod ⟨"PrimeCertificatesModel", "fits", "(I)Z"⟩ ∈ dzGW := dzGW_in (i := 745) (by decide +kernel) (by rfl)
set_option maxRecDepth 100000 in
theorem zm_115 : dzMw 115 1 := ⟨dzGW_in (i := 746) (by rfl) (by rfl), zw_9, by decide +kernel, by decide +kernel, ⟨zw_745, dzGW_sel (q := (⟨"PrimeCertificatesModel", "fits", "(I)Z"⟩, 12)) (by decide +kernel)⟩⟩
theorem zw_889 : Cond.instanceMethod ⟨"PrimeCertificatesModel", "isOne", "(I)Z"⟩ ∈ dzGW := dzGW_in (i := 889) (by decide +kernel) (by rfl)
set_option maxRecDepth 100000 in
theorem zm_116 : dzMw 116 1 := ⟨dzGW_in (i := 890) (by rfl) (by rfl), zw_9, by decide +kernel, by decide +kernel, ⟨zw_889, dzGW_sel (q := (⟨"PrimeCertificatesModel", "isOne", "(I)Z"⟩, 12)) (by decide +kernel)⟩⟩
theorem zw_717 : Cond.static ⟨"PrimeCertificatesModel", "isRegister", "(I)Z"⟩ ∈ dzGW := dzGW_in (i := 717) (by decide +kernel) (by rfl)
set_option maxRecDepth 100000 in
theorem zm_117 : dzMw 117 0 := ⟨dzGW_in (i := 718) (by rfl) (by rfl), zw_9, by decide +kernel, by decide +kernel, zw_717⟩
theorem zw_713 : Cond.instanceMethod ⟨"PrimeCertificatesModel", "put", "(III)Z"⟩ ∈ dzGW := dzGW_in (i := 713) (by decide +kernel) (by rfl)
theorem zw_714 : Cond.selects "PrimeCertificatesModel" ⟨"PrimeCertificatesModel", "put", "(III)Z"⟩ ⟨"PrimeCertificatesModel", "put", "(III)Z"⟩ ∈ dzGW := dzGW_in (i := 714) (by decide +kernel) (by rfl)
set_option maxRecDepth 100000 in
theorem zm_118 : dzMw 118 1 := ⟨dzGW_in (i := 715) (by rfl) (by rfl), zw_9, by decide +kernel, by decide +kernel, ⟨zw_713, zw_714⟩⟩
theorem zw_721 : Cond.instanceMethod ⟨"PrimeCertificatesModel", "get", "(II)I"⟩ ∈ dzGW := dzGW_in (i := 721) (by decide +kernel) (by rfl)
theorem zw_722 : Cond.selects "PrimeCertificatesModel" ⟨"PrimeCertificatesModel", "get", "(II)I"⟩ ⟨"PrimeCertificatesModel", "get", "(II)I"⟩ ∈ dzGW := dzGW_in (i := 722) (by decide +kernel) (by rfl)
set_option maxRecDepth 100000 in
theorem zm_119 : dzMw 119 1 := ⟨dzGW_in (i := 723) (by rfl) (by rfl), zw_9, by decide +kernel, by decide +kernel, ⟨zw_721, zw_722⟩⟩
theorem zw_729 : Cond.static ⟨"PrimeCertificatesModel", "are", "(III)Z"⟩ ∈ dzGW := dzGW_in (i := 729) (by decide +kernel) (by rfl)
set_option maxRecDepth 100000 in
theorem zm_120 : dzMw 120 0 := ⟨dzGW_in (i := 730) (by rfl) (by rfl), zw_9, by decide +kernel, by decide +kernel, zw_729⟩
theorem zw_741 : Cond.instanceMethod ⟨"PrimeCertificatesModel", "give", "(II)I"⟩ ∈ dzGW := dzGW_in (i := 741) (by decide +kernel) (by rfl)
set_option maxRecDepth 100000 in
theorem zm_121 : dzMw 121 1 := ⟨dzGW_in (i := 742) (by rfl) (by rfl), zw_9, by decide +kernel, by decide +kernel, ⟨zw_741, dzGW_sel (q := (⟨"PrimeCertificatesModel", "give", "(II)I"⟩, 12)) (by decide +kernel)⟩⟩
theorem zw_725 : Cond.instanceMethod ⟨"PrimeCertificatesModel", "add", "(III)I"⟩ ∈ dzGW := dzGW_in (i := 725) (by decide +kernel) (by rfl)
theorem zw_726 : Cond.selects "PrimeCertificatesModel" ⟨"PrimeCertificatesModel", "add", "(III)I"⟩ ⟨"PrimeCertificatesModel", "add", "(III)I"⟩ ∈ dzGW := dzGW_in (i := 726) (by decide +kernel) (by rfl)
set_option maxRecDepth 100000 in
theorem zm_122 : dzMw 122 1 := ⟨dzGW_in (i := 727) (by rfl) (by rfl), zw_9, by decide +kernel, by decide +kernel, ⟨zw_725, zw_726⟩⟩
theorem zw_752 : Cond.instanceMethod ⟨"PrimeCertificatesModel", "subtract", "(III)I"⟩ ∈ dzGW := dzGW_in (i := 752) (by decide +kernel) (by rfl)
theorem zw_753 : Cond.selects "PrimeCertificatesModel" ⟨"PrimeCertificatesModel", "subtract", "(III)I"⟩ ⟨"PrimeCertificatesModel", "subtract", "(III)I"⟩ ∈ dzGW := dzGW_in (i := 753) (by decide +kernel) (by rfl)
set_option maxRecDepth 100000 in
theorem zm_123 : dzMw 123 1 := ⟨dzGW_in (i := 754) (by rfl) (by rfl), zw_9, by decide +kernel, by decide +kernel, ⟨zw_752, zw_753⟩⟩
theorem zw_764 : Cond.instanceMethod ⟨"PrimeCertificatesModel", "multiply", "(III)I"⟩ ∈ dzGW := dzGW_in (i := 764) (by decide +kernel) (by rfl)
theorem zw_765 : Cond.selects "PrimeCertificatesModel" ⟨"PrimeCertificatesModel", "multiply", "(III)I"⟩ ⟨"PrimeCertificatesModel", "multiply", "(III)I"⟩ ∈ dzGW := dzGW_in (i := 765) (by decide +kernel) (by rfl)
set_option maxRecDepth 100000 in
theorem zm_124 : dzMw 124 1 := ⟨dzGW_in (i := 766) (by rfl) (by rfl), zw_9, by decide +kernel, by decide +kernel, ⟨zw_764, zw_765⟩⟩
theorem zw_772 : Cond.instanceMethod ⟨"PrimeCertificatesModel", "divide", "(IIII)I"⟩ ∈ dzGW := dzGW_in (i := 772) (by decide +kernel) (by rfl)
theorem zw_773 : Cond.selects "PrimeCertificatesModel" ⟨"PrimeCertificatesModel", "divide", "(IIII)I"⟩ ⟨"PrimeCertificatesModel", "divide", "(IIII)I"⟩ ∈ dzGW := dzGW_in (i := 773) (by decide +kernel) (by rfl)
set_option maxRecDepth 100000 in
theorem zm_125 : dzMw 125 1 := ⟨dzGW_in (i := 774) (by rfl) (by rfl), zw_9, by decide +kernel, by decide +kernel, ⟨zw_772, zw_773⟩⟩
theorem zw_796 : Cond.instanceMethod ⟨"PrimeCertificatesModel", "power", "(IIII)I"⟩ ∈ dzGW := dzGW_in (i := 796) (by decide +kernel) (by rfl)
theorem zw_797 : Cond.selects "PrimeCertificatesModel" ⟨"PrimeCertificatesModel", "power", "(IIII)I"⟩ ⟨"PrimeCertificatesModel", "power", "(IIII)I"⟩ ∈ dzGW := dzGW_in (i := 797) (by decide +kernel) (by rfl)
set_option maxRecDepth 100000 in
theorem zm_126 : dzMw 126 1 := ⟨dzGW_in (i := 798) (by rfl) (by rfl), zw_9, by decide +kernel, by decide +kernel, ⟨zw_796, zw_797⟩⟩
theorem zw_808 : Cond.instanceMethod ⟨"PrimeCertificatesModel", "common", "(III)I"⟩ ∈ dzGW := dzGW_in (i := 808) (by decide +kernel) (by rfl)
theorem zw_809 : Cond.selects "PrimeCertificatesModel" ⟨"PrimeCertificatesModel", "common", "(III)I"⟩ ⟨"PrimeCertificatesModel", "common", "(III)I"⟩ ∈ dzGW := dzGW_in (i := 809) (by decide +kernel) (by rfl)
set_option maxRecDepth 100000 in
theorem zm_127 : dzMw 127 1 := ⟨dzGW_in (i := 810) (by rfl) (by rfl), zw_9, by decide +kernel, by decide +kernel, ⟨zw_808, zw_809⟩⟩
theorem zw_816 : Cond.instanceMethod ⟨"PrimeCertificatesModel", "compare", "(II)I"⟩ ∈ dzGW := dzGW_in (i := 816) (by decide +kernel) (by rfl)
theorem zw_817 : Cond.selects "PrimeCertificatesModel" ⟨"PrimeCertificatesModel", "compare", "(II)I"⟩ ⟨"PrimeCertificatesModel", "compare", "(II)I"⟩ ∈ dzGW := dzGW_in (i := 817) (by decide +kernel) (by rfl)
set_option maxRecDepth 100000 in
theorem zm_128 : dzMw 128 1 := ⟨dzGW_in (i := 818) (by rfl) (by rfl), zw_9, by decide +kernel, by decide +kernel, ⟨zw_816, zw_817⟩⟩
theorem zw_820 : Cond.instanceMethod ⟨"PrimeCertificatesModel", "say", "(I)I"⟩ ∈ dzGW := dzGW_in (i := 820) (by decide +kernel) (by rfl)
theorem zw_821 : Cond.selects "PrimeCertificatesModel" ⟨"PrimeCertificatesModel", "say", "(I)I"⟩ ⟨"PrimeCertificatesModel", "say", "(I)I"⟩ ∈ dzGW := dzGW_in (i := 821) (by decide +kernel) (by rfl)
set_option maxRecDepth 100000 in
theorem zm_129 : dzMw 129 1 := ⟨dzGW_in (i := 822) (by rfl) (by rfl), zw_9, by decide +kernel, by decide +kernel, ⟨zw_820, zw_821⟩⟩
theorem zw_824 : Cond.instanceMethod ⟨"PrimeCertificatesModel", "cut", "(I)Z"⟩ ∈ dzGW := dzGW_in (i := 824) (by decide +kernel) (by rfl)
theorem zw_825 : Cond.selects "PrimeCertificatesModel" ⟨"PrimeCertificatesModel", "cut", "(I)Z"⟩ ⟨"PrimeCertificatesModel", "cut", "(I)Z"⟩ ∈ dzGW := dzGW_in (i := 825) (by decide +kernel) (by rfl)
set_option maxRecDepth 100000 in
theorem zm_130 : dzMw 130 1 := ⟨dzGW_in (i := 826) (by rfl) (by rfl), zw_9, by decide +kernel, by decide +kernel, ⟨zw_824, zw_825⟩⟩
theorem zw_828 : Cond.instanceMethod ⟨"PrimeCertificatesModel", "length", "()I"⟩ ∈ dzGW := dzGW_in (i := 828) (by decide +kernel) (by rfl)
theorem zw_829 : Cond.selects "PrimeCertificatesModel" ⟨"PrimeCertificatesModel", "length", "()I"⟩ ⟨"PrimeCertificatesModel", "length", "()I"⟩ ∈ dzGW := dzGW_in (i := 829) (by decide +kernel) (by rfl)
set_option maxRecDepth 100000 in
theorem zm_131 : dzMw 131 1 := ⟨dzGW_in (i := 830) (by rfl) (by rfl), zw_9, by decide +kernel, by decide +kernel, ⟨zw_828, zw_829⟩⟩
theorem zw_832 : Cond.instanceMethod ⟨"PrimeCertificatesModel", "at", "(I)I"⟩ ∈ dzGW := dzGW_in (i := 832) (by decide +kernel) (by rfl)
theorem zw_833 : Cond.selects "PrimeCertificatesModel" ⟨"PrimeCertificatesModel", "at", "(I)I"⟩ ⟨"PrimeCertificatesModel", "at", "(I)I"⟩ ∈ dzGW := dzGW_in (i := 833) (by decide +kernel) (by rfl)
set_option maxRecDepth 100000 in
theorem zm_132 : dzMw 132 1 := ⟨dzGW_in (i := 834) (by rfl) (by rfl), zw_9, by decide +kernel, by decide +kernel, ⟨zw_832, zw_833⟩⟩
theorem zw_845 : Cond.instanceMethod ⟨"PrimeCertificatesModel", "fail", "(II)V"⟩ ∈ dzGW := dzGW_in (i := 845) (by decide +kernel) (by rfl)
set_option maxRecDepth 100000 in
theorem zm_133 : dzMw 133 1 := ⟨dzGW_in (i := 846) (by rfl) (by rfl), zw_9, by decide +kernel, by decide +kernel, ⟨zw_845, dzGW_sel (q := (⟨"PrimeCertificatesModel", "fail", "(II)V"⟩, 12)) (by decide +kernel)⟩⟩
theorem zw_841 : Cond.instanceMethod ⟨"PrimeCertificatesModel", "isGood", "()Z"⟩ ∈ dzGW := dzGW_in (i := 841) (by decide +kernel) (by rfl)
set_option maxRecDepth 100000 in
theorem zm_134 : dzMw 134 1 := ⟨dzGW_in (i := 842) (by rfl) (by rfl), zw_9, by decide +kernel, by decide +kernel, ⟨zw_841, dzGW_sel (q := (⟨"PrimeCertificatesModel", "isGood", "()Z"⟩, 12)) (by decide +kernel)⟩⟩
theorem zw_853 : Cond.instanceMethod ⟨"PrimeCertificatesModel", "next", "()I"⟩ ∈ dzGW := dzGW_in (i := 853) (by decide +kernel) (by rfl)
set_option maxRecDepth 100000 in
theorem zm_135 : dzMw 135 1 := ⟨dzGW_in (i := 854) (by rfl) (by rfl), zw_9, by decide +kernel, by decide +kernel, ⟨zw_853, dzGW_sel (q := (⟨"PrimeCertificatesModel", "next", "()I"⟩, 12)) (by decide +kernel)⟩⟩
theorem zw_849 : Cond.instanceMethod ⟨"PrimeCertificatesModel", "nextIn", "(II)I"⟩ ∈ dzGW := dzGW_in (i := 849) (by decide +kernel) (by rfl)
set_option maxRecDepth 100000 in
theorem zm_136 : dzMw 136 1 := ⟨dzGW_in (i := 850) (by rfl) (by rfl), zw_9, by decide +kernel, by decide +kernel, ⟨zw_849, dzGW_sel (q := (⟨"PrimeCertificatesModel", "nextIn", "(II)I"⟩, 12)) (by decide +kernel)⟩⟩
theorem zw_860 : Cond.static ⟨"PrimeCertificatesModel", "isSmallPrime", "(I)Z"⟩ ∈ dzGW := dzGW_in (i := 860) (by decide +kernel) (by rfl)
set_option maxRecDepth 100000 in
theorem zm_137 : dzMw 137 0 := ⟨dzGW_in (i := 861) (by rfl) (by rfl), zw_9, by decide +kernel, by decide +kernel, zw_860⟩
theorem zw_857 : Cond.instanceMethod ⟨"PrimeCertificatesModel", "lineOne", "()V"⟩ ∈ dzGW := dzGW_in (i := 857) (by decide +kernel) (by rfl)
set_option maxRecDepth 100000 in
theorem zm_138 : dzMw 138 1 := ⟨dzGW_in (i := 858) (by rfl) (by rfl), zw_9, by decide +kernel, by decide +kernel, ⟨zw_857, dzGW_sel (q := (⟨"PrimeCertificatesModel", "lineOne", "()V"⟩, 12)) (by decide +kernel)⟩⟩
theorem zw_868 : Cond.instanceMethod ⟨"PrimeCertificatesModel", "number", "()V"⟩ ∈ dzGW := dzGW_in (i := 868) (by decide +kernel) (by rfl)
set_option maxRecDepth 100000 in
theorem zm_139 : dzMw 139 1 := ⟨dzGW_in (i := 869) (by rfl) (by rfl), zw_9, by decide +kernel, by decide +kernel, ⟨zw_868, dzGW_sel (q := (⟨"PrimeCertificatesModel", "number", "()V"⟩, 12)) (by decide +kernel)⟩⟩
theorem zw_873 : Cond.instanceMethod ⟨"PrimeCertificatesModel", "witness", "(I)V"⟩ ∈ dzGW := dzGW_in (i := 873) (by decide +kernel) (by rfl)
set_option maxRecDepth 100000 in
theorem zm_140 : dzMw 140 1 := ⟨dzGW_in (i := 874) (by rfl) (by rfl), zw_9, by decide +kernel, by decide +kernel, ⟨zw_873, dzGW_sel (q := (⟨"PrimeCertificatesModel", "witness", "(I)V"⟩, 12)) (by decide +kernel)⟩⟩
theorem zw_877 : Cond.instanceMethod ⟨"PrimeCertificatesModel", "factors", "(I)V"⟩ ∈ dzGW := dzGW_in (i := 877) (by decide +kernel) (by rfl)
set_option maxRecDepth 100000 in
theorem zm_141 : dzMw 141 1 := ⟨dzGW_in (i := 878) (by rfl) (by rfl), zw_9, by decide +kernel, by decide +kernel, ⟨zw_877, dzGW_sel (q := (⟨"PrimeCertificatesModel", "factors", "(I)V"⟩, 12)) (by decide +kernel)⟩⟩
theorem zw_881 : Cond.instanceMethod ⟨"PrimeCertificatesModel", "product", "(II)Z"⟩ ∈ dzGW := dzGW_in (i := 881) (by decide +kernel) (by rfl)
set_option maxRecDepth 100000 in
theorem zm_142 : dzMw 142 1 := ⟨dzGW_in (i := 882) (by rfl) (by rfl), zw_9, by decide +kernel, by decide +kernel, ⟨zw_881, dzGW_sel (q := (⟨"PrimeCertificatesModel", "product", "(II)Z"⟩, 12)) (by decide +kernel)⟩⟩
theorem zw_885 : Cond.instanceMethod ⟨"PrimeCertificatesModel", "isWhole", "()Z"⟩ ∈ dzGW := dzGW_in (i := 885) (by decide +kernel) (by rfl)
set_option maxRecDepth 100000 in
theorem zm_143 : dzMw 143 1 := ⟨dzGW_in (i := 886) (by rfl) (by rfl), zw_9, by decide +kernel, by decide +kernel, ⟨zw_885, dzGW_sel (q := (⟨"PrimeCertificatesModel", "isWhole", "()Z"⟩, 12)) (by decide +kernel)⟩⟩
theorem zw_893 : Cond.instanceMethod ⟨"PrimeCertificatesModel", "isRight", "(IZ)Z"⟩ ∈ dzGW := dzGW_in (i := 893) (by decide +kernel) (by rfl)
set_option maxRecDepth 100000 in
theorem zm_144 : dzMw 144 1 := ⟨dzGW_in (i := 894) (by rfl) (by rfl), zw_9, by decide +kernel, by decide +kernel, ⟨zw_893, dzGW_sel (q := (⟨"PrimeCertificatesModel", "isRight", "(IZ)Z"⟩, 12)) (by decide +kernel)⟩⟩
theorem zw_864 : Cond.instanceMethod ⟨"PrimeCertificatesModel", "lineTwo", "()V"⟩ ∈ dzGW := dzGW_in (i := 864) (by decide +kernel) (by rfl)
set_option maxRecDepth 100000 in
theorem zm_145 : dzMw 145 1 := ⟨dzGW_in (i := 865) (by rfl) (by rfl), zw_9, by decide +kernel, by decide +kernel, ⟨zw_864, dzGW_sel (q := (⟨"PrimeCertificatesModel", "lineTwo", "()V"⟩, 12)) (by decide +kernel)⟩⟩
theorem zw_897 : Cond.instanceMethod ⟨"PrimeCertificatesModel", "lineThree", "()V"⟩ ∈ dzGW := dzGW_in (i := 897) (by decide +kernel) (by rfl)
set_option maxRecDepth 100000 in
theorem zm_146 : dzMw 146 1 := ⟨dzGW_in (i := 898) (by rfl) (by rfl), zw_9, by decide +kernel, by decide +kernel, ⟨zw_897, dzGW_sel (q := (⟨"PrimeCertificatesModel", "lineThree", "()V"⟩, 12)) (by decide +kernel)⟩⟩
theorem zw_836 : Cond.instanceMethod ⟨"PrimeCertificatesModel", "check", "()I"⟩ ∈ dzGW := dzGW_in (i := 836) (by decide +kernel) (by rfl)
theorem zw_837 : Cond.selects "PrimeCertificatesModel" ⟨"PrimeCertificatesModel", "check", "()I"⟩ ⟨"PrimeCertificatesModel", "check", "()I"⟩ ∈ dzGW := dzGW_in (i := 837) (by decide +kernel) (by rfl)
set_option maxRecDepth 100000 in
theorem zm_147 : dzMw 147 1 := ⟨dzGW_in (i := 838) (by rfl) (by rfl), zw_9, by decide +kernel, by decide +kernel, ⟨zw_836, zw_837⟩⟩
theorem zw_900 : Cond.instanceMethod ⟨"PrimeCertificatesModel", "place", "()I"⟩ ∈ dzGW := dzGW_in (i := 900) (by decide +kernel) (by rfl)
theorem zw_901 : Cond.selects "PrimeCertificatesModel" ⟨"PrimeCertificatesModel", "place", "()I"⟩ ⟨"PrimeCertificatesModel", "place", "()I"⟩ ∈ dzGW := dzGW_in (i := 901) (by decide +kernel) (by rfl)
set_option maxRecDepth 100000 in
theorem zm_148 : dzMw 148 1 := ⟨dzGW_in (i := 902) (by rfl) (by rfl), zw_9, by decide +kernel, by decide +kernel, ⟨zw_900, zw_901⟩⟩
theorem zw_904 : Cond.instanceMethod ⟨"PrimeCertificatesModel", "tell", "(II)Z"⟩ ∈ dzGW := dzGW_in (i := 904) (by decide +kernel) (by rfl)
theorem zw_905 : Cond.selects "PrimeCertificatesModel" ⟨"PrimeCertificatesModel", "tell", "(II)Z"⟩ ⟨"PrimeCertificatesModel", "tell", "(II)Z"⟩ ∈ dzGW := dzGW_in (i := 905) (by decide +kernel) (by rfl)
set_option maxRecDepth 100000 in
theorem zm_149 : dzMw 149 1 := ⟨dzGW_in (i := 906) (by rfl) (by rfl), zw_9, by decide +kernel, by decide +kernel, ⟨zw_904, zw_905⟩⟩
theorem zw_914 : Cond.instanceMethod ⟨"PrimeCertificatesModel", "lineOf", "(I)I"⟩ ∈ dzGW := dzGW_in (i := 914) (by decide +kernel) (by rfl)
set_option maxRecDepth 100000 in
theorem zm_150 : dzMw 150 1 := ⟨dzGW_in (i := 915) (by rfl) (by rfl), zw_9, by decide +kernel, by decide +kernel, ⟨zw_914, dzGW_sel (q := (⟨"PrimeCertificatesModel", "lineOf", "(I)I"⟩, 12)) (by decide +kernel)⟩⟩
theorem zw_922 : Cond.instanceMethod ⟨"PrimeCertificatesModel", "sayOne", "(I)Z"⟩ ∈ dzGW := dzGW_in (i := 922) (by decide +kernel) (by rfl)
set_option maxRecDepth 100000 in
theorem zm_151 : dzMw 151 1 := ⟨dzGW_in (i := 923) (by rfl) (by rfl), zw_9, by decide +kernel, by decide +kernel, ⟨zw_922, dzGW_sel (q := (⟨"PrimeCertificatesModel", "sayOne", "(I)Z"⟩, 12)) (by decide +kernel)⟩⟩
theorem zw_931 : Cond.instanceMethod ⟨"PrimeCertificatesModel", "often", "(I)I"⟩ ∈ dzGW := dzGW_in (i := 931) (by decide +kernel) (by rfl)
set_option maxRecDepth 100000 in
theorem zm_152 : dzMw 152 1 := ⟨dzGW_in (i := 932) (by rfl) (by rfl), zw_9, by decide +kernel, by decide +kernel, ⟨zw_931, dzGW_sel (q := (⟨"PrimeCertificatesModel", "often", "(I)I"⟩, 12)) (by decide +kernel)⟩⟩
theorem zw_936 : Cond.instanceMethod ⟨"PrimeCertificatesModel", "sort", "(I)V"⟩ ∈ dzGW := dzGW_in (i := 936) (by decide +kernel) (by rfl)
set_option maxRecDepth 100000 in
theorem zm_153 : dzMw 153 1 := ⟨dzGW_in (i := 937) (by rfl) (by rfl), zw_9, by decide +kernel, by decide +kernel, ⟨zw_936, dzGW_sel (q := (⟨"PrimeCertificatesModel", "sort", "(I)V"⟩, 12)) (by decide +kernel)⟩⟩
theorem zw_927 : Cond.instanceMethod ⟨"PrimeCertificatesModel", "find", "()Z"⟩ ∈ dzGW := dzGW_in (i := 927) (by decide +kernel) (by rfl)
set_option maxRecDepth 100000 in
theorem zm_154 : dzMw 154 1 := ⟨dzGW_in (i := 928) (by rfl) (by rfl), zw_9, by decide +kernel, by decide +kernel, ⟨zw_927, dzGW_sel (q := (⟨"PrimeCertificatesModel", "find", "()Z"⟩, 12)) (by decide +kernel)⟩⟩
theorem zw_940 : Cond.instanceMethod ⟨"PrimeCertificatesModel", "wholeWitness", "()I"⟩ ∈ dzGW := dzGW_in (i := 940) (by decide +kernel) (by rfl)
set_option maxRecDepth 100000 in
theorem zm_155 : dzMw 155 1 := ⟨dzGW_in (i := 941) (by rfl) (by rfl), zw_9, by decide +kernel, by decide +kernel, ⟨zw_940, dzGW_sel (q := (⟨"PrimeCertificatesModel", "wholeWitness", "()I"⟩, 12)) (by decide +kernel)⟩⟩
theorem zw_948 : Cond.instanceMethod ⟨"PrimeCertificatesModel", "partWitnesses", "()Z"⟩ ∈ dzGW := dzGW_in (i := 948) (by decide +kernel) (by rfl)
set_option maxRecDepth 100000 in
theorem zm_156 : dzMw 156 1 := ⟨dzGW_in (i := 949) (by rfl) (by rfl), zw_9, by decide +kernel, by decide +kernel, ⟨zw_948, dzGW_sel (q := (⟨"PrimeCertificatesModel", "partWitnesses", "()Z"⟩, 12)) (by decide +kernel)⟩⟩
theorem zw_944 : Cond.instanceMethod ⟨"PrimeCertificatesModel", "sayLine", "(II)Z"⟩ ∈ dzGW := dzGW_in (i := 944) (by decide +kernel) (by rfl)
set_option maxRecDepth 100000 in
theorem zm_157 : dzMw 157 1 := ⟨dzGW_in (i := 945) (by rfl) (by rfl), zw_9, by decide +kernel, by decide +kernel, ⟨zw_944, dzGW_sel (q := (⟨"PrimeCertificatesModel", "sayLine", "(II)Z"⟩, 12)) (by decide +kernel)⟩⟩
theorem zw_918 : Cond.instanceMethod ⟨"PrimeCertificatesModel", "make", "()Z"⟩ ∈ dzGW := dzGW_in (i := 918) (by decide +kernel) (by rfl)
set_option maxRecDepth 100000 in
theorem zm_158 : dzMw 158 1 := ⟨dzGW_in (i := 919) (by rfl) (by rfl), zw_9, by decide +kernel, by decide +kernel, ⟨zw_918, dzGW_sel (q := (⟨"PrimeCertificatesModel", "make", "()Z"⟩, 12)) (by decide +kernel)⟩⟩
theorem zw_908 : Cond.instanceMethod ⟨"PrimeCertificatesModel", "prove", "(I)I"⟩ ∈ dzGW := dzGW_in (i := 908) (by decide +kernel) (by rfl)
theorem zw_909 : Cond.selects "PrimeCertificatesModel" ⟨"PrimeCertificatesModel", "prove", "(I)I"⟩ ⟨"PrimeCertificatesModel", "prove", "(I)I"⟩ ∈ dzGW := dzGW_in (i := 909) (by decide +kernel) (by rfl)
set_option maxRecDepth 100000 in
theorem zm_159 : dzMw 159 1 := ⟨dzGW_in (i := 910) (by rfl) (by rfl), zw_9, by decide +kernel, by decide +kernel, ⟨zw_908, zw_909⟩⟩
def zt_kd : List Nat := [2, 2, 2, 2, 2, 2, 2, 2, 0, 0, 1, 1, 0, 0, 0, 1, 1, 0, 1, 0, 0, 1, 1, 1, 0, 0, 1, 1, 1, 0, 1, 1, 1, 1, 1, 1, 1, 0, 1, 1, 1, 1, 0, 1, 1, 1, 1, 1, 1, 1, 1, 1, 1, 1, 0, 1, 1, 0, 1, 0, 1, 1, 1, 1, 1, 1, 1, 1, 1, 1, 1, 0, 1, 1, 1, 1, 1, 1, 1, 1, 1, 1, 1, 1, 1, 1, 1, 1, 1, 1, 1, 1, 1, 1, 1, 1, 1, 1, 1, 1, 2, 1, 1, 1, 1, 1, 1, 1, 1, 1, 1, 1, 1, 1, 1, 1, 1, 0, 1, 1, 0, 1, 1, 1, 1, 1, 1, 1, 1, 1, 1, 1, 1, 1, 1, 1, 1, 0, 1, 1, 1, 1, 1, 1, 1, 1, 1, 1, 1, 1, 1, 1, 1, 1, 1, 1, 1, 1, 1, 1, 9]
def dzKn0 (mid : Nat) : Nat := zt_kd.getD mid 9
theorem zu_all : ∀ (ci : Nat) (C : String) (T : u_T) (N : Nat), zCl[ci]? = some (C, T, N) → Cond.instantiable C N ∈ dzGW ∧ Cond.initialized C ∈ dzGW ∧ (∀ w ∈ u_ws C T N, w ∈ dzGW) ∧ (∀ a, a < N → ∀ b, b < N → a ≠ b → (T a).2.1 ≠ (T b).2.1) ∧ (∀ k, k < N → parseFieldDescriptor (T k).2.2.1 = some (zTy ci k)) ∧ dzCn ci = C ∧ (∀ k, k < N → (T k).1 = C) ∧ (∀ j, j < N → defaultValue (zTy ci j) = vp_V (dzDef ci) j)
  | 0, _, _, _, h => by cases h; exact ⟨zu_0.1, zu_0.2.1, zu_0.2.2, zn_0, zp_0, rfl, by decide +kernel, by decide +kernel⟩
  | 1, _, _, _, h => by cases h; exact ⟨zu_1.1, zu_1.2.1, zu_1.2.2, zn_1, zp_1, rfl, by decide +kernel, by decide +kernel⟩
  | 2, _, _, _, h => by cases h; exact ⟨zu_2.1, zu_2.2.1, zu_2.2.2, zn_2, zp_2, rfl, by decide +kernel, by decide +kernel⟩
  | 3, _, _, _, h => by cases h; exact ⟨zu_3.1, zu_3.2.1, zu_3.2.2, zn_3, zp_3, rfl, by decide +kernel, by decide +kernel⟩
  | 4, _, _, _, h => by cases h; exact ⟨zu_4.1, zu_4.2.1, zu_4.2.2, zn_4, zp_4, rfl, by decide +kernel, by decide +kernel⟩
  | 5, _, _, _, h => by cases h; exact ⟨zu_5.1, zu_5.2.1, zu_5.2.2, zn_5, zp_5, rfl, by decide +kernel, by decide +kernel⟩
  | 6, _, _, _, h => by cases h; exact ⟨zu_6.1, zu_6.2.1, zu_6.2.2, zn_6, zp_6, rfl, by decide +kernel, by decide +kernel⟩
  | 7, _, _, _, h => by cases h; exact ⟨zu_7.1, zu_7.2.1, zu_7.2.2, zn_7, zp_7, rfl, by decide +kernel, by decide +kernel⟩
  | 8, _, _, _, h => by cases h; exact ⟨zu_8.1, zu_8.2.1, zu_8.2.2, zn_8, zp_8, rfl, by decide +kernel, by decide +kernel⟩
  | n + 9, _, _, _, h => by cases h
set_option maxRecDepth 100000 in
theorem zm_all : ∀ mid, mid < 161 → dzKn0 mid ≠ 9 → dzMw mid (dzKn0 mid)
  | 0, _, _ => zm_0
  | 1, _, _ => zm_1
  | 2, _, _ => zm_2
  | 3, _, _ => zm_3
  | 4, _, _ => zm_4
  | 5, _, _ => zm_5
  | 6, _, _ => zm_6
  | 7, _, _ => zm_7
  | 8, _, _ => zm_8
  | 9, _, _ => zm_9
  | 10, _, _ => zm_10
  | 11, _, _ => zm_11
  | 12, _, _ => zm_12
  | 13, _, _ => zm_13
  | 14, _, _ => zm_14
  | 15, _, _ => zm_15
  | 16, _, _ => zm_16
  | 17, _, _ => zm_17
  | 18, _, _ => zm_18
  | 19, _, _ => zm_19
  | 20, _, _ => zm_20
  | 21, _, _ => zm_21
  | 22, _, _ => zm_22
  | 23, _, _ => zm_23
  | 24, _, _ => zm_24
  | 25, _, _ => zm_25
  | 26, _, _ => zm_26
  | 27, _, _ => zm_27
  | 28, _, _ => zm_28
  | 29, _, _ => zm_29
  | 30, _, _ => zm_30
  | 31, _, _ => zm_31
  | 32, _, _ => zm_32
  | 33, _, _ => zm_33
  | 34, _, _ => zm_34
  | 35, _, _ => zm_35
  | 36, _, _ => zm_36
  | 37, _, _ => zm_37
  | 38, _, _ => zm_38
  | 39, _, _ => zm_39
  | 40, _, _ => zm_40
  | 41, _, _ => zm_41
  | 42, _, _ => zm_42
  | 43, _, _ => zm_43
  | 44, _, _ => zm_44
  | 45, _, _ => zm_45
  | 46, _, _ => zm_46
  | 47, _, _ => zm_47
  | 48, _, _ => zm_48
  | 49, _, _ => zm_49
  | 50, _, _ => zm_50
  | 51, _, _ => zm_51
  | 52, _, _ => zm_52
  | 53, _, _ => zm_53
  | 54, _, _ => zm_54
  | 55, _, _ => zm_55
  | 56, _, _ => zm_56
  | 57, _, _ => zm_57
  | 58, _, _ => zm_58
  | 59, _, _ => zm_59
  | 60, _, _ => zm_60
  | 61, _, _ => zm_61
  | 62, _, _ => zm_62
  | 63, _, _ => zm_63
  | 64, _, _ => zm_64
  | 65, _, _ => zm_65
  | 66, _, _ => zm_66
  | 67, _, _ => zm_67
  | 68, _, _ => zm_68
  | 69, _, _ => zm_69
  | 70, _, _ => zm_70
  | 71, _, _ => zm_71
  | 72, _, _ => zm_72
  | 73, _, _ => zm_73
  | 74, _, _ => zm_74
  | 75, _, _ => zm_75
  | 76, _, _ => zm_76
  | 77, _, _ => zm_77
  | 78, _, _ => zm_78
  | 79, _, _ => zm_79
  | 80, _, _ => zm_80
  | 81, _, _ => zm_81
  | 82, _, _ => zm_82
  | 83, _, _ => zm_83
  | 84, _, _ => zm_84
  | 85, _, _ => zm_85
  | 86, _, _ => zm_86
  | 87, _, _ => zm_87
  | 88, _, _ => zm_88
  | 89, _, _ => zm_89
  | 90, _, _ => zm_90
  | 91, _, _ => zm_91
  | 92, _, _ => zm_92
  | 93, _, _ => zm_93
  | 94, _, _ => zm_94
  | 95, _, _ => zm_95
  | 96, _, _ => zm_96
  | 97, _, _ => zm_97
  | 98, _, _ => zm_98
  | 99, _, _ => zm_99
  | 100, _, _ => zm_100
  | 101, _, _ => zm_101
  | 102, _, _ => zm_102
  | 103, _, _ => zm_103
  | 104, _, _ => zm_104
  | 105, _, _ => zm_105
  | 106, _, _ => zm_106
  | 107, _, _ => zm_107
  | 108, _, _ => zm_108
  | 109, _, _ => zm_109
  | 110, _, _ => zm_110
  | 111, _, _ => zm_111
  | 112, _, _ => zm_112
  | 113, _, _ => zm_113
  | 114, _, _ => zm_114
  | 115, _, _ => zm_115
  | 116, _, _ => zm_116
  | 117, _, _ => zm_117
  | 118, _, _ => zm_118
  | 119, _, _ => zm_119
  | 120, _, _ => zm_120
  | 121, _, _ => zm_121
  | 122, _, _ => zm_122
  | 123, _, _ => zm_123
  | 124, _, _ => zm_124
  | 125, _, _ => zm_125
  | 126, _, _ => zm_126
  | 127, _, _ => zm_127
  | 128, _, _ => zm_128
  | 129, _, _ => zm_129
  | 130, _, _ => zm_130
  | 131, _, _ => zm_131
  | 132, _, _ => zm_132
  | 133, _, _ => zm_133
  | 134, _, _ => zm_134
  | 135, _, _ => zm_135
  | 136, _, _ => zm_136
  | 137, _, _ => zm_137
  | 138, _, _ => zm_138
  | 139, _, _ => zm_139
  | 140, _, _ => zm_140
  | 141, _, _ => zm_141
  | 142, _, _ => zm_142
  | 143, _, _ => zm_143
  | 144, _, _ => zm_144
  | 145, _, _ => zm_145
  | 146, _, _ => zm_146
  | 147, _, _ => zm_147
  | 148, _, _ => zm_148
  | 149, _, _ => zm_149
  | 150, _, _ => zm_150
  | 151, _, _ => zm_151
  | 152, _, _ => zm_152
  | 153, _, _ => zm_153
  | 154, _, _ => zm_154
  | 155, _, _ => zm_155
  | 156, _, _ => zm_156
  | 157, _, _ => zm_157
  | 158, _, _ => zm_158
  | 159, _, _ => zm_159
  | 160, _, h => absurd rfl h
  | n + 161, h, _ => absurd h (by omega)
theorem zt_oc_ok : ∀ mid, mid < 161 → dzCn (dzOc mid) = (dzY mid).cls := by decide +kernel
theorem zt_rcv_ok : ∀ mid, mid < 161 → dzKn0 mid ≠ 0 → dzKn0 mid ≠ 9 → dzRcv mid = some (dzOc mid) := by decide +kernel
theorem zl_f_lt : ∀ q ∈ zl_f, (match zCl[q.2.2.1]? with | some (_, _, N) => decide (q.2.2.2 < N) | none => false) = true := by decide +kernel
