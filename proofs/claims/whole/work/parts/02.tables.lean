/-! Tables of the calculus, printed by wip/whole/gen_tables.py out of the claim. -/
abbrev En : Type := Nat × Nat × Jvm.ClassFile.Instr × List Nat
def hostN : String := "RecipeRewriter"
def cnT : List String := ["RecipeRewriter", "RecipeRewriter$Rule", "RecipeRewriter$Program", "RecipeRewriter$Text", "RecipeRewriter$Outline", "RecipeRewriter$Patch", "RecipeRewriterModel", "RecipeRewriterLaw"]
def cn (i : Nat) : String := (cnT[i]?).getD ""
def fT_0 : u_T := fun k => match k with
  | 0 => ("RecipeRewriter", "buffer", "[I", true)
  | 1 => ("RecipeRewriter", "bufferedCount", "I", false)
  | 2 => ("RecipeRewriter", "loaded", "[I", true)
  | 3 => ("RecipeRewriter", "loadedCount", "I", false)
  | 4 => ("RecipeRewriter", "ruleRow", "[LRecipeRewriter$Rule;", true)
  | 5 => ("RecipeRewriter", "ruleCount", "I", false)
  | 6 => ("RecipeRewriter", "program", "LRecipeRewriter$Program;", true)
  | 7 => ("RecipeRewriter", "latestCycles", "I", false)
  | _ => ("RecipeRewriter", "patch", "LRecipeRewriter$Patch;", true)
def fT_1 : u_T := fun k => match k with
  | 0 => ("RecipeRewriter$Rule", "text", "LRecipeRewriter$Text;", true)
  | 1 => ("RecipeRewriter$Rule", "arrow", "I", false)
  | 2 => ("RecipeRewriter$Rule", "holeFirsts", "[I", true)
  | _ => ("RecipeRewriter$Rule", "holeBehinds", "[I", true)
def fT_2 : u_T := fun k => match k with
  | 0 => ("RecipeRewriter$Program", "now", "LRecipeRewriter$Text;", false)
  | 1 => ("RecipeRewriter$Program", "next", "LRecipeRewriter$Text;", false)
  | 2 => ("RecipeRewriter$Program", "saved", "LRecipeRewriter$Text;", true)
  | 3 => ("RecipeRewriter$Program", "piece", "LRecipeRewriter$Text;", true)
  | 4 => ("RecipeRewriter$Program", "outline", "LRecipeRewriter$Outline;", true)
  | 5 => ("RecipeRewriter$Program", "movedTo", "[I", true)
  | _ => ("RecipeRewriter$Program", "rewritingCount", "I", false)
def fT_3 : u_T := fun k => match k with
  | 0 => ("RecipeRewriter$Text", "chars", "[I", true)
  | 1 => ("RecipeRewriter$Text", "marks", "[I", true)
  | 2 => ("RecipeRewriter$Text", "kinds", "[I", true)
  | 3 => ("RecipeRewriter$Text", "starts", "[I", true)
  | 4 => ("RecipeRewriter$Text", "ends", "[I", true)
  | 5 => ("RecipeRewriter$Text", "size", "I", false)
  | _ => ("RecipeRewriter$Text", "tokens", "I", false)
def fT_4 : u_T := fun k => match k with
  | 0 => ("RecipeRewriter$Outline", "statementKinds", "[I", true)
  | 1 => ("RecipeRewriter$Outline", "statementCount", "I", false)
  | 2 => ("RecipeRewriter$Outline", "firsts", "[I", true)
  | 3 => ("RecipeRewriter$Outline", "lasts", "[I", true)
  | 4 => ("RecipeRewriter$Outline", "callsAround", "[I", true)
  | 5 => ("RecipeRewriter$Outline", "count", "I", false)
  | _ => ("RecipeRewriter$Outline", "openCalls", "[I", true)
def fT_5 : u_T := fun k => match k with
  | 0 => ("RecipeRewriter$Patch", "costs", "[I", true)
  | 1 => ("RecipeRewriter$Patch", "steps", "[I", true)
  | 2 => ("RecipeRewriter$Patch", "stepCount", "I", false)
  | 3 => ("RecipeRewriter$Patch", "changeCount", "I", false)
  | _ => ("RecipeRewriter$Patch", "known", "Z", false)
def fT_6 : u_T := fun k => match k with
  | 0 => ("RecipeRewriterModel", "c", "[I", true)
  | 1 => ("RecipeRewriterModel", "mark", "[I", true)
  | 2 => ("RecipeRewriterModel", "length", "I", false)
  | 3 => ("RecipeRewriterModel", "loaded", "I", false)
  | 4 => ("RecipeRewriterModel", "buffered", "I", false)
  | 5 => ("RecipeRewriterModel", "rules", "I", false)
  | 6 => ("RecipeRewriterModel", "ruleLength", "[I", true)
  | 7 => ("RecipeRewriterModel", "rewritten", "I", false)
  | 8 => ("RecipeRewriterModel", "cycled", "I", false)
  | 9 => ("RecipeRewriterModel", "sort", "[I", true)
  | 10 => ("RecipeRewriterModel", "first", "[I", true)
  | 11 => ("RecipeRewriterModel", "behind", "[I", true)
  | 12 => ("RecipeRewriterModel", "last", "[I", true)
  | 13 => ("RecipeRewriterModel", "depth", "[I", true)
  | 14 => ("RecipeRewriterModel", "good", "[Z", true)
  | 15 => ("RecipeRewriterModel", "statement", "[I", true)
  | 16 => ("RecipeRewriterModel", "tokens", "I", false)
  | 17 => ("RecipeRewriterModel", "statements", "I", false)
  | 18 => ("RecipeRewriterModel", "ruleTokens", "I", false)
  | 19 => ("RecipeRewriterModel", "bound", "[I", true)
  | 20 => ("RecipeRewriterModel", "fresh", "[I", true)
  | 21 => ("RecipeRewriterModel", "freshMark", "[I", true)
  | 22 => ("RecipeRewriterModel", "freshLength", "I", false)
  | 23 => ("RecipeRewriterModel", "oldText", "[I", true)
  | 24 => ("RecipeRewriterModel", "oldMark", "[I", true)
  | _ => ("RecipeRewriterModel", "fewest", "[I", true)
def cls_ : List vw_C := [("RecipeRewriter", fT_0, 9), ("RecipeRewriter$Rule", fT_1, 4), ("RecipeRewriter$Program", fT_2, 7), ("RecipeRewriter$Text", fT_3, 7), ("RecipeRewriter$Outline", fT_4, 7), ("RecipeRewriter$Patch", fT_5, 5), ("RecipeRewriterModel", fT_6, 26)]
def lyT : List (List Nat) := [[225, 227, 229, 231, 233, 235, 237, 239, 241], [112, 114, 116, 118], [176, 178, 180, 182, 184, 186, 188], [92, 94, 96, 98, 100, 102, 104], [151, 153, 155, 157, 159, 161, 163], [205, 207, 209, 211, 213], [578, 580, 582, 584, 586, 588, 590, 592, 594, 596, 598, 600, 602, 604, 606, 608, 610, 612, 614, 616, 618, 620, 622, 624, 626, 628]]
def clW : List (Nat × Nat) := [(51, 41), (60, 42), (122, 44), (66, 43), (130, 45), (192, 46), (547, 47)]
def ciRule : Nat := 1
def tyF (ci k : Nat) : FieldType := match cls_[ci]? with
  | some q => (parseFieldDescriptor (q.2.1 k).2.2.1).getD .int
  | none => .int
def kdT : List (Nat × Nat) := [(9, 0), (9, 0), (0, 0), (1, 60), (1, 60), (3, 6), (0, 1), (0, 3), (1, 60), (1, 60), (1, 60), (1, 60), (1, 60), (1, 10), (1, 10), (0, 1), (0, 3), (1, 60), (1, 60), (1, 60), (1, 60), (1, 60), (1, 10), (1, 10), (0, 1), (0, 3), (1, 60), (1, 60), (1, 60), (1, 60), (1, 60), (1, 10), (1, 10), (0, 1), (0, 3), (1, 60), (1, 60), (1, 60), (1, 60), (1, 60), (1, 10), (1, 10), (0, 1), (0, 3), (1, 60), (1, 60), (1, 60), (1, 60), (1, 60), (1, 10), (1, 10), (0, 1), (0, 3), (1, 60), (1, 60), (1, 60), (1, 60), (1, 60), (1, 10), (1, 10), (0, 2), (0, 3), (1, 120), (1, 120), (1, 120), (1, 120), (1, 120), (0, 3), (1, 120), (1, 120), (1, 120), (1, 120), (1, 120), (0, 3), (1, 120), (1, 120), (1, 120), (1, 120), (1, 120), (0, 3), (1, 120), (1, 120), (1, 120), (1, 120), (1, 120), (0, 4), (1, 120), (1, 120), (1, 120), (1, 120), (1, 12), (1, 120), (0, 5), (1, 7381), (1, 180), (0, 6), (1, 640), (1, 128), (1, 6), (1, 192), (1, 192), (1, 192), (1, 192), (1, 192), (2, 128), (1, 128), (1, 10), (1, 128), (1, 128), (1, 128), (1, 128), (1, 7381)]
def kd (n : Nat) : Nat × Nat := (kdT[n]?).getD (9, 0)
theorem kd_0 : kd 0 = (9, 0) := rfl
theorem kd_1 : kd 1 = (9, 0) := rfl
def mT : List (MethodName × ByteArray × Nat × Option FieldType × Nat × Nat × Nat) := [
  (⟨"RecipeRewriter", "<init>", "()V"⟩, prog_1_method_1_code, 2, none, 0, 1, 0),
  (⟨"RecipeRewriter$Rule", "<init>", "()V"⟩, prog_5_method_1_code, 1, none, 0, 1, 1),
  (⟨"RecipeRewriter$Text", "<init>", "(I)V"⟩, prog_6_method_1_code, 2, none, 1, 1, 3),
  (⟨"RecipeRewriter$Program", "<init>", "()V"⟩, prog_4_method_1_code, 1, none, 0, 1, 2),
  (⟨"RecipeRewriter$Outline", "<init>", "(I)V"⟩, prog_2_method_1_code, 2, none, 1, 1, 4),
  (⟨"RecipeRewriter$Patch", "<init>", "()V"⟩, prog_3_method_1_code, 1, none, 0, 1, 5),
  (⟨"RecipeRewriter", "type", "(I)Z"⟩, prog_1_method_2_code, 3, some .boolean, 1, 0, 0),
  (⟨"RecipeRewriter", "clear", "()V"⟩, prog_1_method_3_code, 1, none, 0, 0, 0),
  (⟨"RecipeRewriter", "buffered", "()I"⟩, prog_1_method_4_code, 1, some .int, 0, 0, 0),
  (⟨"RecipeRewriter", "load", "()I"⟩, prog_1_method_5_code, 1, some .int, 0, 0, 0),
  (⟨"RecipeRewriter$Program", "become", "([II)V"⟩, prog_4_method_2_code, 4, none, 2, 0, 2),
  (⟨"RecipeRewriter$Text", "become", "([II)V"⟩, prog_6_method_3_code, 3, none, 2, 0, 3),
  (⟨"RecipeRewriter$Text", "empty", "()V"⟩, prog_6_method_2_code, 1, none, 0, 0, 3),
  (⟨"RecipeRewriter$Text", "markSpan", "(III)V"⟩, prog_6_method_5_code, 5, none, 3, 0, 3),
  (⟨"RecipeRewriter$Text", "findTokens", "()V"⟩, prog_6_method_6_code, 5, none, 0, 0, 3),
  (⟨"RecipeRewriter$Text", "behindComment", "(I)I"⟩, prog_6_method_7_code, 3, some .int, 1, 0, 3),
  (⟨"RecipeRewriter$Text", "tokenKind", "(I)I"⟩, prog_6_method_8_code, 3, some .int, 1, 0, 3),
  (⟨"RecipeRewriter$Text", "isLetter", "(I)Z"⟩, prog_6_method_11_code, 1, some .boolean, 1, 2, 3),
  (⟨"RecipeRewriter$Text", "isDigit", "(I)Z"⟩, prog_6_method_12_code, 1, some .boolean, 1, 2, 3),
  (⟨"RecipeRewriter$Text", "behindToken", "(II)I"⟩, prog_6_method_9_code, 4, some .int, 2, 0, 3),
  (⟨"RecipeRewriter$Text", "goesOn", "(II)Z"⟩, prog_6_method_10_code, 2, some .boolean, 2, 2, 3),
  (⟨"RecipeRewriter$Outline", "become", "(LRecipeRewriter$Text;)V"⟩, prog_2_method_2_code, 4, none, 1, 0, 4),
  (⟨"RecipeRewriter$Text", "kindAt", "(I)I"⟩, prog_6_method_13_code, 2, some .int, 1, 0, 3),
  (⟨"RecipeRewriter$Outline", "readStatement", "(LRecipeRewriter$Text;II)I"⟩, prog_2_method_4_code, 4, some .int, 3, 0, 4),
  (⟨"RecipeRewriter$Text", "behindExpression", "(II)I"⟩, prog_6_method_17_code, 4, some .int, 2, 0, 3),
  (⟨"RecipeRewriter$Text", "isCallName", "(I)Z"⟩, prog_6_method_16_code, 2, some .boolean, 1, 0, 3),
  (⟨"RecipeRewriter$Text", "behindArguments", "(II)I"⟩, prog_6_method_18_code, 7, some .int, 2, 0, 3),
  (⟨"RecipeRewriter$Outline", "hasHole", "(LRecipeRewriter$Text;II)Z"⟩, prog_2_method_5_code, 4, some .boolean, 3, 2, 4),
  (⟨"RecipeRewriter$Text", "isHole", "(I)Z"⟩, prog_6_method_14_code, 2, some .boolean, 1, 0, 3),
  (⟨"RecipeRewriter$Outline", "addExpressions", "(LRecipeRewriter$Text;II)V"⟩, prog_2_method_6_code, 7, none, 3, 0, 4),
  (⟨"RecipeRewriter$Outline", "addExpression", "(III)V"⟩, prog_2_method_7_code, 4, none, 3, 0, 4),
  (⟨"RecipeRewriter$Outline", "addStatement", "(I)V"⟩, prog_2_method_3_code, 2, none, 1, 0, 4),
  (⟨"RecipeRewriter$Patch", "forget", "()V"⟩, prog_3_method_2_code, 1, none, 0, 0, 5),
  (⟨"RecipeRewriter", "rule", "()I"⟩, prog_1_method_6_code, 1, some .int, 0, 0, 0),
  (⟨"RecipeRewriter$Rule", "become", "([II)Z"⟩, prog_5_method_2_code, 3, some .boolean, 2, 0, 1),
  (⟨"RecipeRewriter$Rule", "knowsTemplateHoles", "()Z"⟩, prog_5_method_3_code, 4, some .boolean, 0, 0, 1),
  (⟨"RecipeRewriter$Text", "digitOf", "(I)I"⟩, prog_6_method_15_code, 2, some .int, 1, 0, 3),
  (⟨"RecipeRewriter", "rules", "()I"⟩, prog_1_method_7_code, 1, some .int, 0, 0, 0),
  (⟨"RecipeRewriter", "run", "(I)I"⟩, prog_1_method_8_code, 7, some .int, 1, 0, 0),
  (⟨"RecipeRewriter$Program", "save", "()V"⟩, prog_4_method_3_code, 1, none, 0, 0, 2),
  (⟨"RecipeRewriter$Text", "becomeCopy", "(LRecipeRewriter$Text;)V"⟩, prog_6_method_4_code, 2, none, 1, 0, 3),
  (⟨"RecipeRewriter$Program", "cycle", "([LRecipeRewriter$Rule;I)Z"⟩, prog_4_method_6_code, 4, some .boolean, 2, 0, 2),
  (⟨"RecipeRewriter$Program", "pass", "(LRecipeRewriter$Rule;)Z"⟩, prog_4_method_7_code, 7, some .boolean, 1, 0, 2),
  (⟨"RecipeRewriter$Text", "appendSpace", "(LRecipeRewriter$Text;I)V"⟩, prog_6_method_24_code, 5, none, 2, 0, 3),
  (⟨"RecipeRewriter$Text", "appendCharacters", "(LRecipeRewriter$Text;II)V"⟩, prog_6_method_25_code, 5, none, 3, 0, 3),
  (⟨"RecipeRewriter$Text", "appendSpan", "(LRecipeRewriter$Text;II)V"⟩, prog_6_method_23_code, 7, none, 3, 0, 3),
  (⟨"RecipeRewriter$Text", "spanSize", "(II)I"⟩, prog_6_method_22_code, 3, some .int, 2, 0, 3),
  (⟨"RecipeRewriter$Outline", "endsWith", "(II)Z"⟩, prog_2_method_8_code, 3, some .boolean, 2, 0, 4),
  (⟨"RecipeRewriter$Rule", "matches", "(LRecipeRewriter$Text;II)Z"⟩, prog_5_method_4_code, 6, some .boolean, 3, 0, 1),
  (⟨"RecipeRewriter$Rule", "behindHole", "(ILRecipeRewriter$Text;I)I"⟩, prog_5_method_5_code, 8, some .int, 3, 0, 1),
  (⟨"RecipeRewriter$Text", "sameTokens", "(III)Z"⟩, prog_6_method_21_code, 5, some .boolean, 3, 0, 3),
  (⟨"RecipeRewriter$Text", "sameToken", "(ILRecipeRewriter$Text;I)Z"⟩, prog_6_method_20_code, 6, some .boolean, 3, 0, 3),
  (⟨"RecipeRewriter$Program", "rewrite", "(LRecipeRewriter$Rule;III)Z"⟩, prog_4_method_8_code, 5, some .boolean, 4, 0, 2),
  (⟨"RecipeRewriter$Rule", "filledSize", "(LRecipeRewriter$Text;)I"⟩, prog_5_method_6_code, 5, some .int, 1, 0, 1),
  (⟨"RecipeRewriter$Rule", "fill", "(LRecipeRewriter$Text;LRecipeRewriter$Text;I)V"⟩, prog_5_method_7_code, 6, none, 3, 0, 1),
  (⟨"RecipeRewriter$Text", "deepestNesting", "()I"⟩, prog_6_method_19_code, 4, some .int, 0, 0, 3),
  (⟨"RecipeRewriter$Text", "cutAt", "(I)V"⟩, prog_6_method_26_code, 2, none, 1, 0, 3),
  (⟨"RecipeRewriter$Program", "restore", "(I)V"⟩, prog_4_method_4_code, 2, none, 1, 0, 2),
  (⟨"RecipeRewriter", "cycles", "()I"⟩, prog_1_method_9_code, 1, some .int, 0, 0, 0),
  (⟨"RecipeRewriter", "rewritings", "()I"⟩, prog_1_method_10_code, 1, some .int, 0, 0, 0),
  (⟨"RecipeRewriter", "length", "()I"⟩, prog_1_method_11_code, 1, some .int, 0, 0, 0),
  (⟨"RecipeRewriter", "at", "(I)I"⟩, prog_1_method_12_code, 2, some .int, 1, 0, 0),
  (⟨"RecipeRewriter", "mark", "(I)I"⟩, prog_1_method_13_code, 2, some .int, 1, 0, 0),
  (⟨"RecipeRewriter", "statements", "()I"⟩, prog_1_method_14_code, 1, some .int, 0, 0, 0),
  (⟨"RecipeRewriter", "kind", "(I)I"⟩, prog_1_method_15_code, 2, some .int, 1, 0, 0),
  (⟨"RecipeRewriter", "expressions", "()I"⟩, prog_1_method_16_code, 1, some .int, 0, 0, 0),
  (⟨"RecipeRewriter", "start", "(I)I"⟩, prog_1_method_17_code, 2, some .int, 1, 0, 0),
  (⟨"RecipeRewriter", "end", "(I)I"⟩, prog_1_method_18_code, 2, some .int, 1, 0, 0),
  (⟨"RecipeRewriter", "fits", "(I)I"⟩, prog_1_method_19_code, 2, some .int, 1, 0, 0),
  (⟨"RecipeRewriter$Program", "countFitting", "(LRecipeRewriter$Rule;)I"⟩, prog_4_method_5_code, 4, some .int, 1, 0, 2),
  (⟨"RecipeRewriter", "distance", "()I"⟩, prog_1_method_20_code, 1, some .int, 0, 0, 0),
  (⟨"RecipeRewriter$Patch", "trace", "([IILRecipeRewriter$Text;)V"⟩, prog_3_method_3_code, 4, none, 3, 0, 5),
  (⟨"RecipeRewriter$Patch", "weigh", "([IILRecipeRewriter$Text;)V"⟩, prog_3_method_4_code, 8, none, 3, 0, 5),
  (⟨"RecipeRewriter$Patch", "walk", "([IILRecipeRewriter$Text;)V"⟩, prog_3_method_5_code, 8, none, 3, 0, 5),
  (⟨"RecipeRewriter$Patch", "deletes", "(II)Z"⟩, prog_3_method_6_code, 3, some .boolean, 2, 0, 5),
  (⟨"RecipeRewriter", "step", "(I)I"⟩, prog_1_method_21_code, 2, some .int, 1, 0, 0),
  (⟨"RecipeRewriterModel", "<init>", "()V"⟩, prog_8_method_1_code, 1, none, 0, 1, 6),
  (⟨"RecipeRewriterModel", "type", "(I)Z"⟩, prog_8_method_15_code, 2, some .boolean, 1, 0, 6),
  (⟨"RecipeRewriterModel", "clear", "()V"⟩, prog_8_method_16_code, 1, none, 0, 0, 6),
  (⟨"RecipeRewriterModel", "buffered", "()I"⟩, prog_8_method_17_code, 1, some .int, 0, 0, 6),
  (⟨"RecipeRewriterModel", "load", "()I"⟩, prog_8_method_18_code, 2, some .int, 0, 0, 6),
  (⟨"RecipeRewriterModel", "read", "()V"⟩, prog_8_method_10_code, 5, none, 0, 0, 6),
  (⟨"RecipeRewriterModel", "tokenise", "(III)I"⟩, prog_8_method_7_code, 8, some .int, 3, 0, 6),
  (⟨"RecipeRewriterModel", "sortAt", "(II)I"⟩, prog_8_method_5_code, 4, some .int, 2, 0, 6),
  (⟨"RecipeRewriterModel", "letter", "(I)Z"⟩, prog_8_method_2_code, 1, some .boolean, 1, 2, 6),
  (⟨"RecipeRewriterModel", "figure", "(I)Z"⟩, prog_8_method_3_code, 1, some .boolean, 1, 2, 6),
  (⟨"RecipeRewriterModel", "mere", "(I)Z"⟩, prog_8_method_4_code, 1, some .boolean, 1, 2, 6),
  (⟨"RecipeRewriterModel", "endAt", "(III)I"⟩, prog_8_method_6_code, 5, some .int, 3, 0, 6),
  (⟨"RecipeRewriterModel", "structure", "(II)V"⟩, prog_8_method_8_code, 6, none, 2, 0, 6),
  (⟨"RecipeRewriterModel", "called", "(III)V"⟩, prog_8_method_9_code, 8, none, 3, 0, 6),
  (⟨"RecipeRewriterModel", "rule", "()I"⟩, prog_8_method_21_code, 2, some .int, 0, 0, 6),
  (⟨"RecipeRewriterModel", "readRule", "(II)V"⟩, prog_8_method_19_code, 3, none, 2, 0, 6),
  (⟨"RecipeRewriterModel", "isRule", "()Z"⟩, prog_8_method_20_code, 6, some .boolean, 0, 0, 6),
  (⟨"RecipeRewriterModel", "sameToken", "(II)Z"⟩, prog_8_method_13_code, 4, some .boolean, 2, 0, 6),
  (⟨"RecipeRewriterModel", "rules", "()I"⟩, prog_8_method_22_code, 1, some .int, 0, 0, 6),
  (⟨"RecipeRewriterModel", "run", "(I)I"⟩, prog_8_method_30_code, 8, some .int, 1, 0, 6),
  (⟨"RecipeRewriterModel", "pass", "(I)Z"⟩, prog_8_method_29_code, 6, some .boolean, 1, 0, 6),
  (⟨"RecipeRewriterModel", "nextBehind", "(I)I"⟩, prog_8_method_28_code, 4, some .int, 1, 0, 6),
  (⟨"RecipeRewriterModel", "begins", "(I)Z"⟩, prog_8_method_11_code, 2, some .boolean, 1, 0, 6),
  (⟨"RecipeRewriterModel", "spanEnd", "(I)I"⟩, prog_8_method_12_code, 2, some .int, 1, 0, 6),
  (⟨"RecipeRewriterModel", "fitsAt", "(I)Z"⟩, prog_8_method_23_code, 5, some .boolean, 1, 0, 6),
  (⟨"RecipeRewriterModel", "sameTokens", "(II)Z"⟩, prog_8_method_14_code, 4, some .boolean, 2, 0, 6),
  (⟨"RecipeRewriterModel", "rewrite", "(I)Z"⟩, prog_8_method_27_code, 5, some .boolean, 1, 0, 6),
  (⟨"RecipeRewriterModel", "layOut", "(I)V"⟩, prog_8_method_25_code, 6, none, 1, 0, 6),
  (⟨"RecipeRewriterModel", "put", "(II)V"⟩, prog_8_method_24_code, 3, none, 2, 0, 6),
  (⟨"RecipeRewriterModel", "putIn", "(II)V"⟩, prog_8_method_26_code, 6, none, 2, 0, 6),
  (⟨"RecipeRewriterModel", "back", "(II)V"⟩, prog_8_method_31_code, 4, none, 2, 0, 6),
  (⟨"RecipeRewriterModel", "cycles", "()I"⟩, prog_8_method_32_code, 1, some .int, 0, 0, 6),
  (⟨"RecipeRewriterModel", "rewritings", "()I"⟩, prog_8_method_33_code, 1, some .int, 0, 0, 6),
  (⟨"RecipeRewriterModel", "length", "()I"⟩, prog_8_method_34_code, 1, some .int, 0, 0, 6),
  (⟨"RecipeRewriterModel", "at", "(I)I"⟩, prog_8_method_35_code, 2, some .int, 1, 0, 6),
  (⟨"RecipeRewriterModel", "mark", "(I)I"⟩, prog_8_method_36_code, 4, some .int, 1, 0, 6),
  (⟨"RecipeRewriterModel", "statements", "()I"⟩, prog_8_method_37_code, 1, some .int, 0, 0, 6),
  (⟨"RecipeRewriterModel", "kind", "(I)I"⟩, prog_8_method_38_code, 3, some .int, 1, 0, 6),
  (⟨"RecipeRewriterModel", "expressions", "()I"⟩, prog_8_method_39_code, 3, some .int, 0, 0, 6),
  (⟨"RecipeRewriterModel", "start", "(I)I"⟩, prog_8_method_41_code, 3, some .int, 1, 0, 6),
  (⟨"RecipeRewriterModel", "byEnd", "(I)I"⟩, prog_8_method_40_code, 5, some .int, 1, 0, 6),
  (⟨"RecipeRewriterModel", "end", "(I)I"⟩, prog_8_method_42_code, 3, some .int, 1, 0, 6),
  (⟨"RecipeRewriterModel", "fits", "(I)I"⟩, prog_8_method_43_code, 4, some .int, 1, 0, 6),
  (⟨"RecipeRewriterModel", "distance", "()I"⟩, prog_8_method_45_code, 1, some .int, 0, 0, 6),
  (⟨"RecipeRewriterModel", "compare", "()V"⟩, prog_8_method_44_code, 7, none, 0, 0, 6),
  (⟨"RecipeRewriterModel", "step", "(I)I"⟩, prog_8_method_46_code, 8, some .int, 1, 0, 6),
  (⟨"RecipeRewriterLaw", "law", "([I)Z"⟩, code, 4, some .boolean, 1, 2, 7)]
def nM : Nat := 123
def nC : Nat := 122
abbrev m_RR_init : Nat := 0
abbrev m_Rule_init : Nat := 1
abbrev m_Text_init : Nat := 2
abbrev m_Program_init : Nat := 3
abbrev m_Outline_init : Nat := 4
abbrev m_Patch_init : Nat := 5
abbrev m_RR_type : Nat := 6
abbrev m_RR_clear : Nat := 7
abbrev m_RR_buffered : Nat := 8
abbrev m_RR_load : Nat := 9
abbrev m_Program_become : Nat := 10
abbrev m_Text_become : Nat := 11
abbrev m_Text_empty : Nat := 12
abbrev m_Text_markSpan : Nat := 13
abbrev m_Text_findTokens : Nat := 14
abbrev m_Text_behindComment : Nat := 15
abbrev m_Text_tokenKind : Nat := 16
abbrev m_Text_isLetter : Nat := 17
abbrev m_Text_isDigit : Nat := 18
abbrev m_Text_behindToken : Nat := 19
abbrev m_Text_goesOn : Nat := 20
abbrev m_Outline_become : Nat := 21
abbrev m_Text_kindAt : Nat := 22
abbrev m_Outline_readStatement : Nat := 23
abbrev m_Text_behindExpression : Nat := 24
abbrev m_Text_isCallName : Nat := 25
abbrev m_Text_behindArguments : Nat := 26
abbrev m_Outline_hasHole : Nat := 27
abbrev m_Text_isHole : Nat := 28
abbrev m_Outline_addExpressions : Nat := 29
abbrev m_Outline_addExpression : Nat := 30
abbrev m_Outline_addStatement : Nat := 31
abbrev m_Patch_forget : Nat := 32
abbrev m_RR_rule : Nat := 33
abbrev m_Rule_become : Nat := 34
abbrev m_Rule_knowsTemplateHoles : Nat := 35
abbrev m_Text_digitOf : Nat := 36
abbrev m_RR_rules : Nat := 37
abbrev m_RR_run : Nat := 38
abbrev m_Program_save : Nat := 39
abbrev m_Text_becomeCopy : Nat := 40
abbrev m_Program_cycle : Nat := 41
abbrev m_Program_pass : Nat := 42
abbrev m_Text_appendSpace : Nat := 43
abbrev m_Text_appendCharacters : Nat := 44
abbrev m_Text_appendSpan : Nat := 45
abbrev m_Text_spanSize : Nat := 46
abbrev m_Outline_endsWith : Nat := 47
abbrev m_Rule_matches : Nat := 48
abbrev m_Rule_behindHole : Nat := 49
abbrev m_Text_sameTokens : Nat := 50
abbrev m_Text_sameToken : Nat := 51
abbrev m_Program_rewrite : Nat := 52
abbrev m_Rule_filledSize : Nat := 53
abbrev m_Rule_fill : Nat := 54
abbrev m_Text_deepestNesting : Nat := 55
abbrev m_Text_cutAt : Nat := 56
abbrev m_Program_restore : Nat := 57
abbrev m_RR_cycles : Nat := 58
abbrev m_RR_rewritings : Nat := 59
abbrev m_RR_length : Nat := 60
abbrev m_RR_at : Nat := 61
abbrev m_RR_mark : Nat := 62
abbrev m_RR_statements : Nat := 63
abbrev m_RR_kind : Nat := 64
abbrev m_RR_expressions : Nat := 65
abbrev m_RR_start : Nat := 66
abbrev m_RR_end : Nat := 67
abbrev m_RR_fits : Nat := 68
abbrev m_Program_countFitting : Nat := 69
abbrev m_RR_distance : Nat := 70
abbrev m_Patch_trace : Nat := 71
abbrev m_Patch_weigh : Nat := 72
abbrev m_Patch_walk : Nat := 73
abbrev m_Patch_deletes : Nat := 74
abbrev m_RR_step : Nat := 75
abbrev m_Model_init : Nat := 76
abbrev m_Model_type : Nat := 77
abbrev m_Model_clear : Nat := 78
abbrev m_Model_buffered : Nat := 79
abbrev m_Model_load : Nat := 80
abbrev m_Model_read : Nat := 81
abbrev m_Model_tokenise : Nat := 82
abbrev m_Model_sortAt : Nat := 83
abbrev m_Model_letter : Nat := 84
abbrev m_Model_figure : Nat := 85
abbrev m_Model_mere : Nat := 86
abbrev m_Model_endAt : Nat := 87
abbrev m_Model_structure : Nat := 88
abbrev m_Model_called : Nat := 89
abbrev m_Model_rule : Nat := 90
abbrev m_Model_readRule : Nat := 91
abbrev m_Model_isRule : Nat := 92
abbrev m_Model_sameToken : Nat := 93
abbrev m_Model_rules : Nat := 94
abbrev m_Model_run : Nat := 95
abbrev m_Model_pass : Nat := 96
abbrev m_Model_nextBehind : Nat := 97
abbrev m_Model_begins : Nat := 98
abbrev m_Model_spanEnd : Nat := 99
abbrev m_Model_fitsAt : Nat := 100
abbrev m_Model_sameTokens : Nat := 101
abbrev m_Model_rewrite : Nat := 102
abbrev m_Model_layOut : Nat := 103
abbrev m_Model_put : Nat := 104
abbrev m_Model_putIn : Nat := 105
abbrev m_Model_back : Nat := 106
abbrev m_Model_cycles : Nat := 107
abbrev m_Model_rewritings : Nat := 108
abbrev m_Model_length : Nat := 109
abbrev m_Model_at : Nat := 110
abbrev m_Model_mark : Nat := 111
abbrev m_Model_statements : Nat := 112
abbrev m_Model_kind : Nat := 113
abbrev m_Model_expressions : Nat := 114
abbrev m_Model_start : Nat := 115
abbrev m_Model_byEnd : Nat := 116
abbrev m_Model_end : Nat := 117
abbrev m_Model_fits : Nat := 118
abbrev m_Model_distance : Nat := 119
abbrev m_Model_compare : Nat := 120
abbrev m_Model_step : Nat := 121
abbrev m_Law_law : Nat := 122
def mE (y : Nat) : MethodName × ByteArray × Nat × Option FieldType × Nat × Nat × Nat := (mT[y]?).getD (⟨"", "", ""⟩, ⟨#[]⟩, 0, none, 0, 0, 0)
def mN (y : Nat) : MethodName := (mE y).1
def mB (y : Nat) : ByteArray := (mE y).2.1
def mX (y : Nat) : Nat := (mE y).2.2.1
def mR (y : Nat) : Option FieldType := (mE y).2.2.2.1
def mA (y : Nat) : Nat := (mE y).2.2.2.2.1
def mK (y : Nat) : Nat := (mE y).2.2.2.2.2.1
def mO (y : Nat) : Nat := (mE y).2.2.2.2.2.2
def flT : List (Nat × Nat × Nat × Nat × Nat × Nat) := [(0, 9, 0, 0, 0, 216), (0, 13, 0, 1, 0, 217), (0, 17, 0, 2, 0, 218), (0, 20, 0, 3, 0, 219), (0, 25, 0, 4, 0, 220), (0, 30, 0, 5, 0, 221), (0, 36, 0, 6, 0, 222), (0, 40, 0, 7, 0, 223), (0, 46, 0, 8, 0, 224), (1, 14, 1, 0, 0, 108), (1, 20, 1, 1, 0, 109), (1, 24, 1, 2, 0, 110), (1, 28, 1, 3, 0, 111), (3, 9, 3, 0, 0, 71), (3, 15, 3, 1, 0, 74), (3, 18, 3, 2, 0, 76), (3, 21, 3, 3, 0, 77), (3, 24, 3, 4, 0, 80), (3, 27, 3, 5, 0, 83), (3, 31, 3, 6, 0, 88), (2, 14, 2, 0, 0, 166), (2, 20, 2, 1, 0, 168), (2, 23, 2, 2, 0, 169), (2, 26, 2, 3, 0, 170), (2, 32, 2, 4, 0, 171), (2, 36, 2, 5, 0, 173), (2, 40, 2, 6, 0, 174), (4, 9, 4, 0, 0, 135), (4, 15, 4, 1, 0, 137), (4, 19, 4, 2, 0, 139), (4, 22, 4, 3, 0, 142), (4, 25, 4, 4, 0, 145), (4, 28, 4, 5, 0, 147), (4, 31, 4, 6, 0, 150), (5, 11, 5, 0, 0, 197), (5, 15, 5, 1, 0, 198), (5, 18, 5, 2, 0, 200), (5, 22, 5, 3, 0, 202), (5, 25, 5, 4, 0, 204), (0, 63, 2, 4, 1, 172), (0, 67, 4, 1, 1, 138), (2, 51, 4, 5, 1, 148), (2, 54, 3, 3, 1, 78), (2, 57, 4, 2, 1, 140), (2, 60, 3, 4, 1, 81), (2, 63, 4, 3, 1, 143), (4, 34, 3, 6, 1, 89), (1, 43, 3, 6, 1, 90), (0, 75, 2, 6, 1, 175), (2, 86, 3, 6, 1, 91), (2, 101, 3, 5, 1, 86), (2, 104, 4, 4, 1, 146), (1, 75, 3, 5, 1, 85), (0, 89, 2, 0, 1, 167), (0, 93, 3, 5, 1, 87), (0, 98, 3, 0, 1, 73), (0, 101, 3, 1, 1, 75), (0, 104, 4, 0, 1, 136), (0, 107, 4, 5, 1, 149), (0, 110, 3, 3, 1, 79), (0, 113, 4, 2, 1, 141), (0, 116, 3, 4, 1, 82), (0, 119, 4, 3, 1, 144), (0, 130, 5, 3, 1, 203), (5, 29, 3, 5, 1, 84), (5, 41, 3, 0, 1, 72), (0, 133, 5, 2, 1, 201), (0, 136, 5, 1, 1, 199), (6, 7, 6, 0, 0, 552), (6, 13, 6, 1, 0, 553), (6, 16, 6, 6, 0, 558), (6, 19, 6, 9, 0, 561), (6, 22, 6, 10, 0, 562), (6, 25, 6, 11, 0, 563), (6, 28, 6, 12, 0, 564), (6, 31, 6, 13, 0, 565), (6, 34, 6, 14, 0, 566), (6, 38, 6, 15, 0, 567), (6, 41, 6, 19, 0, 571), (6, 44, 6, 20, 0, 572), (6, 47, 6, 21, 0, 573), (6, 50, 6, 23, 0, 575), (6, 53, 6, 24, 0, 576), (6, 56, 6, 25, 0, 577), (6, 102, 6, 4, 0, 556), (6, 81, 6, 2, 0, 554), (6, 105, 6, 3, 0, 555), (6, 108, 6, 7, 0, 559), (6, 111, 6, 8, 0, 560), (6, 95, 6, 17, 0, 569), (6, 88, 6, 16, 0, 568), (6, 120, 6, 5, 0, 557), (6, 117, 6, 18, 0, 570), (6, 136, 6, 22, 0, 574)]
def mlT : List (Nat × Nat × Nat × Nat × Nat) := [(0, 29, 1, 0, 61), (0, 35, 3, 0, 123), (0, 45, 5, 0, 193), (1, 11, 2, 0, 67), (2, 11, 2, 0, 128), (2, 31, 4, 0, 131), (0, 56, 10, 0, 263), (0, 60, 32, 0, 358), (2, 44, 11, 0, 267), (2, 48, 21, 0, 311), (2, 66, 13, 0, 357), (3, 34, 12, 0, 271), (3, 52, 13, 0, 282), (3, 56, 14, 0, 286), (3, 59, 15, 0, 290), (3, 63, 16, 0, 294), (3, 66, 19, 0, 304), (3, 69, 17, 0, 298), (3, 73, 18, 0, 301), (3, 76, 20, 0, 308), (4, 39, 22, 0, 315), (4, 43, 23, 0, 319), (4, 47, 31, 0, 353), (4, 51, 24, 1, 323), (4, 55, 27, 0, 337), (4, 59, 29, 0, 344), (4, 63, 25, 0, 348), (3, 80, 22, 0, 327), (3, 83, 25, 0, 328), (3, 86, 26, 0, 332), (3, 89, 24, 0, 336), (4, 67, 28, 0, 340), (4, 70, 30, 0, 349), (0, 72, 34, 0, 366), (1, 31, 11, 0, 370), (1, 35, 24, 1, 371), (1, 39, 22, 0, 372), (1, 46, 35, 0, 373), (1, 50, 28, 0, 377), (1, 54, 36, 0, 378), (0, 78, 39, 0, 390), (0, 81, 41, 0, 398), (0, 85, 57, 0, 469), (2, 70, 40, 0, 394), (2, 79, 42, 0, 402), (2, 83, 12, 0, 406), (2, 89, 43, 0, 407), (2, 93, 45, 0, 415), (2, 97, 47, 0, 423), (2, 73, 48, 0, 427), (2, 107, 52, 0, 444), (3, 99, 44, 0, 411), (3, 96, 46, 0, 419), (1, 57, 49, 0, 431), (1, 61, 51, 0, 443), (1, 65, 50, 0, 435), (3, 92, 51, 0, 439), (2, 111, 53, 0, 448), (2, 115, 54, 0, 453), (2, 119, 55, 0, 461), (2, 123, 56, 0, 465), (1, 69, 46, 0, 452), (1, 72, 12, 0, 457), (1, 78, 13, 0, 458), (1, 82, 43, 0, 459), (1, 86, 45, 0, 460), (0, 122, 69, 0, 517), (0, 126, 71, 0, 525), (5, 34, 72, 0, 529), (5, 38, 73, 0, 534), (5, 50, 74, 0, 538), (6, 114, 81, 0, 648), (6, 85, 82, 0, 652), (6, 91, 88, 0, 673), (6, 69, 83, 0, 656), (6, 73, 87, 0, 669), (6, 59, 84, 0, 660), (6, 63, 85, 0, 663), (6, 66, 86, 0, 666), (6, 77, 89, 0, 677), (6, 123, 91, 0, 685), (6, 126, 92, 0, 689), (6, 98, 93, 0, 693), (6, 162, 96, 0, 705), (6, 165, 106, 0, 745), (6, 153, 97, 0, 709), (6, 142, 99, 0, 717), (6, 156, 100, 0, 721), (6, 159, 102, 0, 729), (6, 130, 98, 0, 713), (6, 133, 101, 0, 725), (6, 146, 103, 0, 733), (6, 150, 105, 0, 741), (6, 139, 104, 0, 737), (6, 168, 116, 0, 785), (6, 171, 120, 0, 801), (7, 9, 0, 0, 52), (7, 12, 76, 0, 548), (7, 13, 6, 0, 244), (7, 17, 77, 0, 632), (7, 18, 7, 0, 248), (7, 21, 78, 0, 636), (7, 22, 8, 0, 252), (7, 26, 79, 0, 640), (7, 27, 9, 0, 256), (7, 30, 80, 0, 644), (7, 31, 33, 0, 362), (7, 34, 90, 0, 681), (7, 35, 37, 0, 382), (7, 38, 94, 0, 697), (7, 39, 38, 0, 386), (7, 43, 95, 0, 701), (7, 44, 58, 0, 473), (7, 47, 107, 0, 749), (7, 48, 59, 0, 477), (7, 51, 108, 0, 753), (7, 52, 60, 0, 481), (7, 55, 109, 0, 757), (7, 56, 61, 0, 485), (7, 59, 110, 0, 761), (7, 60, 62, 0, 489), (7, 63, 111, 0, 765), (7, 64, 63, 0, 493), (7, 67, 112, 0, 769), (7, 68, 64, 0, 497), (7, 71, 113, 0, 773), (7, 72, 65, 0, 501), (7, 75, 114, 0, 777), (7, 76, 66, 0, 505), (7, 79, 115, 0, 781), (7, 80, 67, 0, 509), (7, 83, 117, 0, 789), (7, 84, 68, 0, 513), (7, 87, 118, 0, 793), (7, 88, 70, 0, 521), (7, 91, 119, 0, 797), (7, 92, 75, 0, 542), (7, 95, 121, 0, 805)]
def clT : List (Nat × Nat × Nat × Nat) := [(0, 23, 1, 58), (0, 33, 2, 121), (0, 43, 5, 191), (1, 9, 3, 65), (2, 9, 3, 127), (2, 29, 4, 129), (7, 7, 0, 50), (7, 10, 6, 546)]
def jlT : List (Nat × Nat × Nat × Nat) := [(0, 1, 0, 55), (1, 3, 0, 64), (3, 3, 0, 70), (2, 3, 0, 126), (4, 3, 0, 134), (5, 3, 0, 196), (0, 50, 3, 260), (3, 37, 2, 275), (3, 43, 1, 278), (3, 46, 3, 281), (5, 44, 2, 533), (6, 1, 0, 551)]
def jN (w : Nat) : MethodName := match w with
  | 0 => objectInit
  | 1 => Lib.Math.max.name
  | 2 => Lib.Math.min.name
  | _ => arraycopyName
def mW : List (Nat × Nat × Nat × Nat) := [(54, 41, 53, 0), (63, 42, 62, 0), (69, 43, 68, 0), (125, 44, 124, 0), (133, 45, 132, 0), (195, 46, 194, 0), (247, 41, 245, 246), (251, 41, 249, 250), (255, 41, 253, 254), (259, 41, 257, 258), (266, 44, 264, 265), (270, 43, 268, 269), (274, 43, 272, 273), (285, 43, 283, 284), (289, 43, 288, 0), (293, 43, 292, 1), (297, 43, 296, 2), (300, 43, 299, 0), (303, 43, 302, 0), (307, 43, 306, 3), (310, 43, 309, 0), (314, 45, 312, 313), (318, 43, 316, 317), (322, 45, 321, 4), (326, 43, 325, 5), (331, 43, 329, 330), (335, 43, 334, 6), (339, 45, 338, 0), (343, 43, 341, 342), (347, 45, 346, 7), (352, 45, 351, 8), (356, 45, 355, 9), (361, 46, 359, 360), (365, 41, 363, 364), (369, 42, 367, 368), (376, 42, 375, 10), (381, 43, 379, 380), (385, 41, 383, 384), (389, 41, 387, 388), (393, 44, 391, 392), (397, 43, 395, 396), (401, 44, 399, 400), (405, 44, 404, 11), (410, 43, 408, 409), (414, 43, 413, 12), (418, 43, 416, 417), (422, 43, 420, 421), (426, 45, 424, 425), (430, 42, 428, 429), (434, 42, 433, 13), (438, 43, 436, 437), (442, 43, 440, 441), (447, 44, 446, 14), (451, 42, 449, 450), (456, 42, 454, 455), (464, 43, 462, 463), (468, 43, 466, 467), (472, 44, 470, 471), (476, 41, 474, 475), (480, 41, 478, 479), (484, 41, 482, 483), (488, 41, 486, 487), (492, 41, 490, 491), (496, 41, 494, 495), (500, 41, 498, 499), (504, 41, 502, 503), (508, 41, 506, 507), (512, 41, 510, 511), (516, 41, 514, 515), (520, 44, 518, 519), (524, 41, 522, 523), (528, 46, 526, 527), (532, 46, 531, 15), (537, 46, 536, 16), (541, 46, 540, 17), (545, 41, 543, 544), (550, 47, 549, 0), (635, 47, 633, 634), (639, 47, 637, 638), (643, 47, 641, 642), (647, 47, 645, 646), (651, 47, 650, 18), (655, 47, 654, 19), (659, 47, 658, 20), (662, 47, 661, 0), (665, 47, 664, 0), (668, 47, 667, 0), (672, 47, 671, 21), (676, 47, 675, 22), (680, 47, 679, 23), (684, 47, 682, 683), (688, 47, 687, 24), (692, 47, 691, 25), (696, 47, 695, 26), (700, 47, 698, 699), (704, 47, 702, 703), (708, 47, 707, 27), (712, 47, 711, 28), (716, 47, 715, 29), (720, 47, 719, 30), (724, 47, 723, 31), (728, 47, 727, 32), (732, 47, 731, 33), (736, 47, 735, 34), (740, 47, 739, 35), (744, 47, 743, 36), (748, 47, 747, 37), (752, 47, 750, 751), (756, 47, 754, 755), (760, 47, 758, 759), (764, 47, 762, 763), (768, 47, 766, 767), (772, 47, 770, 771), (776, 47, 774, 775), (780, 47, 778, 779), (784, 47, 782, 783), (788, 47, 787, 38), (792, 47, 790, 791), (796, 47, 794, 795), (800, 47, 798, 799), (804, 47, 803, 39), (808, 47, 806, 807)]
