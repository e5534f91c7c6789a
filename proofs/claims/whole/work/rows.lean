section
-- ===== PART A: goes FIRST, ahead of the names: the tables' words, and 'selects' of the private methods out of them =====
/-- a private method of a class that the tables say can be made, by its rows of tables_1 -/
def lw_okq (q : MethodName × Nat) : Prop := (q.1.cls ≠ "java/lang/invoke/MethodHandle" ∧ q.1.cls ≠ "java/lang/invoke/VarHandle") ∧ Cond.instantiable q.1.cls q.2 ∈ tables_1 ∧ Cond.privateMethod q.1 ∈ tables_1 ∧ Cond.instanceMethod q.1 ∈ tables_1
theorem lw_p0 : lw_okq (⟨"RecipeRewriter$Text", "findTokens", "()V"⟩, 7) := ⟨⟨by decide +kernel, by decide +kernel⟩, List.mem_of_getElem? (i := 26) (by decide +kernel), List.mem_of_getElem? (i := 247) (by decide +kernel), List.mem_of_getElem? (i := 248) (by decide +kernel)⟩
theorem lw_p1 : lw_okq (⟨"RecipeRewriter$Text", "behindComment", "(I)I"⟩, 7) := ⟨⟨by decide +kernel, by decide +kernel⟩, List.mem_of_getElem? (i := 26) (by decide +kernel), List.mem_of_getElem? (i := 251) (by decide +kernel), List.mem_of_getElem? (i := 252) (by decide +kernel)⟩
theorem lw_p2 : lw_okq (⟨"RecipeRewriter$Text", "tokenKind", "(I)I"⟩, 7) := ⟨⟨by decide +kernel, by decide +kernel⟩, List.mem_of_getElem? (i := 26) (by decide +kernel), List.mem_of_getElem? (i := 255) (by decide +kernel), List.mem_of_getElem? (i := 256) (by decide +kernel)⟩
theorem lw_p3 : lw_okq (⟨"RecipeRewriter$Text", "behindToken", "(II)I"⟩, 7) := ⟨⟨by decide +kernel, by decide +kernel⟩, List.mem_of_getElem? (i := 26) (by decide +kernel), List.mem_of_getElem? (i := 265) (by decide +kernel), List.mem_of_getElem? (i := 266) (by decide +kernel)⟩
theorem lw_p4 : lw_okq (⟨"RecipeRewriter$Outline", "readStatement", "(LRecipeRewriter$Text;II)I"⟩, 7) := ⟨⟨by decide +kernel, by decide +kernel⟩, List.mem_of_getElem? (i := 90) (by decide +kernel), List.mem_of_getElem? (i := 280) (by decide +kernel), List.mem_of_getElem? (i := 281) (by decide +kernel)⟩
theorem lw_p5 : lw_okq (⟨"RecipeRewriter$Text", "behindExpression", "(II)I"⟩, 7) := ⟨⟨by decide +kernel, by decide +kernel⟩, List.mem_of_getElem? (i := 26) (by decide +kernel), List.mem_of_getElem? (i := 284) (by decide +kernel), List.mem_of_getElem? (i := 285) (by decide +kernel)⟩
theorem lw_p6 : lw_okq (⟨"RecipeRewriter$Text", "behindArguments", "(II)I"⟩, 7) := ⟨⟨by decide +kernel, by decide +kernel⟩, List.mem_of_getElem? (i := 26) (by decide +kernel), List.mem_of_getElem? (i := 293) (by decide +kernel), List.mem_of_getElem? (i := 294) (by decide +kernel)⟩
theorem lw_p7 : lw_okq (⟨"RecipeRewriter$Outline", "addExpressions", "(LRecipeRewriter$Text;II)V"⟩, 7) := ⟨⟨by decide +kernel, by decide +kernel⟩, List.mem_of_getElem? (i := 90) (by decide +kernel), List.mem_of_getElem? (i := 305) (by decide +kernel), List.mem_of_getElem? (i := 306) (by decide +kernel)⟩
theorem lw_p8 : lw_okq (⟨"RecipeRewriter$Outline", "addExpression", "(III)V"⟩, 7) := ⟨⟨by decide +kernel, by decide +kernel⟩, List.mem_of_getElem? (i := 90) (by decide +kernel), List.mem_of_getElem? (i := 310) (by decide +kernel), List.mem_of_getElem? (i := 311) (by decide +kernel)⟩
theorem lw_p9 : lw_okq (⟨"RecipeRewriter$Outline", "addStatement", "(I)V"⟩, 7) := ⟨⟨by decide +kernel, by decide +kernel⟩, List.mem_of_getElem? (i := 90) (by decide +kernel), List.mem_of_getElem? (i := 314) (by decide +kernel), List.mem_of_getElem? (i := 315) (by decide +kernel)⟩
theorem lw_p10 : lw_okq (⟨"RecipeRewriter$Rule", "knowsTemplateHoles", "()Z"⟩, 4) := ⟨⟨by decide +kernel, by decide +kernel⟩, List.mem_of_getElem? (i := 20) (by decide +kernel), List.mem_of_getElem? (i := 334) (by decide +kernel), List.mem_of_getElem? (i := 335) (by decide +kernel)⟩
theorem lw_p11 : lw_okq (⟨"RecipeRewriter$Program", "pass", "(LRecipeRewriter$Rule;)Z"⟩, 7) := ⟨⟨by decide +kernel, by decide +kernel⟩, List.mem_of_getElem? (i := 82) (by decide +kernel), List.mem_of_getElem? (i := 363) (by decide +kernel), List.mem_of_getElem? (i := 364) (by decide +kernel)⟩
theorem lw_p12 : lw_okq (⟨"RecipeRewriter$Text", "appendCharacters", "(LRecipeRewriter$Text;II)V"⟩, 7) := ⟨⟨by decide +kernel, by decide +kernel⟩, List.mem_of_getElem? (i := 26) (by decide +kernel), List.mem_of_getElem? (i := 372) (by decide +kernel), List.mem_of_getElem? (i := 373) (by decide +kernel)⟩
theorem lw_p13 : lw_okq (⟨"RecipeRewriter$Rule", "behindHole", "(ILRecipeRewriter$Text;I)I"⟩, 4) := ⟨⟨by decide +kernel, by decide +kernel⟩, List.mem_of_getElem? (i := 20) (by decide +kernel), List.mem_of_getElem? (i := 392) (by decide +kernel), List.mem_of_getElem? (i := 393) (by decide +kernel)⟩
theorem lw_p14 : lw_okq (⟨"RecipeRewriter$Program", "rewrite", "(LRecipeRewriter$Rule;III)Z"⟩, 7) := ⟨⟨by decide +kernel, by decide +kernel⟩, List.mem_of_getElem? (i := 82) (by decide +kernel), List.mem_of_getElem? (i := 405) (by decide +kernel), List.mem_of_getElem? (i := 406) (by decide +kernel)⟩
theorem lw_p15 : lw_okq (⟨"RecipeRewriter$Patch", "weigh", "([IILRecipeRewriter$Text;)V"⟩, 5) := ⟨⟨by decide +kernel, by decide +kernel⟩, List.mem_of_getElem? (i := 152) (by decide +kernel), List.mem_of_getElem? (i := 490) (by decide +kernel), List.mem_of_getElem? (i := 491) (by decide +kernel)⟩
def lw_privs_1 : List (MethodName × Nat) := [(⟨"RecipeRewriter$Text", "findTokens", "()V"⟩, 7), (⟨"RecipeRewriter$Text", "behindComment", "(I)I"⟩, 7), (⟨"RecipeRewriter$Text", "tokenKind", "(I)I"⟩, 7), (⟨"RecipeRewriter$Text", "behindToken", "(II)I"⟩, 7), (⟨"RecipeRewriter$Outline", "readStatement", "(LRecipeRewriter$Text;II)I"⟩, 7), (⟨"RecipeRewriter$Text", "behindExpression", "(II)I"⟩, 7), (⟨"RecipeRewriter$Text", "behindArguments", "(II)I"⟩, 7), (⟨"RecipeRewriter$Outline", "addExpressions", "(LRecipeRewriter$Text;II)V"⟩, 7), (⟨"RecipeRewriter$Outline", "addExpression", "(III)V"⟩, 7), (⟨"RecipeRewriter$Outline", "addStatement", "(I)V"⟩, 7), (⟨"RecipeRewriter$Rule", "knowsTemplateHoles", "()Z"⟩, 4), (⟨"RecipeRewriter$Program", "pass", "(LRecipeRewriter$Rule;)Z"⟩, 7), (⟨"RecipeRewriter$Text", "appendCharacters", "(LRecipeRewriter$Text;II)V"⟩, 7), (⟨"RecipeRewriter$Rule", "behindHole", "(ILRecipeRewriter$Text;I)I"⟩, 4), (⟨"RecipeRewriter$Program", "rewrite", "(LRecipeRewriter$Rule;III)Z"⟩, 7), (⟨"RecipeRewriter$Patch", "weigh", "([IILRecipeRewriter$Text;)V"⟩, 5)]
theorem lw_r1 : ∀ q ∈ lw_privs_1, lw_okq q := List.forall_mem_cons.mpr ⟨lw_p0, List.forall_mem_cons.mpr ⟨lw_p1, List.forall_mem_cons.mpr ⟨lw_p2, List.forall_mem_cons.mpr ⟨lw_p3, List.forall_mem_cons.mpr ⟨lw_p4, List.forall_mem_cons.mpr ⟨lw_p5, List.forall_mem_cons.mpr ⟨lw_p6, List.forall_mem_cons.mpr ⟨lw_p7, List.forall_mem_cons.mpr ⟨lw_p8, List.forall_mem_cons.mpr ⟨lw_p9, List.forall_mem_cons.mpr ⟨lw_p10, List.forall_mem_cons.mpr ⟨lw_p11, List.forall_mem_cons.mpr ⟨lw_p12, List.forall_mem_cons.mpr ⟨lw_p13, List.forall_mem_cons.mpr ⟨lw_p14, List.forall_mem_cons.mpr ⟨lw_p15, fun _ h => absurd h List.not_mem_nil⟩⟩⟩⟩⟩⟩⟩⟩⟩⟩⟩⟩⟩⟩⟩⟩
theorem lw_p16 : lw_okq (⟨"RecipeRewriter$Patch", "walk", "([IILRecipeRewriter$Text;)V"⟩, 5) := ⟨⟨by decide +kernel, by decide +kernel⟩, List.mem_of_getElem? (i := 152) (by decide +kernel), List.mem_of_getElem? (i := 495) (by decide +kernel), List.mem_of_getElem? (i := 496) (by decide +kernel)⟩
theorem lw_p17 : lw_okq (⟨"RecipeRewriter$Patch", "deletes", "(II)Z"⟩, 5) := ⟨⟨by decide +kernel, by decide +kernel⟩, List.mem_of_getElem? (i := 152) (by decide +kernel), List.mem_of_getElem? (i := 499) (by decide +kernel), List.mem_of_getElem? (i := 500) (by decide +kernel)⟩
theorem lw_p18 : lw_okq (⟨"RecipeRewriterModel", "read", "()V"⟩, 26) := ⟨⟨by decide +kernel, by decide +kernel⟩, List.mem_of_getElem? (i := 507) (by decide +kernel), List.mem_of_getElem? (i := 609) (by decide +kernel), List.mem_of_getElem? (i := 610) (by decide +kernel)⟩
theorem lw_p19 : lw_okq (⟨"RecipeRewriterModel", "tokenise", "(III)I"⟩, 26) := ⟨⟨by decide +kernel, by decide +kernel⟩, List.mem_of_getElem? (i := 507) (by decide +kernel), List.mem_of_getElem? (i := 613) (by decide +kernel), List.mem_of_getElem? (i := 614) (by decide +kernel)⟩
theorem lw_p20 : lw_okq (⟨"RecipeRewriterModel", "sortAt", "(II)I"⟩, 26) := ⟨⟨by decide +kernel, by decide +kernel⟩, List.mem_of_getElem? (i := 507) (by decide +kernel), List.mem_of_getElem? (i := 617) (by decide +kernel), List.mem_of_getElem? (i := 618) (by decide +kernel)⟩
theorem lw_p21 : lw_okq (⟨"RecipeRewriterModel", "endAt", "(III)I"⟩, 26) := ⟨⟨by decide +kernel, by decide +kernel⟩, List.mem_of_getElem? (i := 507) (by decide +kernel), List.mem_of_getElem? (i := 630) (by decide +kernel), List.mem_of_getElem? (i := 631) (by decide +kernel)⟩
theorem lw_p22 : lw_okq (⟨"RecipeRewriterModel", "structure", "(II)V"⟩, 26) := ⟨⟨by decide +kernel, by decide +kernel⟩, List.mem_of_getElem? (i := 507) (by decide +kernel), List.mem_of_getElem? (i := 634) (by decide +kernel), List.mem_of_getElem? (i := 635) (by decide +kernel)⟩
theorem lw_p23 : lw_okq (⟨"RecipeRewriterModel", "called", "(III)V"⟩, 26) := ⟨⟨by decide +kernel, by decide +kernel⟩, List.mem_of_getElem? (i := 507) (by decide +kernel), List.mem_of_getElem? (i := 638) (by decide +kernel), List.mem_of_getElem? (i := 639) (by decide +kernel)⟩
theorem lw_p24 : lw_okq (⟨"RecipeRewriterModel", "readRule", "(II)V"⟩, 26) := ⟨⟨by decide +kernel, by decide +kernel⟩, List.mem_of_getElem? (i := 507) (by decide +kernel), List.mem_of_getElem? (i := 646) (by decide +kernel), List.mem_of_getElem? (i := 647) (by decide +kernel)⟩
theorem lw_p25 : lw_okq (⟨"RecipeRewriterModel", "isRule", "()Z"⟩, 26) := ⟨⟨by decide +kernel, by decide +kernel⟩, List.mem_of_getElem? (i := 507) (by decide +kernel), List.mem_of_getElem? (i := 650) (by decide +kernel), List.mem_of_getElem? (i := 651) (by decide +kernel)⟩
theorem lw_p26 : lw_okq (⟨"RecipeRewriterModel", "sameToken", "(II)Z"⟩, 26) := ⟨⟨by decide +kernel, by decide +kernel⟩, List.mem_of_getElem? (i := 507) (by decide +kernel), List.mem_of_getElem? (i := 654) (by decide +kernel), List.mem_of_getElem? (i := 655) (by decide +kernel)⟩
theorem lw_p27 : lw_okq (⟨"RecipeRewriterModel", "pass", "(I)Z"⟩, 26) := ⟨⟨by decide +kernel, by decide +kernel⟩, List.mem_of_getElem? (i := 507) (by decide +kernel), List.mem_of_getElem? (i := 666) (by decide +kernel), List.mem_of_getElem? (i := 667) (by decide +kernel)⟩
theorem lw_p28 : lw_okq (⟨"RecipeRewriterModel", "nextBehind", "(I)I"⟩, 26) := ⟨⟨by decide +kernel, by decide +kernel⟩, List.mem_of_getElem? (i := 507) (by decide +kernel), List.mem_of_getElem? (i := 670) (by decide +kernel), List.mem_of_getElem? (i := 671) (by decide +kernel)⟩
theorem lw_p29 : lw_okq (⟨"RecipeRewriterModel", "begins", "(I)Z"⟩, 26) := ⟨⟨by decide +kernel, by decide +kernel⟩, List.mem_of_getElem? (i := 507) (by decide +kernel), List.mem_of_getElem? (i := 674) (by decide +kernel), List.mem_of_getElem? (i := 675) (by decide +kernel)⟩
theorem lw_p30 : lw_okq (⟨"RecipeRewriterModel", "spanEnd", "(I)I"⟩, 26) := ⟨⟨by decide +kernel, by decide +kernel⟩, List.mem_of_getElem? (i := 507) (by decide +kernel), List.mem_of_getElem? (i := 678) (by decide +kernel), List.mem_of_getElem? (i := 679) (by decide +kernel)⟩
theorem lw_p31 : lw_okq (⟨"RecipeRewriterModel", "fitsAt", "(I)Z"⟩, 26) := ⟨⟨by decide +kernel, by decide +kernel⟩, List.mem_of_getElem? (i := 507) (by decide +kernel), List.mem_of_getElem? (i := 682) (by decide +kernel), List.mem_of_getElem? (i := 683) (by decide +kernel)⟩
def lw_privs_2 : List (MethodName × Nat) := [(⟨"RecipeRewriter$Patch", "walk", "([IILRecipeRewriter$Text;)V"⟩, 5), (⟨"RecipeRewriter$Patch", "deletes", "(II)Z"⟩, 5), (⟨"RecipeRewriterModel", "read", "()V"⟩, 26), (⟨"RecipeRewriterModel", "tokenise", "(III)I"⟩, 26), (⟨"RecipeRewriterModel", "sortAt", "(II)I"⟩, 26), (⟨"RecipeRewriterModel", "endAt", "(III)I"⟩, 26), (⟨"RecipeRewriterModel", "structure", "(II)V"⟩, 26), (⟨"RecipeRewriterModel", "called", "(III)V"⟩, 26), (⟨"RecipeRewriterModel", "readRule", "(II)V"⟩, 26), (⟨"RecipeRewriterModel", "isRule", "()Z"⟩, 26), (⟨"RecipeRewriterModel", "sameToken", "(II)Z"⟩, 26), (⟨"RecipeRewriterModel", "pass", "(I)Z"⟩, 26), (⟨"RecipeRewriterModel", "nextBehind", "(I)I"⟩, 26), (⟨"RecipeRewriterModel", "begins", "(I)Z"⟩, 26), (⟨"RecipeRewriterModel", "spanEnd", "(I)I"⟩, 26), (⟨"RecipeRewriterModel", "fitsAt", "(I)Z"⟩, 26)]
theorem lw_r2 : ∀ q ∈ lw_privs_2, lw_okq q := List.forall_mem_cons.mpr ⟨lw_p16, List.forall_mem_cons.mpr ⟨lw_p17, List.forall_mem_cons.mpr ⟨lw_p18, List.forall_mem_cons.mpr ⟨lw_p19, List.forall_mem_cons.mpr ⟨lw_p20, List.forall_mem_cons.mpr ⟨lw_p21, List.forall_mem_cons.mpr ⟨lw_p22, List.forall_mem_cons.mpr ⟨lw_p23, List.forall_mem_cons.mpr ⟨lw_p24, List.forall_mem_cons.mpr ⟨lw_p25, List.forall_mem_cons.mpr ⟨lw_p26, List.forall_mem_cons.mpr ⟨lw_p27, List.forall_mem_cons.mpr ⟨lw_p28, List.forall_mem_cons.mpr ⟨lw_p29, List.forall_mem_cons.mpr ⟨lw_p30, List.forall_mem_cons.mpr ⟨lw_p31, fun _ h => absurd h List.not_mem_nil⟩⟩⟩⟩⟩⟩⟩⟩⟩⟩⟩⟩⟩⟩⟩⟩
theorem lw_p32 : lw_okq (⟨"RecipeRewriterModel", "sameTokens", "(II)Z"⟩, 26) := ⟨⟨by decide +kernel, by decide +kernel⟩, List.mem_of_getElem? (i := 507) (by decide +kernel), List.mem_of_getElem? (i := 686) (by decide +kernel), List.mem_of_getElem? (i := 687) (by decide +kernel)⟩
theorem lw_p33 : lw_okq (⟨"RecipeRewriterModel", "rewrite", "(I)Z"⟩, 26) := ⟨⟨by decide +kernel, by decide +kernel⟩, List.mem_of_getElem? (i := 507) (by decide +kernel), List.mem_of_getElem? (i := 690) (by decide +kernel), List.mem_of_getElem? (i := 691) (by decide +kernel)⟩
theorem lw_p34 : lw_okq (⟨"RecipeRewriterModel", "layOut", "(I)V"⟩, 26) := ⟨⟨by decide +kernel, by decide +kernel⟩, List.mem_of_getElem? (i := 507) (by decide +kernel), List.mem_of_getElem? (i := 694) (by decide +kernel), List.mem_of_getElem? (i := 695) (by decide +kernel)⟩
theorem lw_p35 : lw_okq (⟨"RecipeRewriterModel", "put", "(II)V"⟩, 26) := ⟨⟨by decide +kernel, by decide +kernel⟩, List.mem_of_getElem? (i := 507) (by decide +kernel), List.mem_of_getElem? (i := 698) (by decide +kernel), List.mem_of_getElem? (i := 699) (by decide +kernel)⟩
theorem lw_p36 : lw_okq (⟨"RecipeRewriterModel", "putIn", "(II)V"⟩, 26) := ⟨⟨by decide +kernel, by decide +kernel⟩, List.mem_of_getElem? (i := 507) (by decide +kernel), List.mem_of_getElem? (i := 702) (by decide +kernel), List.mem_of_getElem? (i := 703) (by decide +kernel)⟩
theorem lw_p37 : lw_okq (⟨"RecipeRewriterModel", "back", "(II)V"⟩, 26) := ⟨⟨by decide +kernel, by decide +kernel⟩, List.mem_of_getElem? (i := 507) (by decide +kernel), List.mem_of_getElem? (i := 706) (by decide +kernel), List.mem_of_getElem? (i := 707) (by decide +kernel)⟩
theorem lw_p38 : lw_okq (⟨"RecipeRewriterModel", "byEnd", "(I)I"⟩, 26) := ⟨⟨by decide +kernel, by decide +kernel⟩, List.mem_of_getElem? (i := 507) (by decide +kernel), List.mem_of_getElem? (i := 746) (by decide +kernel), List.mem_of_getElem? (i := 747) (by decide +kernel)⟩
theorem lw_p39 : lw_okq (⟨"RecipeRewriterModel", "compare", "()V"⟩, 26) := ⟨⟨by decide +kernel, by decide +kernel⟩, List.mem_of_getElem? (i := 507) (by decide +kernel), List.mem_of_getElem? (i := 762) (by decide +kernel), List.mem_of_getElem? (i := 763) (by decide +kernel)⟩
def lw_privs_3 : List (MethodName × Nat) := [(⟨"RecipeRewriterModel", "sameTokens", "(II)Z"⟩, 26), (⟨"RecipeRewriterModel", "rewrite", "(I)Z"⟩, 26), (⟨"RecipeRewriterModel", "layOut", "(I)V"⟩, 26), (⟨"RecipeRewriterModel", "put", "(II)V"⟩, 26), (⟨"RecipeRewriterModel", "putIn", "(II)V"⟩, 26), (⟨"RecipeRewriterModel", "back", "(II)V"⟩, 26), (⟨"RecipeRewriterModel", "byEnd", "(I)I"⟩, 26), (⟨"RecipeRewriterModel", "compare", "()V"⟩, 26)]
theorem lw_r3 : ∀ q ∈ lw_privs_3, lw_okq q := List.forall_mem_cons.mpr ⟨lw_p32, List.forall_mem_cons.mpr ⟨lw_p33, List.forall_mem_cons.mpr ⟨lw_p34, List.forall_mem_cons.mpr ⟨lw_p35, List.forall_mem_cons.mpr ⟨lw_p36, List.forall_mem_cons.mpr ⟨lw_p37, List.forall_mem_cons.mpr ⟨lw_p38, List.forall_mem_cons.mpr ⟨lw_p39, fun _ h => absurd h List.not_mem_nil⟩⟩⟩⟩⟩⟩⟩⟩
def lw_privs : List (MethodName × Nat) := lw_privs_1 ++ (lw_privs_2 ++ (lw_privs_3))
def lw_tbl : List Cond := k2_sels lw_privs ++ tables_1
theorem lw_privs_ok : ∀ q ∈ lw_privs, lw_okq q := by
  show ∀ q ∈ lw_privs_1 ++ (lw_privs_2 ++ (lw_privs_3)), lw_okq q
  exact List.forall_mem_append.mpr ⟨lw_r1, List.forall_mem_append.mpr ⟨lw_r2, lw_r3⟩⟩
end
section
/-! Tables of the calculus, printed by wip/whole/gen_tables.py out of the claim. -/
abbrev En : Type := Nat × Nat × Jvm.ClassFile.Instr × List Nat
def hostN : String := "RecipeRewriter"
def cnT : List String := ["RecipeRewriter", "RecipeRewriter$Rule", "RecipeRewriter$Program", "RecipeRewriter$Text", "RecipeRewriter$Outline", "RecipeRewriter$Patch", "RecipeRewriterModel", "RecipeRewriterLaw"]
def cn (i : Nat) : String := (cnT[i]?).getD ""
def fT_0 : u_T := fun k => match k with
  | 0 => ("RecipeRewriter", "buffer", "[I", true)
  | 1 => ("RecipeRewriter", "bufferedCount", "I", false)
  | 2 => ("RecipeRewriter", "loaded", "[I", true)
  | 3 => ("RecipeRewriter", "loadedCount", "I", false)
  | 4 => ("RecipeRewriter", "ruleRow", "[LRecipeRewriter$Rule;", true)
  | 5 => ("RecipeRewriter", "ruleCount", "I", false)
  | 6 => ("RecipeRewriter", "program", "LRecipeRewriter$Program;", true)
  | 7 => ("RecipeRewriter", "latestCycles", "I", false)
  | _ => ("RecipeRewriter", "patch", "LRecipeRewriter$Patch;", true)
def fT_1 : u_T := fun k => match k with
  | 0 => ("RecipeRewriter$Rule", "text", "LRecipeRewriter$Text;", true)
  | 1 => ("RecipeRewriter$Rule", "arrow", "I", false)
  | 2 => ("RecipeRewriter$Rule", "holeFirsts", "[I", true)
  | _ => ("RecipeRewriter$Rule", "holeBehinds", "[I", true)
def fT_2 : u_T := fun k => match k with
  | 0 => ("RecipeRewriter$Program", "now", "LRecipeRewriter$Text;", false)
  | 1 => ("RecipeRewriter$Program", "next", "LRecipeRewriter$Text;", false)
  | 2 => ("RecipeRewriter$Program", "saved", "LRecipeRewriter$Text;", true)
  | 3 => ("RecipeRewriter$Program", "piece", "LRecipeRewriter$Text;", true)
  | 4 => ("RecipeRewriter$Program", "outline", "LRecipeRewriter$Outline;", true)
  | 5 => ("RecipeRewriter$Program", "movedTo", "[I", true)
  | _ => ("RecipeRewriter$Program", "rewritingCount", "I", false)
def fT_3 : u_T := fun k => match k with
  | 0 => ("RecipeRewriter$Text", "chars", "[I", true)
  | 1 => ("RecipeRewriter$Text", "marks", "[I", true)
  | 2 => ("RecipeRewriter$Text", "kinds", "[I", true)
  | 3 => ("RecipeRewriter$Text", "starts", "[I", true)
  | 4 => ("RecipeRewriter$Text", "ends", "[I", true)
  | 5 => ("RecipeRewriter$Text", "size", "I", false)
  | _ => ("RecipeRewriter$Text", "tokens", "I", false)
def fT_4 : u_T := fun k => match k with
  | 0 => ("RecipeRewriter$Outline", "statementKinds", "[I", true)
  | 1 => ("RecipeRewriter$Outline", "statementCount", "I", false)
  | 2 => ("RecipeRewriter$Outline", "firsts", "[I", true)
  | 3 => ("RecipeRewriter$Outline", "lasts", "[I", true)
  | 4 => ("RecipeRewriter$Outline", "callsAround", "[I", true)
  | 5 => ("RecipeRewriter$Outline", "count", "I", false)
  | _ => ("RecipeRewriter$Outline", "openCalls", "[I", true)
def fT_5 : u_T := fun k => match k with
  | 0 => ("RecipeRewriter$Patch", "costs", "[I", true)
  | 1 => ("RecipeRewriter$Patch", "steps", "[I", true)
  | 2 => ("RecipeRewriter$Patch", "stepCount", "I", false)
  | 3 => ("RecipeRewriter$Patch", "changeCount", "I", false)
  | _ => ("RecipeRewriter$Patch", "known", "Z", false)
def fT_6 : u_T := fun k => match k with
  | 0 => ("RecipeRewriterModel", "c", "[I", true)
  | 1 => ("RecipeRewriterModel", "mark", "[I", true)
  | 2 => ("RecipeRewriterModel", "length", "I", false)
  | 3 => ("RecipeRewriterModel", "loaded", "I", false)
  | 4 => ("RecipeRewriterModel", "buffered", "I", false)
  | 5 => ("RecipeRewriterModel", "rules", "I", false)
  | 6 => ("RecipeRewriterModel", "ruleLength", "[I", true)
  | 7 => ("RecipeRewriterModel", "rewritten", "I", false)
  | 8 => ("RecipeRewriterModel", "cycled", "I", false)
  | 9 => ("RecipeRewriterModel", "sort", "[I", true)
  | 10 => ("RecipeRewriterModel", "first", "[I", true)
  | 11 => ("RecipeRewriterModel", "behind", "[I", true)
  | 12 => ("RecipeRewriterModel", "last", "[I", true)
  | 13 => ("RecipeRewriterModel", "depth", "[I", true)
  | 14 => ("RecipeRewriterModel", "good", "[Z", true)
  | 15 => ("RecipeRewriterModel", "statement", "[I", true)
  | 16 => ("RecipeRewriterModel", "tokens", "I", false)
  | 17 => ("RecipeRewriterModel", "statements", "I", false)
  | 18 => ("RecipeRewriterModel", "ruleTokens", "I", false)
  | 19 => ("RecipeRewriterModel", "bound", "[I", true)
  | 20 => ("RecipeRewriterModel", "fresh", "[I", true)
  | 21 => ("RecipeRewriterModel", "freshMark", "[I", true)
  | 22 => ("RecipeRewriterModel", "freshLength", "I", false)
  | 23 => ("RecipeRewriterModel", "oldText", "[I", true)
  | 24 => ("RecipeRewriterModel", "oldMark", "[I", true)
  | _ => ("RecipeRewriterModel", "fewest", "[I", true)
def cls_ : List vw_C := [("RecipeRewriter", fT_0, 9), ("RecipeRewriter$Rule", fT_1, 4), ("RecipeRewriter$Program", fT_2, 7), ("RecipeRewriter$Text", fT_3, 7), ("RecipeRewriter$Outline", fT_4, 7), ("RecipeRewriter$Patch", fT_5, 5), ("RecipeRewriterModel", fT_6, 26)]
def lyT : List (List Nat) := [[225, 227, 229, 231, 233, 235, 237, 239, 241], [112, 114, 116, 118], [176, 178, 180, 182, 184, 186, 188], [92, 94, 96, 98, 100, 102, 104], [151, 153, 155, 157, 159, 161, 163], [205, 207, 209, 211, 213], [578, 580, 582, 584, 586, 588, 590, 592, 594, 596, 598, 600, 602, 604, 606, 608, 610, 612, 614, 616, 618, 620, 622, 624, 626, 628]]
def clW : List (Nat × Nat) := [(51, 41), (60, 42), (122, 44), (66, 43), (130, 45), (192, 46), (547, 47)]
def ciRule : Nat := 1
def tyF (ci k : Nat) : FieldType := match cls_[ci]? with
  | some q => (parseFieldDescriptor (q.2.1 k).2.2.1).getD .int
  | none => .int
def kdT : List (Nat × Nat) := [(9, 0), (9, 0), (0, 0), (1, 60), (1, 60), (3, 6), (0, 1), (0, 3), (1, 60), (1, 60), (1, 60), (1, 60), (1, 60), (1, 10), (1, 10), (0, 1), (0, 3), (1, 60), (1, 60), (1, 60), (1, 60), (1, 60), (1, 10), (1, 10), (0, 1), (0, 3), (1, 60), (1, 60), (1, 60), (1, 60), (1, 60), (1, 10), (1, 10), (0, 1), (0, 3), (1, 60), (1, 60), (1, 60), (1, 60), (1, 60), (1, 10), (1, 10), (0, 1), (0, 3), (1, 60), (1, 60), (1, 60), (1, 60), (1, 60), (1, 10), (1, 10), (0, 1), (0, 3), (1, 60), (1, 60), (1, 60), (1, 60), (1, 60), (1, 10), (1, 10), (0, 2), (0, 3), (1, 120), (1, 120), (1, 120), (1, 120), (1, 120), (0, 3), (1, 120), (1, 120), (1, 120), (1, 120), (1, 120), (0, 3), (1, 120), (1, 120), (1, 120), (1, 120), (1, 120), (0, 3), (1, 120), (1, 120), (1, 120), (1, 120), (1, 120), (0, 4), (1, 120), (1, 120), (1, 120), (1, 120), (1, 12), (1, 120), (0, 5), (1, 7381), (1, 180), (0, 6), (1, 640), (1, 128), (1, 6), (1, 192), (1, 192), (1, 192), (1, 192), (1, 192), (2, 128), (1, 128), (1, 10), (1, 128), (1, 128), (1, 128), (1, 128), (1, 7381)]
def kd (n : Nat) : Nat × Nat := (kdT[n]?).getD (9, 0)
theorem kd_0 : kd 0 = (9, 0) := rfl
theorem kd_1 : kd 1 = (9, 0) := rfl
def mT : List (MethodName × ByteArray × Nat × Option FieldType × Nat × Nat × Nat) := [
  (⟨"RecipeRewriter", "<init>", "()V"⟩, prog_1_method_1_code, 2, none, 0, 1, 0),
  (⟨"RecipeRewriter$Rule", "<init>", "()V"⟩, prog_5_method_1_code, 1, none, 0, 1, 1),
  (⟨"RecipeRewriter$Text", "<init>", "(I)V"⟩, prog_6_method_1_code, 2, none, 1, 1, 3),
  (⟨"RecipeRewriter$Program", "<init>", "()V"⟩, prog_4_method_1_code, 1, none, 0, 1, 2),
  (⟨"RecipeRewriter$Outline", "<init>", "(I)V"⟩, prog_2_method_1_code, 2, none, 1, 1, 4),
  (⟨"RecipeRewriter$Patch", "<init>", "()V"⟩, prog_3_method_1_code, 1, none, 0, 1, 5),
  (⟨"RecipeRewriter", "type", "(I)Z"⟩, prog_1_method_2_code, 3, some .boolean, 1, 0, 0),
  (⟨"RecipeRewriter", "clear", "()V"⟩, prog_1_method_3_code, 1, none, 0, 0, 0),
  (⟨"RecipeRewriter", "buffered", "()I"⟩, prog_1_method_4_code, 1, some .int, 0, 0, 0),
  (⟨"RecipeRewriter", "load", "()I"⟩, prog_1_method_5_code, 1, some .int, 0, 0, 0),
  (⟨"RecipeRewriter$Program", "become", "([II)V"⟩, prog_4_method_2_code, 4, none, 2, 0, 2),
  (⟨"RecipeRewriter$Text", "become", "([II)V"⟩, prog_6_method_3_code, 3, none, 2, 0, 3),
  (⟨"RecipeRewriter$Text", "empty", "()V"⟩, prog_6_method_2_code, 1, none, 0, 0, 3),
  (⟨"RecipeRewriter$Text", "markSpan", "(III)V"⟩, prog_6_method_5_code, 5, none, 3, 0, 3),
  (⟨"RecipeRewriter$Text", "findTokens", "()V"⟩, prog_6_method_6_code, 5, none, 0, 0, 3),
  (⟨"RecipeRewriter$Text", "behindComment", "(I)I"⟩, prog_6_method_7_code, 3, some .int, 1, 0, 3),
  (⟨"RecipeRewriter$Text", "tokenKind", "(I)I"⟩, prog_6_method_8_code, 3, some .int, 1, 0, 3),
  (⟨"RecipeRewriter$Text", "isLetter", "(I)Z"⟩, prog_6_method_11_code, 1, some .boolean, 1, 2, 3),
  (⟨"RecipeRewriter$Text", "isDigit", "(I)Z"⟩, prog_6_method_12_code, 1, some .boolean, 1, 2, 3),
  (⟨"RecipeRewriter$Text", "behindToken", "(II)I"⟩, prog_6_method_9_code, 4, some .int, 2, 0, 3),
  (⟨"RecipeRewriter$Text", "goesOn", "(II)Z"⟩, prog_6_method_10_code, 2, some .boolean, 2, 2, 3),
  (⟨"RecipeRewriter$Outline", "become", "(LRecipeRewriter$Text;)V"⟩, prog_2_method_2_code, 4, none, 1, 0, 4),
  (⟨"RecipeRewriter$Text", "kindAt", "(I)I"⟩, prog_6_method_13_code, 2, some .int, 1, 0, 3),
  (⟨"RecipeRewriter$Outline", "readStatement", "(LRecipeRewriter$Text;II)I"⟩, prog_2_method_4_code, 4, some .int, 3, 0, 4),
  (⟨"RecipeRewriter$Text", "behindExpression", "(II)I"⟩, prog_6_method_17_code, 4, some .int, 2, 0, 3),
  (⟨"RecipeRewriter$Text", "isCallName", "(I)Z"⟩, prog_6_method_16_code, 2, some .boolean, 1, 0, 3),
  (⟨"RecipeRewriter$Text", "behindArguments", "(II)I"⟩, prog_6_method_18_code, 7, some .int, 2, 0, 3),
  (⟨"RecipeRewriter$Outline", "hasHole", "(LRecipeRewriter$Text;II)Z"⟩, prog_2_method_5_code, 4, some .boolean, 3, 2, 4),
  (⟨"RecipeRewriter$Text", "isHole", "(I)Z"⟩, prog_6_method_14_code, 2, some .boolean, 1, 0, 3),
  (⟨"RecipeRewriter$Outline", "addExpressions", "(LRecipeRewriter$Text;II)V"⟩, prog_2_method_6_code, 7, none, 3, 0, 4),
  (⟨"RecipeRewriter$Outline", "addExpression", "(III)V"⟩, prog_2_method_7_code, 4, none, 3, 0, 4),
  (⟨"RecipeRewriter$Outline", "addStatement", "(I)V"⟩, prog_2_method_3_code, 2, none, 1, 0, 4),
  (⟨"RecipeRewriter$Patch", "forget", "()V"⟩, prog_3_method_2_code, 1, none, 0, 0, 5),
  (⟨"RecipeRewriter", "rule", "()I"⟩, prog_1_method_6_code, 1, some .int, 0, 0, 0),
  (⟨"RecipeRewriter$Rule", "become", "([II)Z"⟩, prog_5_method_2_code, 3, some .boolean, 2, 0, 1),
  (⟨"RecipeRewriter$Rule", "knowsTemplateHoles", "()Z"⟩, prog_5_method_3_code, 4, some .boolean, 0, 0, 1),
  (⟨"RecipeRewriter$Text", "digitOf", "(I)I"⟩, prog_6_method_15_code, 2, some .int, 1, 0, 3),
  (⟨"RecipeRewriter", "rules", "()I"⟩, prog_1_method_7_code, 1, some .int, 0, 0, 0),
  (⟨"RecipeRewriter", "run", "(I)I"⟩, prog_1_method_8_code, 7, some .int, 1, 0, 0),
  (⟨"RecipeRewriter$Program", "save", "()V"⟩, prog_4_method_3_code, 1, none, 0, 0, 2),
  (⟨"RecipeRewriter$Text", "becomeCopy", "(LRecipeRewriter$Text;)V"⟩, prog_6_method_4_code, 2, none, 1, 0, 3),
  (⟨"RecipeRewriter$Program", "cycle", "([LRecipeRewriter$Rule;I)Z"⟩, prog_4_method_6_code, 4, some .boolean, 2, 0, 2),
  (⟨"RecipeRewriter$Program", "pass", "(LRecipeRewriter$Rule;)Z"⟩, prog_4_method_7_code, 7, some .boolean, 1, 0, 2),
  (⟨"RecipeRewriter$Text", "appendSpace", "(LRecipeRewriter$Text;I)V"⟩, prog_6_method_24_code, 5, none, 2, 0, 3),
  (⟨"RecipeRewriter$Text", "appendCharacters", "(LRecipeRewriter$Text;II)V"⟩, prog_6_method_25_code, 5, none, 3, 0, 3),
  (⟨"RecipeRewriter$Text", "appendSpan", "(LRecipeRewriter$Text;II)V"⟩, prog_6_method_23_code, 7, none, 3, 0, 3),
  (⟨"RecipeRewriter$Text", "spanSize", "(II)I"⟩, prog_6_method_22_code, 3, some .int, 2, 0, 3),
  (⟨"RecipeRewriter$Outline", "endsWith", "(II)Z"⟩, prog_2_method_8_code, 3, some .boolean, 2, 0, 4),
  (⟨"RecipeRewriter$Rule", "matches", "(LRecipeRewriter$Text;II)Z"⟩, prog_5_method_4_code, 6, some .boolean, 3, 0, 1),
  (⟨"RecipeRewriter$Rule", "behindHole", "(ILRecipeRewriter$Text;I)I"⟩, prog_5_method_5_code, 8, some .int, 3, 0, 1),
  (⟨"RecipeRewriter$Text", "sameTokens", "(III)Z"⟩, prog_6_method_21_code, 5, some .boolean, 3, 0, 3),
  (⟨"RecipeRewriter$Text", "sameToken", "(ILRecipeRewriter$Text;I)Z"⟩, prog_6_method_20_code, 6, some .boolean, 3, 0, 3),
  (⟨"RecipeRewriter$Program", "rewrite", "(LRecipeRewriter$Rule;III)Z"⟩, prog_4_method_8_code, 5, some .boolean, 4, 0, 2),
  (⟨"RecipeRewriter$Rule", "filledSize", "(LRecipeRewriter$Text;)I"⟩, prog_5_method_6_code, 5, some .int, 1, 0, 1),
  (⟨"RecipeRewriter$Rule", "fill", "(LRecipeRewriter$Text;LRecipeRewriter$Text;I)V"⟩, prog_5_method_7_code, 6, none, 3, 0, 1),
  (⟨"RecipeRewriter$Text", "deepestNesting", "()I"⟩, prog_6_method_19_code, 4, some .int, 0, 0, 3),
  (⟨"RecipeRewriter$Text", "cutAt", "(I)V"⟩, prog_6_method_26_code, 2, none, 1, 0, 3),
  (⟨"RecipeRewriter$Program", "restore", "(I)V"⟩, prog_4_method_4_code, 2, none, 1, 0, 2),
  (⟨"RecipeRewriter", "cycles", "()I"⟩, prog_1_method_9_code, 1, some .int, 0, 0, 0),
  (⟨"RecipeRewriter", "rewritings", "()I"⟩, prog_1_method_10_code, 1, some .int, 0, 0, 0),
  (⟨"RecipeRewriter", "length", "()I"⟩, prog_1_method_11_code, 1, some .int, 0, 0, 0),
  (⟨"RecipeRewriter", "at", "(I)I"⟩, prog_1_method_12_code, 2, some .int, 1, 0, 0),
  (⟨"RecipeRewriter", "mark", "(I)I"⟩, prog_1_method_13_code, 2, some .int, 1, 0, 0),
  (⟨"RecipeRewriter", "statements", "()I"⟩, prog_1_method_14_code, 1, some .int, 0, 0, 0),
  (⟨"RecipeRewriter", "kind", "(I)I"⟩, prog_1_method_15_code, 2, some .int, 1, 0, 0),
  (⟨"RecipeRewriter", "expressions", "()I"⟩, prog_1_method_16_code, 1, some .int, 0, 0, 0),
  (⟨"RecipeRewriter", "start", "(I)I"⟩, prog_1_method_17_code, 2, some .int, 1, 0, 0),
  (⟨"RecipeRewriter", "end", "(I)I"⟩, prog_1_method_18_code, 2, some .int, 1, 0, 0),
  (⟨"RecipeRewriter", "fits", "(I)I"⟩, prog_1_method_19_code, 2, some .int, 1, 0, 0),
  (⟨"RecipeRewriter$Program", "countFitting", "(LRecipeRewriter$Rule;)I"⟩, prog_4_method_5_code, 4, some .int, 1, 0, 2),
  (⟨"RecipeRewriter", "distance", "()I"⟩, prog_1_method_20_code, 1, some .int, 0, 0, 0),
  (⟨"RecipeRewriter$Patch", "trace", "([IILRecipeRewriter$Text;)V"⟩, prog_3_method_3_code, 4, none, 3, 0, 5),
  (⟨"RecipeRewriter$Patch", "weigh", "([IILRecipeRewriter$Text;)V"⟩, prog_3_method_4_code, 8, none, 3, 0, 5),
  (⟨"RecipeRewriter$Patch", "walk", "([IILRecipeRewriter$Text;)V"⟩, prog_3_method_5_code, 8, none, 3, 0, 5),
  (⟨"RecipeRewriter$Patch", "deletes", "(II)Z"⟩, prog_3_method_6_code, 3, some .boolean, 2, 0, 5),
  (⟨"RecipeRewriter", "step", "(I)I"⟩, prog_1_method_21_code, 2, some .int, 1, 0, 0),
  (⟨"RecipeRewriterModel", "<init>", "()V"⟩, prog_8_method_1_code, 1, none, 0, 1, 6),
  (⟨"RecipeRewriterModel", "type", "(I)Z"⟩, prog_8_method_15_code, 2, some .boolean, 1, 0, 6),
  (⟨"RecipeRewriterModel", "clear", "()V"⟩, prog_8_method_16_code, 1, none, 0, 0, 6),
  (⟨"RecipeRewriterModel", "buffered", "()I"⟩, prog_8_method_17_code, 1, some .int, 0, 0, 6),
  (⟨"RecipeRewriterModel", "load", "()I"⟩, prog_8_method_18_code, 2, some .int, 0, 0, 6),
  (⟨"RecipeRewriterModel", "read", "()V"⟩, prog_8_method_10_code, 5, none, 0, 0, 6),
  (⟨"RecipeRewriterModel", "tokenise", "(III)I"⟩, prog_8_method_7_code, 8, some .int, 3, 0, 6),
  (⟨"RecipeRewriterModel", "sortAt", "(II)I"⟩, prog_8_method_5_code, 4, some .int, 2, 0, 6),
  (⟨"RecipeRewriterModel", "letter", "(I)Z"⟩, prog_8_method_2_code, 1, some .boolean, 1, 2, 6),
  (⟨"RecipeRewriterModel", "figure", "(I)Z"⟩, prog_8_method_3_code, 1, some .boolean, 1, 2, 6),
  (⟨"RecipeRewriterModel", "mere", "(I)Z"⟩, prog_8_method_4_code, 1, some .boolean, 1, 2, 6),
  (⟨"RecipeRewriterModel", "endAt", "(III)I"⟩, prog_8_method_6_code, 5, some .int, 3, 0, 6),
  (⟨"RecipeRewriterModel", "structure", "(II)V"⟩, prog_8_method_8_code, 6, none, 2, 0, 6),
  (⟨"RecipeRewriterModel", "called", "(III)V"⟩, prog_8_method_9_code, 8, none, 3, 0, 6),
  (⟨"RecipeRewriterModel", "rule", "()I"⟩, prog_8_method_21_code, 2, some .int, 0, 0, 6),
  (⟨"RecipeRewriterModel", "readRule", "(II)V"⟩, prog_8_method_19_code, 3, none, 2, 0, 6),
  (⟨"RecipeRewriterModel", "isRule", "()Z"⟩, prog_8_method_20_code, 6, some .boolean, 0, 0, 6),
  (⟨"RecipeRewriterModel", "sameToken", "(II)Z"⟩, prog_8_method_13_code, 4, some .boolean, 2, 0, 6),
  (⟨"RecipeRewriterModel", "rules", "()I"⟩, prog_8_method_22_code, 1, some .int, 0, 0, 6),
  (⟨"RecipeRewriterModel", "run", "(I)I"⟩, prog_8_method_30_code, 8, some .int, 1, 0, 6),
  (⟨"RecipeRewriterModel", "pass", "(I)Z"⟩, prog_8_method_29_code, 6, some .boolean, 1, 0, 6),
  (⟨"RecipeRewriterModel", "nextBehind", "(I)I"⟩, prog_8_method_28_code, 4, some .int, 1, 0, 6),
  (⟨"RecipeRewriterModel", "begins", "(I)Z"⟩, prog_8_method_11_code, 2, some .boolean, 1, 0, 6),
  (⟨"RecipeRewriterModel", "spanEnd", "(I)I"⟩, prog_8_method_12_code, 2, some .int, 1, 0, 6),
  (⟨"RecipeRewriterModel", "fitsAt", "(I)Z"⟩, prog_8_method_23_code, 5, some .boolean, 1, 0, 6),
  (⟨"RecipeRewriterModel", "sameTokens", "(II)Z"⟩, prog_8_method_14_code, 4, some .boolean, 2, 0, 6),
  (⟨"RecipeRewriterModel", "rewrite", "(I)Z"⟩, prog_8_method_27_code, 5, some .boolean, 1, 0, 6),
  (⟨"RecipeRewriterModel", "layOut", "(I)V"⟩, prog_8_method_25_code, 6, none, 1, 0, 6),
  (⟨"RecipeRewriterModel", "put", "(II)V"⟩, prog_8_method_24_code, 3, none, 2, 0, 6),
  (⟨"RecipeRewriterModel", "putIn", "(II)V"⟩, prog_8_method_26_code, 6, none, 2, 0, 6),
  (⟨"RecipeRewriterModel", "back", "(II)V"⟩, prog_8_method_31_code, 4, none, 2, 0, 6),
  (⟨"RecipeRewriterModel", "cycles", "()I"⟩, prog_8_method_32_code, 1, some .int, 0, 0, 6),
  (⟨"RecipeRewriterModel", "rewritings", "()I"⟩, prog_8_method_33_code, 1, some .int, 0, 0, 6),
  (⟨"RecipeRewriterModel", "length", "()I"⟩, prog_8_method_34_code, 1, some .int, 0, 0, 6),
  (⟨"RecipeRewriterModel", "at", "(I)I"⟩, prog_8_method_35_code, 2, some .int, 1, 0, 6),
  (⟨"RecipeRewriterModel", "mark", "(I)I"⟩, prog_8_method_36_code, 4, some .int, 1, 0, 6),
  (⟨"RecipeRewriterModel", "statements", "()I"⟩, prog_8_method_37_code, 1, some .int, 0, 0, 6),
  (⟨"RecipeRewriterModel", "kind", "(I)I"⟩, prog_8_method_38_code, 3, some .int, 1, 0, 6),
  (⟨"RecipeRewriterModel", "expressions", "()I"⟩, prog_8_method_39_code, 3, some .int, 0, 0, 6),
  (⟨"RecipeRewriterModel", "start", "(I)I"⟩, prog_8_method_41_code, 3, some .int, 1, 0, 6),
  (⟨"RecipeRewriterModel", "byEnd", "(I)I"⟩, prog_8_method_40_code, 5, some .int, 1, 0, 6),
  (⟨"RecipeRewriterModel", "end", "(I)I"⟩, prog_8_method_42_code, 3, some .int, 1, 0, 6),
  (⟨"RecipeRewriterModel", "fits", "(I)I"⟩, prog_8_method_43_code, 4, some .int, 1, 0, 6),
  (⟨"RecipeRewriterModel", "distance", "()I"⟩, prog_8_method_45_code, 1, some .int, 0, 0, 6),
  (⟨"RecipeRewriterModel", "compare", "()V"⟩, prog_8_method_44_code, 7, none, 0, 0, 6),
  (⟨"RecipeRewriterModel", "step", "(I)I"⟩, prog_8_method_46_code, 8, some .int, 1, 0, 6),
  (⟨"RecipeRewriterLaw", "law", "([I)Z"⟩, code, 4, some .boolean, 1, 2, 7)]
def nM : Nat := 123
def nC : Nat := 122
abbrev m_RR_init : Nat := 0
abbrev m_Rule_init : Nat := 1
abbrev m_Text_init : Nat := 2
abbrev m_Program_init : Nat := 3
abbrev m_Outline_init : Nat := 4
abbrev m_Patch_init : Nat := 5
abbrev m_RR_type : Nat := 6
abbrev m_RR_clear : Nat := 7
abbrev m_RR_buffered : Nat := 8
abbrev m_RR_load : Nat := 9
abbrev m_Program_become : Nat := 10
abbrev m_Text_become : Nat := 11
abbrev m_Text_empty : Nat := 12
abbrev m_Text_markSpan : Nat := 13
abbrev m_Text_findTokens : Nat := 14
abbrev m_Text_behindComment : Nat := 15
abbrev m_Text_tokenKind : Nat := 16
abbrev m_Text_isLetter : Nat := 17
abbrev m_Text_isDigit : Nat := 18
abbrev m_Text_behindToken : Nat := 19
abbrev m_Text_goesOn : Nat := 20
abbrev m_Outline_become : Nat := 21
abbrev m_Text_kindAt : Nat := 22
abbrev m_Outline_readStatement : Nat := 23
abbrev m_Text_behindExpression : Nat := 24
abbrev m_Text_isCallName : Nat := 25
abbrev m_Text_behindArguments : Nat := 26
abbrev m_Outline_hasHole : Nat := 27
abbrev m_Text_isHole : Nat := 28
abbrev m_Outline_addExpressions : Nat := 29
abbrev m_Outline_addExpression : Nat := 30
abbrev m_Outline_addStatement : Nat := 31
abbrev m_Patch_forget : Nat := 32
abbrev m_RR_rule : Nat := 33
abbrev m_Rule_become : Nat := 34
abbrev m_Rule_knowsTemplateHoles : Nat := 35
abbrev m_Text_digitOf : Nat := 36
abbrev m_RR_rules : Nat := 37
abbrev m_RR_run : Nat := 38
abbrev m_Program_save : Nat := 39
abbrev m_Text_becomeCopy : Nat := 40
abbrev m_Program_cycle : Nat := 41
abbrev m_Program_pass : Nat := 42
abbrev m_Text_appendSpace : Nat := 43
abbrev m_Text_appendCharacters : Nat := 44
abbrev m_Text_appendSpan : Nat := 45
abbrev m_Text_spanSize : Nat := 46
abbrev m_Outline_endsWith : Nat := 47
abbrev m_Rule_matches : Nat := 48
abbrev m_Rule_behindHole : Nat := 49
abbrev m_Text_sameTokens : Nat := 50
abbrev m_Text_sameToken : Nat := 51
abbrev m_Program_rewrite : Nat := 52
abbrev m_Rule_filledSize : Nat := 53
abbrev m_Rule_fill : Nat := 54
abbrev m_Text_deepestNesting : Nat := 55
abbrev m_Text_cutAt : Nat := 56
abbrev m_Program_restore : Nat := 57
abbrev m_RR_cycles : Nat := 58
abbrev m_RR_rewritings : Nat := 59
abbrev m_RR_length : Nat := 60
abbrev m_RR_at : Nat := 61
abbrev m_RR_mark : Nat := 62
abbrev m_RR_statements : Nat := 63
abbrev m_RR_kind : Nat := 64
abbrev m_RR_expressions : Nat := 65
abbrev m_RR_start : Nat := 66
abbrev m_RR_end : Nat := 67
abbrev m_RR_fits : Nat := 68
abbrev m_Program_countFitting : Nat := 69
abbrev m_RR_distance : Nat := 70
abbrev m_Patch_trace : Nat := 71
abbrev m_Patch_weigh : Nat := 72
abbrev m_Patch_walk : Nat := 73
abbrev m_Patch_deletes : Nat := 74
abbrev m_RR_step : Nat := 75
abbrev m_Model_init : Nat := 76
abbrev m_Model_type : Nat := 77
abbrev m_Model_clear : Nat := 78
abbrev m_Model_buffered : Nat := 79
abbrev m_Model_load : Nat := 80
abbrev m_Model_read : Nat := 81
abbrev m_Model_tokenise : Nat := 82
abbrev m_Model_sortAt : Nat := 83
abbrev m_Model_letter : Nat := 84
abbrev m_Model_figure : Nat := 85
abbrev m_Model_mere : Nat := 86
abbrev m_Model_endAt : Nat := 87
abbrev m_Model_structure : Nat := 88
abbrev m_Model_called : Nat := 89
abbrev m_Model_rule : Nat := 90
abbrev m_Model_readRule : Nat := 91
abbrev m_Model_isRule : Nat := 92
abbrev m_Model_sameToken : Nat := 93
abbrev m_Model_rules : Nat := 94
abbrev m_Model_run : Nat := 95
abbrev m_Model_pass : Nat := 96
abbrev m_Model_nextBehind : Nat := 97
abbrev m_Model_begins : Nat := 98
abbrev m_Model_spanEnd : Nat := 99
abbrev m_Model_fitsAt : Nat := 100
abbrev m_Model_sameTokens : Nat := 101
abbrev m_Model_rewrite : Nat := 102
abbrev m_Model_layOut : Nat := 103
abbrev m_Model_put : Nat := 104
abbrev m_Model_putIn : Nat := 105
abbrev m_Model_back : Nat := 106
abbrev m_Model_cycles : Nat := 107
abbrev m_Model_rewritings : Nat := 108
abbrev m_Model_length : Nat := 109
abbrev m_Model_at : Nat := 110
abbrev m_Model_mark : Nat := 111
abbrev m_Model_statements : Nat := 112
abbrev m_Model_kind : Nat := 113
abbrev m_Model_expressions : Nat := 114
abbrev m_Model_start : Nat := 115
abbrev m_Model_byEnd : Nat := 116
abbrev m_Model_end : Nat := 117
abbrev m_Model_fits : Nat := 118
abbrev m_Model_distance : Nat := 119
abbrev m_Model_compare : Nat := 120
abbrev m_Model_step : Nat := 121
abbrev m_Law_law : Nat := 122
def mE (y : Nat) : MethodName × ByteArray × Nat × Option FieldType × Nat × Nat × Nat := (mT[y]?).getD (⟨"", "", ""⟩, ⟨#[]⟩, 0, none, 0, 0, 0)
def mN (y : Nat) : MethodName := (mE y).1
def mB (y : Nat) : ByteArray := (mE y).2.1
def mX (y : Nat) : Nat := (mE y).2.2.1
def mR (y : Nat) : Option FieldType := (mE y).2.2.2.1
def mA (y : Nat) : Nat := (mE y).2.2.2.2.1
def mK (y : Nat) : Nat := (mE y).2.2.2.2.2.1
def mO (y : Nat) : Nat := (mE y).2.2.2.2.2.2
def flT : List (Nat × Nat × Nat × Nat × Nat × Nat) := [(0, 9, 0, 0, 0, 216), (0, 13, 0, 1, 0, 217), (0, 17, 0, 2, 0, 218), (0, 20, 0, 3, 0, 219), (0, 25, 0, 4, 0, 220), (0, 30, 0, 5, 0, 221), (0, 36, 0, 6, 0, 222), (0, 40, 0, 7, 0, 223), (0, 46, 0, 8, 0, 224), (1, 14, 1, 0, 0, 108), (1, 20, 1, 1, 0, 109), (1, 24, 1, 2, 0, 110), (1, 28, 1, 3, 0, 111), (3, 9, 3, 0, 0, 71), (3, 15, 3, 1, 0, 74), (3, 18, 3, 2, 0, 76), (3, 21, 3, 3, 0, 77), (3, 24, 3, 4, 0, 80), (3, 27, 3, 5, 0, 83), (3, 31, 3, 6, 0, 88), (2, 14, 2, 0, 0, 166), (2, 20, 2, 1, 0, 168), (2, 23, 2, 2, 0, 169), (2, 26, 2, 3, 0, 170), (2, 32, 2, 4, 0, 171), (2, 36, 2, 5, 0, 173), (2, 40, 2, 6, 0, 174), (4, 9, 4, 0, 0, 135), (4, 15, 4, 1, 0, 137), (4, 19, 4, 2, 0, 139), (4, 22, 4, 3, 0, 142), (4, 25, 4, 4, 0, 145), (4, 28, 4, 5, 0, 147), (4, 31, 4, 6, 0, 150), (5, 11, 5, 0, 0, 197), (5, 15, 5, 1, 0, 198), (5, 18, 5, 2, 0, 200), (5, 22, 5, 3, 0, 202), (5, 25, 5, 4, 0, 204), (0, 63, 2, 4, 1, 172), (0, 67, 4, 1, 1, 138), (2, 51, 4, 5, 1, 148), (2, 54, 3, 3, 1, 78), (2, 57, 4, 2, 1, 140), (2, 60, 3, 4, 1, 81), (2, 63, 4, 3, 1, 143), (4, 34, 3, 6, 1, 89), (1, 43, 3, 6, 1, 90), (0, 75, 2, 6, 1, 175), (2, 86, 3, 6, 1, 91), (2, 101, 3, 5, 1, 86), (2, 104, 4, 4, 1, 146), (1, 75, 3, 5, 1, 85), (0, 89, 2, 0, 1, 167), (0, 93, 3, 5, 1, 87), (0, 98, 3, 0, 1, 73), (0, 101, 3, 1, 1, 75), (0, 104, 4, 0, 1, 136), (0, 107, 4, 5, 1, 149), (0, 110, 3, 3, 1, 79), (0, 113, 4, 2, 1, 141), (0, 116, 3, 4, 1, 82), (0, 119, 4, 3, 1, 144), (0, 130, 5, 3, 1, 203), (5, 29, 3, 5, 1, 84), (5, 41, 3, 0, 1, 72), (0, 133, 5, 2, 1, 201), (0, 136, 5, 1, 1, 199), (6, 7, 6, 0, 0, 552), (6, 13, 6, 1, 0, 553), (6, 16, 6, 6, 0, 558), (6, 19, 6, 9, 0, 561), (6, 22, 6, 10, 0, 562), (6, 25, 6, 11, 0, 563), (6, 28, 6, 12, 0, 564), (6, 31, 6, 13, 0, 565), (6, 34, 6, 14, 0, 566), (6, 38, 6, 15, 0, 567), (6, 41, 6, 19, 0, 571), (6, 44, 6, 20, 0, 572), (6, 47, 6, 21, 0, 573), (6, 50, 6, 23, 0, 575), (6, 53, 6, 24, 0, 576), (6, 56, 6, 25, 0, 577), (6, 102, 6, 4, 0, 556), (6, 81, 6, 2, 0, 554), (6, 105, 6, 3, 0, 555), (6, 108, 6, 7, 0, 559), (6, 111, 6, 8, 0, 560), (6, 95, 6, 17, 0, 569), (6, 88, 6, 16, 0, 568), (6, 120, 6, 5, 0, 557), (6, 117, 6, 18, 0, 570), (6, 136, 6, 22, 0, 574)]
def mlT : List (Nat × Nat × Nat × Nat × Nat) := [(0, 29, 1, 0, 61), (0, 35, 3, 0, 123), (0, 45, 5, 0, 193), (1, 11, 2, 0, 67), (2, 11, 2, 0, 128), (2, 31, 4, 0, 131), (0, 56, 10, 0, 263), (0, 60, 32, 0, 358), (2, 44, 11, 0, 267), (2, 48, 21, 0, 311), (2, 66, 13, 0, 357), (3, 34, 12, 0, 271), (3, 52, 13, 0, 282), (3, 56, 14, 0, 286), (3, 59, 15, 0, 290), (3, 63, 16, 0, 294), (3, 66, 19, 0, 304), (3, 69, 17, 0, 298), (3, 73, 18, 0, 301), (3, 76, 20, 0, 308), (4, 39, 22, 0, 315), (4, 43, 23, 0, 319), (4, 47, 31, 0, 353), (4, 51, 24, 1, 323), (4, 55, 27, 0, 337), (4, 59, 29, 0, 344), (4, 63, 25, 0, 348), (3, 80, 22, 0, 327), (3, 83, 25, 0, 328), (3, 86, 26, 0, 332), (3, 89, 24, 0, 336), (4, 67, 28, 0, 340), (4, 70, 30, 0, 349), (0, 72, 34, 0, 366), (1, 31, 11, 0, 370), (1, 35, 24, 1, 371), (1, 39, 22, 0, 372), (1, 46, 35, 0, 373), (1, 50, 28, 0, 377), (1, 54, 36, 0, 378), (0, 78, 39, 0, 390), (0, 81, 41, 0, 398), (0, 85, 57, 0, 469), (2, 70, 40, 0, 394), (2, 79, 42, 0, 402), (2, 83, 12, 0, 406), (2, 89, 43, 0, 407), (2, 93, 45, 0, 415), (2, 97, 47, 0, 423), (2, 73, 48, 0, 427), (2, 107, 52, 0, 444), (3, 99, 44, 0, 411), (3, 96, 46, 0, 419), (1, 57, 49, 0, 431), (1, 61, 51, 0, 443), (1, 65, 50, 0, 435), (3, 92, 51, 0, 439), (2, 111, 53, 0, 448), (2, 115, 54, 0, 453), (2, 119, 55, 0, 461), (2, 123, 56, 0, 465), (1, 69, 46, 0, 452), (1, 72, 12, 0, 457), (1, 78, 13, 0, 458), (1, 82, 43, 0, 459), (1, 86, 45, 0, 460), (0, 122, 69, 0, 517), (0, 126, 71, 0, 525), (5, 34, 72, 0, 529), (5, 38, 73, 0, 534), (5, 50, 74, 0, 538), (6, 114, 81, 0, 648), (6, 85, 82, 0, 652), (6, 91, 88, 0, 673), (6, 69, 83, 0, 656), (6, 73, 87, 0, 669), (6, 59, 84, 0, 660), (6, 63, 85, 0, 663), (6, 66, 86, 0, 666), (6, 77, 89, 0, 677), (6, 123, 91, 0, 685), (6, 126, 92, 0, 689), (6, 98, 93, 0, 693), (6, 162, 96, 0, 705), (6, 165, 106, 0, 745), (6, 153, 97, 0, 709), (6, 142, 99, 0, 717), (6, 156, 100, 0, 721), (6, 159, 102, 0, 729), (6, 130, 98, 0, 713), (6, 133, 101, 0, 725), (6, 146, 103, 0, 733), (6, 150, 105, 0, 741), (6, 139, 104, 0, 737), (6, 168, 116, 0, 785), (6, 171, 120, 0, 801), (7, 9, 0, 0, 52), (7, 12, 76, 0, 548), (7, 13, 6, 0, 244), (7, 17, 77, 0, 632), (7, 18, 7, 0, 248), (7, 21, 78, 0, 636), (7, 22, 8, 0, 252), (7, 26, 79, 0, 640), (7, 27, 9, 0, 256), (7, 30, 80, 0, 644), (7, 31, 33, 0, 362), (7, 34, 90, 0, 681), (7, 35, 37, 0, 382), (7, 38, 94, 0, 697), (7, 39, 38, 0, 386), (7, 43, 95, 0, 701), (7, 44, 58, 0, 473), (7, 47, 107, 0, 749), (7, 48, 59, 0, 477), (7, 51, 108, 0, 753), (7, 52, 60, 0, 481), (7, 55, 109, 0, 757), (7, 56, 61, 0, 485), (7, 59, 110, 0, 761), (7, 60, 62, 0, 489), (7, 63, 111, 0, 765), (7, 64, 63, 0, 493), (7, 67, 112, 0, 769), (7, 68, 64, 0, 497), (7, 71, 113, 0, 773), (7, 72, 65, 0, 501), (7, 75, 114, 0, 777), (7, 76, 66, 0, 505), (7, 79, 115, 0, 781), (7, 80, 67, 0, 509), (7, 83, 117, 0, 789), (7, 84, 68, 0, 513), (7, 87, 118, 0, 793), (7, 88, 70, 0, 521), (7, 91, 119, 0, 797), (7, 92, 75, 0, 542), (7, 95, 121, 0, 805)]
def clT : List (Nat × Nat × Nat × Nat) := [(0, 23, 1, 58), (0, 33, 2, 121), (0, 43, 5, 191), (1, 9, 3, 65), (2, 9, 3, 127), (2, 29, 4, 129), (7, 7, 0, 50), (7, 10, 6, 546)]
def jlT : List (Nat × Nat × Nat × Nat) := [(0, 1, 0, 55), (1, 3, 0, 64), (3, 3, 0, 70), (2, 3, 0, 126), (4, 3, 0, 134), (5, 3, 0, 196), (0, 50, 3, 260), (3, 37, 2, 275), (3, 43, 1, 278), (3, 46, 3, 281), (5, 44, 2, 533), (6, 1, 0, 551)]
def jN (w : Nat) : MethodName := match w with
  | 0 => objectInit
  | 1 => Lib.Math.max.name
  | 2 => Lib.Math.min.name
  | _ => arraycopyName
def mW : List (Nat × Nat × Nat × Nat) := [(54, 41, 53, 0), (63, 42, 62, 0), (69, 43, 68, 0), (125, 44, 124, 0), (133, 45, 132, 0), (195, 46, 194, 0), (247, 41, 245, 246), (251, 41, 249, 250), (255, 41, 253, 254), (259, 41, 257, 258), (266, 44, 264, 265), (270, 43, 268, 269), (274, 43, 272, 273), (285, 43, 283, 284), (289, 43, 288, 0), (293, 43, 292, 1), (297, 43, 296, 2), (300, 43, 299, 0), (303, 43, 302, 0), (307, 43, 306, 3), (310, 43, 309, 0), (314, 45, 312, 313), (318, 43, 316, 317), (322, 45, 321, 4), (326, 43, 325, 5), (331, 43, 329, 330), (335, 43, 334, 6), (339, 45, 338, 0), (343, 43, 341, 342), (347, 45, 346, 7), (352, 45, 351, 8), (356, 45, 355, 9), (361, 46, 359, 360), (365, 41, 363, 364), (369, 42, 367, 368), (376, 42, 375, 10), (381, 43, 379, 380), (385, 41, 383, 384), (389, 41, 387, 388), (393, 44, 391, 392), (397, 43, 395, 396), (401, 44, 399, 400), (405, 44, 404, 11), (410, 43, 408, 409), (414, 43, 413, 12), (418, 43, 416, 417), (422, 43, 420, 421), (426, 45, 424, 425), (430, 42, 428, 429), (434, 42, 433, 13), (438, 43, 436, 437), (442, 43, 440, 441), (447, 44, 446, 14), (451, 42, 449, 450), (456, 42, 454, 455), (464, 43, 462, 463), (468, 43, 466, 467), (472, 44, 470, 471), (476, 41, 474, 475), (480, 41, 478, 479), (484, 41, 482, 483), (488, 41, 486, 487), (492, 41, 490, 491), (496, 41, 494, 495), (500, 41, 498, 499), (504, 41, 502, 503), (508, 41, 506, 507), (512, 41, 510, 511), (516, 41, 514, 515), (520, 44, 518, 519), (524, 41, 522, 523), (528, 46, 526, 527), (532, 46, 531, 15), (537, 46, 536, 16), (541, 46, 540, 17), (545, 41, 543, 544), (550, 47, 549, 0), (635, 47, 633, 634), (639, 47, 637, 638), (643, 47, 641, 642), (647, 47, 645, 646), (651, 47, 650, 18), (655, 47, 654, 19), (659, 47, 658, 20), (662, 47, 661, 0), (665, 47, 664, 0), (668, 47, 667, 0), (672, 47, 671, 21), (676, 47, 675, 22), (680, 47, 679, 23), (684, 47, 682, 683), (688, 47, 687, 24), (692, 47, 691, 25), (696, 47, 695, 26), (700, 47, 698, 699), (704, 47, 702, 703), (708, 47, 707, 27), (712, 47, 711, 28), (716, 47, 715, 29), (720, 47, 719, 30), (724, 47, 723, 31), (728, 47, 727, 32), (732, 47, 731, 33), (736, 47, 735, 34), (740, 47, 739, 35), (744, 47, 743, 36), (748, 47, 747, 37), (752, 47, 750, 751), (756, 47, 754, 755), (760, 47, 758, 759), (764, 47, 762, 763), (768, 47, 766, 767), (772, 47, 770, 771), (776, 47, 774, 775), (780, 47, 778, 779), (784, 47, 782, 783), (788, 47, 787, 38), (792, 47, 790, 791), (796, 47, 794, 795), (800, 47, 798, 799), (804, 47, 803, 39), (808, 47, 806, 807)]
end
section
def c_0 : List En := [
  (0, 0, .aload_n 0, []),
  (1, 0, .invokespecial 1, [0, 0]),
  (4, 0, .aload_n 0, []),
  (5, 0, .bipush (60), []),
  (7, 0, .newarray .int, []),
  (9, 0, .putfield 9, [0, 0, 0, 2]),
  (12, 2, .aload_n 0, []),
  (13, 0, .iconst (0), []),
  (14, 0, .putfield 13, [1, 0, 1, 0]),
  (17, 2, .aload_n 0, []),
  (18, 0, .bipush (60), []),
  (20, 0, .newarray .int, []),
  (22, 0, .putfield 17, [2, 0, 2, 2]),
  (25, 2, .aload_n 0, []),
  (26, 0, .iconst (0), []),
  (27, 0, .putfield 20, [3, 0, 3, 0]),
  (30, 2, .aload_n 0, []),
  (31, 0, .bipush (6), []),
  (33, 0, .anewarray 23, [0, 1]),
  (36, 0, .putfield 25, [4, 0, 4, 2]),
  (39, 2, .iconst (0), []),
  (40, 0, .istore_n 1, []),
  (41, 4, .iload_n 1, []),
  (42, 0, .bipush (6), []),
  (44, 0, .if_icmp .ge (22), [34]),
  (47, 0, .aload_n 0, []),
  (48, 0, .getfield 25, [4, 0, 4, 2]),
  (51, 0, .iload_n 1, []),
  (52, 0, .new 23, [0, 1]),
  (55, 0, .dup, []),
  (56, 0, .invokespecial 29, [0, 1, 1, 8, 0, 1, 1, 1]),
  (59, 0, .aastore, []),
  (60, 0, .iinc 1 (1), []),
  (63, 0, .goto (-22), [22]),
  (66, 0, .aload_n 0, []),
  (67, 0, .iconst (0), []),
  (68, 0, .putfield 30, [5, 0, 5, 0]),
  (71, 2, .aload_n 0, []),
  (72, 0, .new 33, [1, 2]),
  (75, 0, .dup, []),
  (76, 0, .invokespecial 35, [1, 3, 1, 31, 0, 1, 1, 2]),
  (79, 0, .putfield 36, [6, 0, 6, 2]),
  (82, 2, .aload_n 0, []),
  (83, 0, .iconst (0), []),
  (84, 0, .putfield 40, [7, 0, 7, 0]),
  (87, 2, .aload_n 0, []),
  (88, 0, .new 43, [2, 5]),
  (91, 0, .dup, []),
  (92, 0, .invokespecial 45, [2, 5, 1, 2, 0, 1, 1, 5]),
  (95, 0, .putfield 46, [8, 0, 8, 2]),
  (98, 0, .return_, [])]
def c_1 : List En := [
  (0, 0, .aload_n 0, []),
  (1, 0, .invokespecial 3, [1, 0]),
  (4, 0, .aload_n 0, []),
  (5, 0, .new 9, [3, 3]),
  (8, 0, .dup, []),
  (9, 0, .bipush (60), []),
  (11, 0, .invokespecial 11, [3, 2, 2, 5, 0, 2, 1, 3]),
  (14, 0, .putfield 14, [9, 1, 0, 2]),
  (17, 2, .aload_n 0, []),
  (18, 0, .iconst (0), []),
  (19, 0, .putfield 20, [10, 1, 1, 0]),
  (22, 2, .aload_n 0, []),
  (23, 0, .bipush (10), []),
  (25, 0, .newarray .int, []),
  (27, 0, .putfield 24, [11, 1, 2, 2]),
  (30, 2, .aload_n 0, []),
  (31, 0, .bipush (10), []),
  (33, 0, .newarray .int, []),
  (35, 0, .putfield 28, [12, 1, 3, 2]),
  (38, 0, .return_, [])]
def c_2 : List En := [
  (0, 0, .aload_n 0, []),
  (1, 0, .invokespecial 3, [2, 0]),
  (4, 0, .aload_n 0, []),
  (5, 0, .iload_n 1, []),
  (6, 0, .newarray .int, []),
  (8, 0, .putfield 9, [13, 3, 0, 2]),
  (11, 4, .aload_n 0, []),
  (12, 0, .iload_n 1, []),
  (13, 0, .newarray .int, []),
  (15, 0, .putfield 15, [14, 3, 1, 2]),
  (18, 4, .aload_n 0, []),
  (19, 0, .iload_n 1, []),
  (20, 0, .newarray .int, []),
  (22, 0, .putfield 18, [15, 3, 2, 2]),
  (25, 4, .aload_n 0, []),
  (26, 0, .iload_n 1, []),
  (27, 0, .newarray .int, []),
  (29, 0, .putfield 21, [16, 3, 3, 2]),
  (32, 4, .aload_n 0, []),
  (33, 0, .iload_n 1, []),
  (34, 0, .newarray .int, []),
  (36, 0, .putfield 24, [17, 3, 4, 2]),
  (39, 2, .aload_n 0, []),
  (40, 0, .iconst (0), []),
  (41, 0, .putfield 27, [18, 3, 5, 0]),
  (44, 2, .aload_n 0, []),
  (45, 0, .iconst (0), []),
  (46, 0, .putfield 31, [19, 3, 6, 0]),
  (49, 0, .return_, [])]
def c_3 : List En := [
  (0, 0, .aload_n 0, []),
  (1, 0, .invokespecial 3, [3, 0]),
  (4, 0, .aload_n 0, []),
  (5, 0, .new 9, [4, 3]),
  (8, 0, .dup, []),
  (9, 0, .bipush (120), []),
  (11, 0, .invokespecial 11, [4, 2, 2, 5, 0, 2, 1, 3]),
  (14, 0, .putfield 14, [20, 2, 0, 2]),
  (17, 2, .aload_n 0, []),
  (18, 0, .new 9, [4, 3]),
  (21, 0, .dup, []),
  (22, 0, .bipush (120), []),
  (24, 0, .invokespecial 11, [4, 2, 2, 5, 0, 2, 1, 3]),
  (27, 0, .putfield 20, [21, 2, 1, 2]),
  (30, 2, .aload_n 0, []),
  (31, 0, .new 9, [4, 3]),
  (34, 0, .dup, []),
  (35, 0, .bipush (120), []),
  (37, 0, .invokespecial 11, [4, 2, 2, 5, 0, 2, 1, 3]),
  (40, 0, .putfield 23, [22, 2, 2, 2]),
  (43, 2, .aload_n 0, []),
  (44, 0, .new 9, [4, 3]),
  (47, 0, .dup, []),
  (48, 0, .bipush (120), []),
  (50, 0, .invokespecial 11, [4, 2, 2, 5, 0, 2, 1, 3]),
  (53, 0, .putfield 26, [23, 2, 3, 2]),
  (56, 2, .aload_n 0, []),
  (57, 0, .new 29, [5, 4]),
  (60, 0, .dup, []),
  (61, 0, .bipush (120), []),
  (63, 0, .invokespecial 31, [5, 4, 2, 5, 0, 2, 1, 4]),
  (66, 0, .putfield 32, [24, 2, 4, 2]),
  (69, 2, .aload_n 0, []),
  (70, 0, .bipush (120), []),
  (72, 0, .newarray .int, []),
  (74, 0, .putfield 36, [25, 2, 5, 2]),
  (77, 2, .aload_n 0, []),
  (78, 0, .iconst (0), []),
  (79, 0, .putfield 40, [26, 2, 6, 0]),
  (82, 0, .return_, [])]
def c_4 : List En := [
  (0, 0, .aload_n 0, []),
  (1, 0, .invokespecial 3, [4, 0]),
  (4, 0, .aload_n 0, []),
  (5, 0, .iload_n 1, []),
  (6, 0, .newarray .int, []),
  (8, 0, .putfield 9, [27, 4, 0, 2]),
  (11, 4, .aload_n 0, []),
  (12, 0, .iconst (0), []),
  (13, 0, .putfield 15, [28, 4, 1, 0]),
  (16, 4, .aload_n 0, []),
  (17, 0, .iload_n 1, []),
  (18, 0, .newarray .int, []),
  (20, 0, .putfield 19, [29, 4, 2, 2]),
  (23, 4, .aload_n 0, []),
  (24, 0, .iload_n 1, []),
  (25, 0, .newarray .int, []),
  (27, 0, .putfield 22, [30, 4, 3, 2]),
  (30, 4, .aload_n 0, []),
  (31, 0, .iload_n 1, []),
  (32, 0, .newarray .int, []),
  (34, 0, .putfield 25, [31, 4, 4, 2]),
  (37, 2, .aload_n 0, []),
  (38, 0, .iconst (0), []),
  (39, 0, .putfield 28, [32, 4, 5, 0]),
  (42, 2, .aload_n 0, []),
  (43, 0, .bipush (12), []),
  (45, 0, .newarray .int, []),
  (47, 0, .putfield 31, [33, 4, 6, 2]),
  (50, 0, .return_, [])]
def c_5 : List En := [
  (0, 0, .aload_n 0, []),
  (1, 0, .invokespecial 3, [5, 0]),
  (4, 0, .aload_n 0, []),
  (5, 0, .sipush (7381), []),
  (8, 0, .newarray .int, []),
  (10, 0, .putfield 11, [34, 5, 0, 2]),
  (13, 2, .aload_n 0, []),
  (14, 0, .sipush (180), []),
  (17, 0, .newarray .int, []),
  (19, 0, .putfield 15, [35, 5, 1, 2]),
  (22, 2, .aload_n 0, []),
  (23, 0, .iconst (0), []),
  (24, 0, .putfield 18, [36, 5, 2, 0]),
  (27, 2, .aload_n 0, []),
  (28, 0, .iconst (0), []),
  (29, 0, .putfield 22, [37, 5, 3, 0]),
  (32, 2, .aload_n 0, []),
  (33, 0, .iconst (0), []),
  (34, 0, .putfield 25, [38, 5, 4, 1]),
  (37, 0, .return_, [])]
def c_6 : List En := [
  (0, 0, .iload_n 1, []),
  (1, 0, .bipush (10), []),
  (3, 0, .if_icmp .eq (15), [9]),
  (6, 0, .iload_n 1, []),
  (7, 0, .bipush (32), []),
  (9, 0, .if_icmp .lt (13), [11]),
  (12, 0, .iload_n 1, []),
  (13, 0, .bipush (126), []),
  (15, 0, .if_icmp .gt (7), [11]),
  (18, 0, .iconst (1), []),
  (19, 0, .goto (4), [12]),
  (22, 0, .iconst (0), []),
  (23, 0, .istore_n 2, []),
  (24, 8, .iload_n 2, []),
  (25, 0, .ifCond .eq (12), [19]),
  (28, 0, .aload_n 0, []),
  (29, 0, .getfield 13, [1, 0, 1, 0]),
  (32, 0, .bipush (60), []),
  (34, 0, .if_icmp .lt (5), [21]),
  (37, 0, .iconst (0), []),
  (38, 0, .ireturn, [1]),
  (39, 0, .aload_n 0, []),
  (40, 0, .getfield 9, [0, 0, 0, 2]),
  (43, 0, .aload_n 0, []),
  (44, 0, .getfield 13, [1, 0, 1, 0]),
  (47, 0, .iload_n 1, []),
  (48, 0, .iastore, []),
  (49, 0, .aload_n 0, []),
  (50, 0, .dup, []),
  (51, 0, .getfield 13, [1, 0, 1, 0]),
  (54, 0, .iconst (1), []),
  (55, 0, .iadd, []),
  (56, 0, .putfield 13, [1, 0, 1, 0]),
  (59, 0, .iconst (1), []),
  (60, 0, .ireturn, [1])]
def c_7 : List En := [
  (0, 0, .aload_n 0, []),
  (1, 0, .iconst (0), []),
  (2, 0, .putfield 13, [1, 0, 1, 0]),
  (5, 0, .return_, [])]
def c_8 : List En := [
  (0, 0, .aload_n 0, []),
  (1, 0, .getfield 13, [1, 0, 1, 0]),
  (4, 0, .ireturn, [])]
def c_9 : List En := [
  (0, 0, .aload_n 0, []),
  (1, 0, .getfield 9, [0, 0, 0, 2]),
  (4, 0, .iconst (0), []),
  (5, 0, .aload_n 0, []),
  (6, 0, .getfield 17, [2, 0, 2, 2]),
  (9, 0, .iconst (0), []),
  (10, 0, .aload_n 0, []),
  (11, 0, .getfield 13, [1, 0, 1, 0]),
  (14, 0, .invokestatic 50, [6, 3]),
  (17, 0, .aload_n 0, []),
  (18, 0, .aload_n 0, []),
  (19, 0, .getfield 13, [1, 0, 1, 0]),
  (22, 0, .putfield 20, [3, 0, 3, 0]),
  (25, 0, .aload_n 0, []),
  (26, 0, .iconst (0), []),
  (27, 0, .putfield 13, [1, 0, 1, 0]),
  (30, 0, .aload_n 0, []),
  (31, 0, .iconst (0), []),
  (32, 0, .putfield 40, [7, 0, 7, 0]),
  (35, 0, .aload_n 0, []),
  (36, 0, .getfield 36, [6, 0, 6, 2]),
  (39, 0, .aload_n 0, []),
  (40, 0, .getfield 17, [2, 0, 2, 2]),
  (43, 0, .aload_n 0, []),
  (44, 0, .getfield 20, [3, 0, 3, 0]),
  (47, 0, .invokevirtual 56, [6, 10, 3, 0, 0, 4, 0, 2]),
  (50, 0, .aload_n 0, []),
  (51, 0, .getfield 46, [8, 0, 8, 2]),
  (54, 0, .invokevirtual 60, [7, 32, 1, 0, 0, 1, 0, 5]),
  (57, 0, .aload_n 0, []),
  (58, 0, .getfield 36, [6, 0, 6, 2]),
  (61, 0, .getfield 63, [39, 2, 4, 2]),
  (64, 0, .getfield 67, [40, 4, 1, 0]),
  (67, 0, .ireturn, [])]
def c_10 : List En := [
  (0, 0, .aload_n 0, []),
  (1, 0, .getfield 14, [20, 2, 0, 2]),
  (4, 0, .aload_n 1, []),
  (5, 0, .iload_n 2, []),
  (6, 0, .invokevirtual 44, [8, 11, 3, 0, 0, 3, 0, 3]),
  (9, 0, .aload_n 0, []),
  (10, 0, .getfield 32, [24, 2, 4, 2]),
  (13, 0, .aload_n 0, []),
  (14, 0, .getfield 14, [20, 2, 0, 2]),
  (17, 0, .invokevirtual 48, [9, 21, 2, 0, 0, 4, 0, 4]),
  (20, 0, .iconst (0), []),
  (21, 0, .istore_n 3, []),
  (22, 10, .iload_n 3, []),
  (23, 0, .aload_n 0, []),
  (24, 0, .getfield 32, [24, 2, 4, 2]),
  (27, 0, .getfield 51, [41, 4, 5, 0]),
  (30, 0, .if_icmp .ge (51), [41]),
  (33, 0, .aload_n 0, []),
  (34, 0, .getfield 14, [20, 2, 0, 2]),
  (37, 0, .aload_n 0, []),
  (38, 0, .getfield 14, [20, 2, 0, 2]),
  (41, 0, .getfield 54, [42, 3, 3, 2]),
  (44, 0, .aload_n 0, []),
  (45, 0, .getfield 32, [24, 2, 4, 2]),
  (48, 0, .getfield 57, [43, 4, 2, 2]),
  (51, 0, .iload_n 3, []),
  (52, 0, .iaload, []),
  (53, 0, .iaload, []),
  (54, 0, .aload_n 0, []),
  (55, 0, .getfield 14, [20, 2, 0, 2]),
  (58, 0, .getfield 60, [44, 3, 4, 2]),
  (61, 0, .aload_n 0, []),
  (62, 0, .getfield 32, [24, 2, 4, 2]),
  (65, 0, .getfield 63, [45, 4, 3, 2]),
  (68, 0, .iload_n 3, []),
  (69, 0, .iaload, []),
  (70, 0, .iaload, []),
  (71, 0, .iconst (0), []),
  (72, 0, .invokevirtual 66, [10, 13, 4, 0, 0, 5, 0, 3]),
  (75, 0, .iinc 3 (1), []),
  (78, 0, .goto (-56), [12]),
  (81, 0, .aload_n 0, []),
  (82, 0, .iconst (0), []),
  (83, 0, .putfield 40, [26, 2, 6, 0]),
  (86, 0, .return_, [])]
def c_11 : List En := [
  (0, 0, .aload_n 0, []),
  (1, 0, .invokevirtual 34, [11, 12, 1, 0, 0, 1, 0, 3]),
  (4, 0, .aload_n 0, []),
  (5, 0, .iconst (0), []),
  (6, 0, .iload_n 2, []),
  (7, 0, .aload_n 1, []),
  (8, 0, .arraylength, []),
  (9, 0, .aload_n 0, []),
  (10, 0, .getfield 9, [13, 3, 0, 2]),
  (13, 0, .arraylength, []),
  (14, 0, .invokestatic 37, [7, 2]),
  (17, 0, .invokestatic 37, [7, 2]),
  (20, 0, .invokestatic 43, [8, 1]),
  (23, 0, .putfield 27, [18, 3, 5, 0]),
  (26, 4, .aload_n 1, []),
  (27, 0, .iconst (0), []),
  (28, 0, .aload_n 0, []),
  (29, 0, .getfield 9, [13, 3, 0, 2]),
  (32, 0, .iconst (0), []),
  (33, 0, .aload_n 0, []),
  (34, 0, .getfield 27, [18, 3, 5, 0]),
  (37, 0, .invokestatic 46, [9, 3]),
  (40, 2, .aload_n 0, []),
  (41, 0, .iconst (0), []),
  (42, 0, .aload_n 0, []),
  (43, 0, .getfield 27, [18, 3, 5, 0]),
  (46, 0, .iconst (-1), []),
  (47, 0, .invokevirtual 52, [12, 13, 4, 0, 0, 5, 0, 3]),
  (50, 0, .aload_n 0, []),
  (51, 0, .invokevirtual 56, [13, 14, 1, 0, 0, 5, 0, 3]),
  (54, 0, .return_, [])]
def c_12 : List En := [
  (0, 0, .aload_n 0, []),
  (1, 0, .iconst (0), []),
  (2, 0, .putfield 27, [18, 3, 5, 0]),
  (5, 0, .aload_n 0, []),
  (6, 0, .iconst (0), []),
  (7, 0, .putfield 31, [19, 3, 6, 0]),
  (10, 0, .return_, [])]
def c_13 : List En := [
  (0, 0, .iconst (0), []),
  (1, 0, .iload_n 1, []),
  (2, 0, .invokestatic 43, [8, 1]),
  (5, 0, .istore 4, []),
  (7, 30, .iload 4, []),
  (9, 0, .iload_n 2, []),
  (10, 0, .if_icmp .ge (26), [18]),
  (13, 0, .iload 4, []),
  (15, 0, .aload_n 0, []),
  (16, 0, .getfield 27, [18, 3, 5, 0]),
  (19, 0, .if_icmp .ge (17), [18]),
  (22, 0, .aload_n 0, []),
  (23, 0, .getfield 15, [14, 3, 1, 2]),
  (26, 0, .iload 4, []),
  (28, 0, .iload_n 3, []),
  (29, 0, .iastore, []),
  (30, 0, .iinc 4 (1), []),
  (33, 0, .goto (-26), [4]),
  (36, 0, .return_, [])]
def c_14 : List En := [
  (0, 0, .iconst (0), []),
  (1, 0, .istore_n 1, []),
  (2, 0, .iconst (0), []),
  (3, 0, .istore_n 2, []),
  (4, 8, .iload_n 2, []),
  (5, 0, .aload_n 0, []),
  (6, 0, .getfield 27, [18, 3, 5, 0]),
  (9, 0, .if_icmp .ge (104), [67]),
  (12, 0, .aload_n 0, []),
  (13, 0, .getfield 9, [13, 3, 0, 2]),
  (16, 0, .iload_n 2, []),
  (17, 0, .iaload, []),
  (18, 0, .istore_n 3, []),
  (19, 0, .iload_n 3, []),
  (20, 0, .bipush (35), []),
  (22, 0, .if_icmp .ne (12), [21]),
  (25, 0, .aload_n 0, []),
  (26, 0, .iload_n 2, []),
  (27, 0, .invokevirtual 59, [14, 15, 2, 0, 1, 3, 0, 3]),
  (30, 0, .istore_n 1, []),
  (31, 0, .goto (71), [60]),
  (34, 0, .iload_n 3, []),
  (35, 0, .bipush (32), []),
  (37, 0, .if_icmp .eq (65), [60]),
  (40, 0, .iload_n 3, []),
  (41, 0, .bipush (10), []),
  (43, 0, .if_icmp .eq (59), [60]),
  (46, 0, .aload_n 0, []),
  (47, 0, .iload_n 2, []),
  (48, 0, .invokevirtual 63, [15, 16, 2, 0, 1, 3, 0, 3]),
  (51, 0, .istore 4, []),
  (53, 0, .aload_n 0, []),
  (54, 0, .iload_n 2, []),
  (55, 0, .iload 4, []),
  (57, 0, .invokevirtual 66, [16, 19, 3, 0, 1, 4, 0, 3]),
  (60, 0, .istore_n 1, []),
  (61, 0, .aload_n 0, []),
  (62, 0, .getfield 18, [15, 3, 2, 2]),
  (65, 0, .aload_n 0, []),
  (66, 0, .getfield 31, [19, 3, 6, 0]),
  (69, 0, .iload 4, []),
  (71, 0, .iastore, []),
  (72, 0, .aload_n 0, []),
  (73, 0, .getfield 21, [16, 3, 3, 2]),
  (76, 0, .aload_n 0, []),
  (77, 0, .getfield 31, [19, 3, 6, 0]),
  (80, 0, .iload_n 2, []),
  (81, 0, .iastore, []),
  (82, 0, .aload_n 0, []),
  (83, 0, .getfield 24, [17, 3, 4, 2]),
  (86, 0, .aload_n 0, []),
  (87, 0, .getfield 31, [19, 3, 6, 0]),
  (90, 0, .iload_n 1, []),
  (91, 0, .iastore, []),
  (92, 0, .aload_n 0, []),
  (93, 0, .dup, []),
  (94, 0, .getfield 31, [19, 3, 6, 0]),
  (97, 0, .iconst (1), []),
  (98, 0, .iadd, []),
  (99, 0, .putfield 31, [19, 3, 6, 0]),
  (102, 0, .iload_n 2, []),
  (103, 0, .iconst (1), []),
  (104, 0, .iadd, []),
  (105, 0, .iload_n 1, []),
  (106, 0, .invokestatic 43, [8, 1]),
  (109, 0, .istore_n 2, []),
  (110, 0, .goto (-106), [4]),
  (113, 0, .return_, [])]
def c_15 : List En := [
  (0, 0, .iload_n 1, []),
  (1, 0, .istore_n 2, []),
  (2, 6, .iload_n 2, []),
  (3, 0, .aload_n 0, []),
  (4, 0, .getfield 27, [18, 3, 5, 0]),
  (7, 0, .if_icmp .ge (20), [14]),
  (10, 0, .aload_n 0, []),
  (11, 0, .getfield 9, [13, 3, 0, 2]),
  (14, 0, .iload_n 2, []),
  (15, 0, .iaload, []),
  (16, 0, .bipush (10), []),
  (18, 0, .if_icmp .eq (9), [14]),
  (21, 0, .iinc 2 (1), []),
  (24, 0, .goto (-22), [2]),
  (27, 0, .iload_n 2, []),
  (28, 0, .ireturn, [])]
def c_16 : List En := [
  (0, 0, .aload_n 0, []),
  (1, 0, .getfield 9, [13, 3, 0, 2]),
  (4, 0, .iload_n 1, []),
  (5, 0, .iaload, []),
  (6, 0, .istore_n 2, []),
  (7, 0, .iload_n 2, []),
  (8, 0, .invokestatic 69, [17, 17, 1, 0, 1, 1, 2, 3]),
  (11, 0, .ifCond .eq (5), [10]),
  (14, 0, .iconst (1), []),
  (15, 0, .ireturn, []),
  (16, 0, .iload_n 2, []),
  (17, 0, .invokestatic 73, [18, 18, 1, 0, 1, 1, 2, 3]),
  (20, 0, .ifCond .eq (5), [15]),
  (23, 0, .iconst (2), []),
  (24, 0, .ireturn, []),
  (25, 0, .iload_n 2, []),
  (26, 0, .lookupswitch (102) #[(36, 71), (40, 58), (41, 60), (44, 62), (59, 65), (62, 68)], [45, 27, 17, 19, 21, 23, 25]),
  (84, 0, .iconst (4), []),
  (85, 0, .ireturn, []),
  (86, 0, .iconst (5), []),
  (87, 0, .ireturn, []),
  (88, 0, .bipush (6), []),
  (90, 0, .ireturn, []),
  (91, 0, .bipush (7), []),
  (93, 0, .ireturn, []),
  (94, 0, .bipush (8), []),
  (96, 0, .ireturn, []),
  (97, 0, .iload_n 1, []),
  (98, 0, .iconst (1), []),
  (99, 0, .iadd, []),
  (100, 0, .aload_n 0, []),
  (101, 0, .getfield 27, [18, 3, 5, 0]),
  (104, 0, .if_icmp .ge (21), [43]),
  (107, 0, .aload_n 0, []),
  (108, 0, .getfield 9, [13, 3, 0, 2]),
  (111, 0, .iload_n 1, []),
  (112, 0, .iconst (1), []),
  (113, 0, .iadd, []),
  (114, 0, .iaload, []),
  (115, 0, .invokestatic 73, [18, 18, 1, 0, 1, 1, 2, 3]),
  (118, 0, .ifCond .eq (7), [43]),
  (121, 0, .iconst (3), []),
  (122, 0, .goto (5), [44]),
  (125, 0, .bipush (9), []),
  (127, 0, .ireturn, []),
  (128, 0, .bipush (9), []),
  (130, 0, .ireturn, [])]
def c_17 : List En := [
  (0, 0, .iload_n 0, []),
  (1, 0, .bipush (97), []),
  (3, 0, .if_icmp .lt (9), [6]),
  (6, 0, .iload_n 0, []),
  (7, 0, .bipush (122), []),
  (9, 0, .if_icmp .le (15), [12]),
  (12, 0, .iload_n 0, []),
  (13, 0, .bipush (65), []),
  (15, 0, .if_icmp .lt (13), [14]),
  (18, 0, .iload_n 0, []),
  (19, 0, .bipush (90), []),
  (21, 0, .if_icmp .gt (7), [14]),
  (24, 0, .iconst (1), []),
  (25, 0, .goto (4), [15]),
  (28, 0, .iconst (0), []),
  (29, 0, .ireturn, [1])]
def c_18 : List En := [
  (0, 0, .iload_n 0, []),
  (1, 0, .bipush (48), []),
  (3, 0, .if_icmp .lt (13), [8]),
  (6, 0, .iload_n 0, []),
  (7, 0, .bipush (57), []),
  (9, 0, .if_icmp .gt (7), [8]),
  (12, 0, .iconst (1), []),
  (13, 0, .goto (4), [9]),
  (16, 0, .iconst (0), []),
  (17, 0, .ireturn, [1])]
def c_19 : List En := [
  (0, 0, .iload_n 2, []),
  (1, 0, .iconst (3), []),
  (2, 0, .if_icmp .ne (7), [7]),
  (5, 0, .iload_n 1, []),
  (6, 0, .iconst (2), []),
  (7, 0, .iadd, []),
  (8, 0, .ireturn, []),
  (9, 0, .iload_n 1, []),
  (10, 0, .iconst (1), []),
  (11, 0, .iadd, []),
  (12, 0, .istore_n 3, []),
  (13, 0, .iload_n 2, []),
  (14, 0, .iconst (1), []),
  (15, 0, .if_icmp .eq (8), [17]),
  (18, 0, .iload_n 2, []),
  (19, 0, .iconst (2), []),
  (20, 0, .if_icmp .ne (30), [30]),
  (23, 14, .iload_n 3, []),
  (24, 0, .aload_n 0, []),
  (25, 0, .getfield 27, [18, 3, 5, 0]),
  (28, 0, .if_icmp .ge (22), [30]),
  (31, 0, .iload_n 2, []),
  (32, 0, .aload_n 0, []),
  (33, 0, .getfield 9, [13, 3, 0, 2]),
  (36, 0, .iload_n 3, []),
  (37, 0, .iaload, []),
  (38, 0, .invokestatic 76, [19, 20, 2, 0, 1, 2, 2, 3]),
  (41, 0, .ifCond .eq (9), [30]),
  (44, 0, .iinc 3 (1), []),
  (47, 0, .goto (-24), [17]),
  (50, 0, .iload_n 3, []),
  (51, 0, .ireturn, [])]
def c_20 : List En := [
  (0, 0, .iload_n 1, []),
  (1, 0, .invokestatic 73, [18, 18, 1, 0, 1, 1, 2, 3]),
  (4, 0, .ifCond .ne (15), [9]),
  (7, 0, .iload_n 0, []),
  (8, 0, .iconst (1), []),
  (9, 0, .if_icmp .ne (14), [11]),
  (12, 0, .iload_n 1, []),
  (13, 0, .invokestatic 69, [17, 17, 1, 0, 1, 1, 2, 3]),
  (16, 0, .ifCond .eq (7), [11]),
  (19, 0, .iconst (1), []),
  (20, 0, .goto (4), [12]),
  (23, 0, .iconst (0), []),
  (24, 0, .ireturn, [1])]
def c_21 : List En := [
  (0, 0, .aload_n 0, []),
  (1, 0, .iconst (0), []),
  (2, 0, .putfield 15, [28, 4, 1, 0]),
  (5, 0, .aload_n 0, []),
  (6, 0, .iconst (0), []),
  (7, 0, .putfield 28, [32, 4, 5, 0]),
  (10, 0, .iconst (0), []),
  (11, 0, .istore_n 2, []),
  (12, 0, .iconst (0), []),
  (13, 0, .istore_n 3, []),
  (14, 16, .iload_n 3, []),
  (15, 0, .aload_n 1, []),
  (16, 0, .getfield 34, [46, 3, 6, 0]),
  (19, 0, .if_icmp .ge (34), [32]),
  (22, 0, .aload_n 1, []),
  (23, 0, .iload_n 3, []),
  (24, 0, .invokevirtual 39, [20, 22, 2, 0, 1, 2, 0, 3]),
  (27, 0, .bipush (7), []),
  (29, 0, .if_icmp .ne (18), [30]),
  (32, 0, .aload_n 0, []),
  (33, 0, .aload_n 0, []),
  (34, 0, .aload_n 1, []),
  (35, 0, .iload_n 2, []),
  (36, 0, .iload_n 3, []),
  (37, 0, .invokevirtual 43, [21, 23, 4, 0, 1, 4, 0, 4]),
  (40, 0, .invokevirtual 47, [22, 31, 2, 0, 0, 2, 0, 4]),
  (43, 0, .iload_n 3, []),
  (44, 0, .iconst (1), []),
  (45, 0, .iadd, []),
  (46, 0, .istore_n 2, []),
  (47, 0, .iinc 3 (1), []),
  (50, 0, .goto (-36), [10]),
  (53, 0, .iload_n 2, []),
  (54, 0, .aload_n 1, []),
  (55, 0, .getfield 34, [46, 3, 6, 0]),
  (58, 0, .if_icmp .ge (8), [39]),
  (61, 0, .aload_n 0, []),
  (62, 0, .iconst (0), []),
  (63, 0, .invokevirtual 47, [22, 31, 2, 0, 0, 2, 0, 4]),
  (66, 0, .return_, [])]
def c_22 : List En := [
  (0, 0, .iload_n 1, []),
  (1, 0, .ifCond .lt (20), [11]),
  (4, 0, .iload_n 1, []),
  (5, 0, .aload_n 0, []),
  (6, 0, .getfield 31, [19, 3, 6, 0]),
  (9, 0, .if_icmp .ge (12), [11]),
  (12, 0, .aload_n 0, []),
  (13, 0, .getfield 18, [15, 3, 2, 2]),
  (16, 0, .iload_n 1, []),
  (17, 0, .iaload, []),
  (18, 0, .goto (4), [12]),
  (21, 0, .iconst (-1), []),
  (22, 0, .ireturn, [])]
def c_23 : List En := [
  (0, 0, .aload_n 1, []),
  (1, 0, .iload_n 2, []),
  (2, 0, .iconst (0), []),
  (3, 0, .invokevirtual 51, [23, 24, 3, 0, 1, 4, 0, 3]),
  (6, 0, .iload_n 3, []),
  (7, 0, .if_icmp .ne (12), [11]),
  (10, 0, .aload_n 1, []),
  (11, 0, .iload_n 2, []),
  (12, 0, .iload_n 3, []),
  (13, 0, .invokestatic 55, [24, 27, 3, 0, 1, 4, 2, 4]),
  (16, 0, .ifCond .eq (5), [13]),
  (19, 0, .iconst (0), []),
  (20, 0, .ireturn, []),
  (21, 0, .aload_n 0, []),
  (22, 0, .aload_n 1, []),
  (23, 0, .iload_n 2, []),
  (24, 0, .iload_n 3, []),
  (25, 0, .invokevirtual 59, [25, 29, 4, 0, 0, 7, 0, 4]),
  (28, 0, .aload_n 1, []),
  (29, 0, .iload_n 2, []),
  (30, 0, .invokevirtual 63, [26, 25, 2, 0, 1, 2, 0, 3]),
  (33, 0, .ifCond .eq (5), [24]),
  (36, 0, .iconst (3), []),
  (37, 0, .ireturn, []),
  (38, 0, .aload_n 1, []),
  (39, 0, .iload_n 2, []),
  (40, 0, .invokevirtual 39, [20, 22, 2, 0, 1, 2, 0, 3]),
  (43, 0, .iconst (1), []),
  (44, 0, .if_icmp .ne (7), [31]),
  (47, 0, .iconst (1), []),
  (48, 0, .goto (4), [32]),
  (51, 0, .iconst (2), []),
  (52, 0, .ireturn, [])]
def c_24 : List En := [
  (0, 0, .aload_n 0, []),
  (1, 0, .iload_n 1, []),
  (2, 0, .invokevirtual 80, [27, 22, 2, 0, 1, 2, 0, 3]),
  (5, 0, .istore_n 3, []),
  (6, 0, .iload_n 3, []),
  (7, 0, .iconst (1), []),
  (8, 0, .if_icmp .eq (15), [15]),
  (11, 0, .iload_n 3, []),
  (12, 0, .iconst (2), []),
  (13, 0, .if_icmp .eq (10), [15]),
  (16, 0, .iload_n 3, []),
  (17, 0, .iconst (3), []),
  (18, 0, .if_icmp .eq (5), [15]),
  (21, 0, .iconst (-1), []),
  (22, 0, .ireturn, []),
  (23, 0, .aload_n 0, []),
  (24, 0, .iload_n 1, []),
  (25, 0, .invokevirtual 83, [28, 25, 2, 0, 1, 2, 0, 3]),
  (28, 0, .ifCond .ne (7), [23]),
  (31, 0, .iload_n 1, []),
  (32, 0, .iconst (1), []),
  (33, 0, .iadd, []),
  (34, 0, .ireturn, []),
  (35, 0, .iload_n 2, []),
  (36, 0, .bipush (12), []),
  (38, 0, .if_icmp .ge (16), [35]),
  (41, 0, .aload_n 0, []),
  (42, 0, .iload_n 1, []),
  (43, 0, .iconst (2), []),
  (44, 0, .iadd, []),
  (45, 0, .iload_n 2, []),
  (46, 0, .iconst (1), []),
  (47, 0, .iadd, []),
  (48, 0, .invokevirtual 86, [29, 26, 3, 0, 1, 7, 0, 3]),
  (51, 0, .goto (4), [36]),
  (54, 0, .iconst (-1), []),
  (55, 0, .ireturn, [])]
def c_25 : List En := [
  (0, 0, .iload_n 1, []),
  (1, 0, .ifCond .lt (39), [24]),
  (4, 0, .iload_n 1, []),
  (5, 0, .aload_n 0, []),
  (6, 0, .getfield 31, [19, 3, 6, 0]),
  (9, 0, .iconst (1), []),
  (10, 0, .isub, []),
  (11, 0, .if_icmp .ge (29), [24]),
  (14, 0, .aload_n 0, []),
  (15, 0, .getfield 18, [15, 3, 2, 2]),
  (18, 0, .iload_n 1, []),
  (19, 0, .iaload, []),
  (20, 0, .iconst (1), []),
  (21, 0, .if_icmp .ne (19), [24]),
  (24, 0, .aload_n 0, []),
  (25, 0, .getfield 18, [15, 3, 2, 2]),
  (28, 0, .iload_n 1, []),
  (29, 0, .iconst (1), []),
  (30, 0, .iadd, []),
  (31, 0, .iaload, []),
  (32, 0, .iconst (4), []),
  (33, 0, .if_icmp .ne (7), [24]),
  (36, 0, .iconst (1), []),
  (37, 0, .goto (4), [25]),
  (40, 0, .iconst (0), []),
  (41, 0, .ireturn, [1])]
def c_26 : List En := [
  (0, 0, .aload_n 0, []),
  (1, 0, .iload_n 1, []),
  (2, 0, .invokevirtual 80, [27, 22, 2, 0, 1, 2, 0, 3]),
  (5, 0, .iconst (5), []),
  (6, 0, .if_icmp .ne (7), [9]),
  (9, 0, .iload_n 1, []),
  (10, 0, .iconst (1), []),
  (11, 0, .iadd, []),
  (12, 0, .ireturn, []),
  (13, 0, .iload_n 1, []),
  (14, 0, .istore_n 3, []),
  (15, 0, .iconst (0), []),
  (16, 0, .istore 4, []),
  (18, 30, .iload 4, []),
  (20, 0, .aload_n 0, []),
  (21, 0, .getfield 31, [19, 3, 6, 0]),
  (24, 0, .if_icmp .ge (50), [44]),
  (27, 0, .aload_n 0, []),
  (28, 0, .iload_n 3, []),
  (29, 0, .iload_n 2, []),
  (30, 0, .invokevirtual 89, [30, 24, 3, 0, 1, 4, 0, 3]),
  (33, 0, .istore 5, []),
  (35, 0, .aload_n 0, []),
  (36, 0, .iload 5, []),
  (38, 0, .invokevirtual 80, [27, 22, 2, 0, 1, 2, 0, 3]),
  (41, 0, .istore 6, []),
  (43, 0, .iload 6, []),
  (45, 0, .iconst (5), []),
  (46, 0, .if_icmp .ne (8), [33]),
  (49, 0, .iload 5, []),
  (51, 0, .iconst (1), []),
  (52, 0, .iadd, []),
  (53, 0, .ireturn, []),
  (54, 0, .iload 6, []),
  (56, 0, .bipush (6), []),
  (58, 0, .if_icmp .eq (5), [38]),
  (61, 0, .iconst (-1), []),
  (62, 0, .ireturn, []),
  (63, 0, .iload 5, []),
  (65, 0, .iconst (1), []),
  (66, 0, .iadd, []),
  (67, 0, .istore_n 3, []),
  (68, 0, .iinc 4 (1), []),
  (71, 0, .goto (-53), [13]),
  (74, 0, .iconst (-1), []),
  (75, 0, .ireturn, [])]
def c_27 : List En := [
  (0, 0, .iload_n 1, []),
  (1, 0, .istore_n 3, []),
  (2, 14, .iload_n 3, []),
  (3, 0, .iload_n 2, []),
  (4, 0, .if_icmp .ge (19), [13]),
  (7, 0, .aload_n 0, []),
  (8, 0, .iload_n 3, []),
  (9, 0, .invokevirtual 67, [31, 28, 2, 0, 1, 2, 0, 3]),
  (12, 0, .ifCond .eq (5), [11]),
  (15, 0, .iconst (1), []),
  (16, 0, .ireturn, [1]),
  (17, 0, .iinc 3 (1), []),
  (20, 0, .goto (-18), [2]),
  (23, 0, .iconst (0), []),
  (24, 0, .ireturn, [1])]
def c_28 : List En := [
  (0, 0, .aload_n 0, []),
  (1, 0, .iload_n 1, []),
  (2, 0, .invokevirtual 80, [27, 22, 2, 0, 1, 2, 0, 3]),
  (5, 0, .iconst (3), []),
  (6, 0, .if_icmp .ne (7), [7]),
  (9, 0, .iconst (1), []),
  (10, 0, .goto (4), [8]),
  (13, 0, .iconst (0), []),
  (14, 0, .ireturn, [1])]
def c_29 : List En := [
  (0, 0, .iconst (0), []),
  (1, 0, .istore 4, []),
  (3, 0, .iload_n 2, []),
  (4, 0, .istore 5, []),
  (6, 60, .iload 5, []),
  (8, 0, .iload_n 3, []),
  (9, 0, .if_icmp .ge (102), [53]),
  (12, 0, .aload_n 1, []),
  (13, 0, .iload 5, []),
  (15, 0, .invokevirtual 39, [20, 22, 2, 0, 1, 2, 0, 3]),
  (18, 0, .istore 6, []),
  (20, 124, .aload_n 1, []),
  (21, 0, .iload 5, []),
  (23, 0, .invokevirtual 63, [26, 25, 2, 0, 1, 2, 0, 3]),
  (26, 0, .ifCond .eq (25), [25]),
  (29, 0, .iload 4, []),
  (31, 0, .bipush (12), []),
  (33, 0, .if_icmp .ge (18), [25]),
  (36, 0, .aload_n 0, []),
  (37, 0, .getfield 31, [33, 4, 6, 2]),
  (40, 0, .iload 4, []),
  (42, 0, .iload 5, []),
  (44, 0, .iastore, []),
  (45, 0, .iinc 4 (1), []),
  (48, 0, .goto (57), [51]),
  (51, 124, .iload 6, []),
  (53, 0, .iconst (5), []),
  (54, 0, .if_icmp .ne (29), [40]),
  (57, 0, .iload 4, []),
  (59, 0, .ifCond .le (24), [40]),
  (62, 0, .iinc 4 (-1), []),
  (65, 0, .aload_n 0, []),
  (66, 0, .aload_n 0, []),
  (67, 0, .getfield 31, [33, 4, 6, 2]),
  (70, 0, .iload 4, []),
  (72, 0, .iaload, []),
  (73, 0, .iload 5, []),
  (75, 0, .iload 4, []),
  (77, 0, .invokevirtual 70, [32, 30, 4, 0, 0, 4, 0, 4]),
  (80, 0, .goto (25), [51]),
  (83, 124, .iload 6, []),
  (85, 0, .iconst (1), []),
  (86, 0, .if_icmp .eq (9), [46]),
  (89, 0, .iload 6, []),
  (91, 0, .iconst (2), []),
  (92, 0, .if_icmp .ne (13), [51]),
  (95, 0, .aload_n 0, []),
  (96, 0, .iload 5, []),
  (98, 0, .iload 5, []),
  (100, 0, .iload 4, []),
  (102, 0, .invokevirtual 70, [32, 30, 4, 0, 0, 4, 0, 4]),
  (105, 60, .iinc 5 (1), []),
  (108, 0, .goto (-102), [4]),
  (111, 0, .return_, [])]
def c_30 : List En := [
  (0, 0, .aload_n 0, []),
  (1, 0, .getfield 28, [32, 4, 5, 0]),
  (4, 0, .aload_n 0, []),
  (5, 0, .getfield 19, [29, 4, 2, 2]),
  (8, 0, .arraylength, []),
  (9, 0, .if_icmp .ge (43), [30]),
  (12, 0, .aload_n 0, []),
  (13, 0, .getfield 19, [29, 4, 2, 2]),
  (16, 0, .aload_n 0, []),
  (17, 0, .getfield 28, [32, 4, 5, 0]),
  (20, 0, .iload_n 1, []),
  (21, 0, .iastore, []),
  (22, 0, .aload_n 0, []),
  (23, 0, .getfield 22, [30, 4, 3, 2]),
  (26, 0, .aload_n 0, []),
  (27, 0, .getfield 28, [32, 4, 5, 0]),
  (30, 0, .iload_n 2, []),
  (31, 0, .iastore, []),
  (32, 0, .aload_n 0, []),
  (33, 0, .getfield 25, [31, 4, 4, 2]),
  (36, 0, .aload_n 0, []),
  (37, 0, .getfield 28, [32, 4, 5, 0]),
  (40, 0, .iload_n 3, []),
  (41, 0, .iastore, []),
  (42, 0, .aload_n 0, []),
  (43, 0, .dup, []),
  (44, 0, .getfield 28, [32, 4, 5, 0]),
  (47, 0, .iconst (1), []),
  (48, 0, .iadd, []),
  (49, 0, .putfield 28, [32, 4, 5, 0]),
  (52, 0, .return_, [])]
def c_31 : List En := [
  (0, 0, .aload_n 0, []),
  (1, 0, .getfield 15, [28, 4, 1, 0]),
  (4, 0, .aload_n 0, []),
  (5, 0, .getfield 9, [27, 4, 0, 2]),
  (8, 0, .arraylength, []),
  (9, 0, .if_icmp .ge (23), [18]),
  (12, 0, .aload_n 0, []),
  (13, 0, .getfield 9, [27, 4, 0, 2]),
  (16, 0, .aload_n 0, []),
  (17, 0, .getfield 15, [28, 4, 1, 0]),
  (20, 0, .iload_n 1, []),
  (21, 0, .iastore, []),
  (22, 0, .aload_n 0, []),
  (23, 0, .dup, []),
  (24, 0, .getfield 15, [28, 4, 1, 0]),
  (27, 0, .iconst (1), []),
  (28, 0, .iadd, []),
  (29, 0, .putfield 15, [28, 4, 1, 0]),
  (32, 0, .return_, [])]
def c_32 : List En := [
  (0, 0, .aload_n 0, []),
  (1, 0, .iconst (0), []),
  (2, 0, .putfield 25, [38, 5, 4, 1]),
  (5, 0, .return_, [])]
def c_33 : List En := [
  (0, 0, .aload_n 0, []),
  (1, 0, .getfield 30, [5, 0, 5, 0]),
  (4, 0, .bipush (6), []),
  (6, 0, .if_icmp .ge (26), [15]),
  (9, 0, .aload_n 0, []),
  (10, 0, .getfield 25, [4, 0, 4, 2]),
  (13, 0, .aload_n 0, []),
  (14, 0, .getfield 30, [5, 0, 5, 0]),
  (17, 0, .aaload, []),
  (18, 0, .aload_n 0, []),
  (19, 0, .getfield 9, [0, 0, 0, 2]),
  (22, 0, .aload_n 0, []),
  (23, 0, .getfield 13, [1, 0, 1, 0]),
  (26, 0, .invokevirtual 72, [33, 34, 3, 0, 1, 3, 0, 1]),
  (29, 0, .ifCond .ne (5), [17]),
  (32, 0, .iconst (-1), []),
  (33, 0, .ireturn, []),
  (34, 0, .aload_n 0, []),
  (35, 0, .iconst (0), []),
  (36, 0, .putfield 13, [1, 0, 1, 0]),
  (39, 0, .aload_n 0, []),
  (40, 0, .dup, []),
  (41, 0, .getfield 30, [5, 0, 5, 0]),
  (44, 0, .iconst (1), []),
  (45, 0, .iadd, []),
  (46, 0, .putfield 30, [5, 0, 5, 0]),
  (49, 0, .aload_n 0, []),
  (50, 0, .getfield 30, [5, 0, 5, 0]),
  (53, 0, .iconst (1), []),
  (54, 0, .isub, []),
  (55, 0, .ireturn, [])]
def c_34 : List En := [
  (0, 0, .aload_n 0, []),
  (1, 0, .getfield 14, [9, 1, 0, 2]),
  (4, 0, .aload_n 1, []),
  (5, 0, .iload_n 2, []),
  (6, 0, .invokevirtual 31, [34, 11, 3, 0, 0, 3, 0, 3]),
  (9, 0, .aload_n 0, []),
  (10, 0, .aload_n 0, []),
  (11, 0, .getfield 14, [9, 1, 0, 2]),
  (14, 0, .iconst (0), []),
  (15, 0, .iconst (0), []),
  (16, 0, .invokevirtual 35, [35, 24, 3, 0, 1, 4, 0, 3]),
  (19, 0, .putfield 20, [10, 1, 1, 0]),
  (22, 0, .aload_n 0, []),
  (23, 0, .getfield 14, [9, 1, 0, 2]),
  (26, 0, .aload_n 0, []),
  (27, 0, .getfield 20, [10, 1, 1, 0]),
  (30, 0, .invokevirtual 39, [36, 22, 2, 0, 1, 2, 0, 3]),
  (33, 0, .bipush (8), []),
  (35, 0, .if_icmp .ne (38), [36]),
  (38, 0, .aload_n 0, []),
  (39, 0, .getfield 14, [9, 1, 0, 2]),
  (42, 0, .aload_n 0, []),
  (43, 0, .getfield 20, [10, 1, 1, 0]),
  (46, 0, .iconst (1), []),
  (47, 0, .iadd, []),
  (48, 0, .iconst (0), []),
  (49, 0, .invokevirtual 35, [35, 24, 3, 0, 1, 4, 0, 3]),
  (52, 0, .aload_n 0, []),
  (53, 0, .getfield 14, [9, 1, 0, 2]),
  (56, 0, .getfield 43, [47, 3, 6, 0]),
  (59, 0, .if_icmp .ne (14), [36]),
  (62, 0, .aload_n 0, []),
  (63, 0, .invokevirtual 46, [37, 35, 1, 0, 1, 4, 0, 1]),
  (66, 0, .ifCond .eq (7), [36]),
  (69, 0, .iconst (1), []),
  (70, 0, .goto (4), [37]),
  (73, 0, .iconst (0), []),
  (74, 0, .ireturn, [1])]
def c_35 : List En := [
  (0, 0, .iconst (0), []),
  (1, 0, .istore_n 1, []),
  (2, 0, .iconst (0), []),
  (3, 0, .istore_n 2, []),
  (4, 8, .iload_n 2, []),
  (5, 0, .aload_n 0, []),
  (6, 0, .getfield 14, [9, 1, 0, 2]),
  (9, 0, .getfield 43, [47, 3, 6, 0]),
  (12, 0, .if_icmp .ge (51), [37]),
  (15, 0, .aload_n 0, []),
  (16, 0, .getfield 14, [9, 1, 0, 2]),
  (19, 0, .iload_n 2, []),
  (20, 0, .invokevirtual 50, [38, 28, 2, 0, 1, 2, 0, 3]),
  (23, 0, .ifCond .eq (34), [35]),
  (26, 0, .iconst (1), []),
  (27, 0, .aload_n 0, []),
  (28, 0, .getfield 14, [9, 1, 0, 2]),
  (31, 0, .iload_n 2, []),
  (32, 0, .invokevirtual 54, [39, 36, 2, 0, 1, 2, 0, 3]),
  (35, 0, .ishl, []),
  (36, 0, .istore_n 3, []),
  (37, 0, .iload_n 2, []),
  (38, 0, .aload_n 0, []),
  (39, 0, .getfield 20, [10, 1, 1, 0]),
  (42, 0, .if_icmp .le (11), [31]),
  (45, 0, .iload_n 1, []),
  (46, 0, .iload_n 3, []),
  (47, 0, .iand, []),
  (48, 0, .ifCond .ne (5), [31]),
  (51, 0, .iconst (0), []),
  (52, 0, .ireturn, [1]),
  (53, 0, .iload_n 1, []),
  (54, 0, .iload_n 3, []),
  (55, 0, .ior, []),
  (56, 0, .istore_n 1, []),
  (57, 0, .iinc 2 (1), []),
  (60, 0, .goto (-56), [4]),
  (63, 0, .iconst (1), []),
  (64, 0, .ireturn, [1])]
def c_36 : List En := [
  (0, 0, .aload_n 0, []),
  (1, 0, .getfield 9, [13, 3, 0, 2]),
  (4, 0, .aload_n 0, []),
  (5, 0, .getfield 21, [16, 3, 3, 2]),
  (8, 0, .iload_n 1, []),
  (9, 0, .iaload, []),
  (10, 0, .iconst (1), []),
  (11, 0, .iadd, []),
  (12, 0, .iaload, []),
  (13, 0, .bipush (48), []),
  (15, 0, .isub, []),
  (16, 0, .ireturn, [])]
def c_37 : List En := [
  (0, 0, .aload_n 0, []),
  (1, 0, .getfield 30, [5, 0, 5, 0]),
  (4, 0, .ireturn, [])]
def c_38 : List En := [
  (0, 0, .iload_n 1, []),
  (1, 0, .iconst (1), []),
  (2, 0, .if_icmp .lt (9), [6]),
  (5, 0, .iload_n 1, []),
  (6, 0, .bipush (9), []),
  (8, 0, .if_icmp .le (5), [8]),
  (11, 0, .iconst (-1), []),
  (12, 0, .ireturn, []),
  (13, 0, .aload_n 0, []),
  (14, 0, .getfield 36, [6, 0, 6, 2]),
  (17, 0, .getfield 75, [48, 2, 6, 0]),
  (20, 0, .istore_n 2, []),
  (21, 0, .iconst (0), []),
  (22, 0, .istore_n 3, []),
  (23, 0, .iconst (1), []),
  (24, 0, .istore 4, []),
  (26, 0, .aload_n 0, []),
  (27, 0, .getfield 36, [6, 0, 6, 2]),
  (30, 0, .invokevirtual 78, [40, 39, 1, 0, 0, 1, 0, 2]),
  (33, 0, .iconst (0), []),
  (34, 0, .istore 5, []),
  (36, 64, .iload 5, []),
  (38, 0, .iload_n 1, []),
  (39, 0, .if_icmp .ge (74), [56]),
  (42, 0, .iload 4, []),
  (44, 0, .ifCond .eq (69), [56]),
  (47, 0, .aload_n 0, []),
  (48, 0, .getfield 36, [6, 0, 6, 2]),
  (51, 0, .getfield 75, [48, 2, 6, 0]),
  (54, 0, .istore 6, []),
  (56, 0, .aload_n 0, []),
  (57, 0, .getfield 36, [6, 0, 6, 2]),
  (60, 0, .aload_n 0, []),
  (61, 0, .getfield 25, [4, 0, 4, 2]),
  (64, 0, .aload_n 0, []),
  (65, 0, .getfield 30, [5, 0, 5, 0]),
  (68, 0, .invokevirtual 81, [41, 41, 3, 0, 1, 4, 0, 2]),
  (71, 0, .ifCond .ne (14), [44]),
  (74, 0, .aload_n 0, []),
  (75, 0, .getfield 36, [6, 0, 6, 2]),
  (78, 0, .iload_n 2, []),
  (79, 0, .invokevirtual 85, [42, 57, 2, 0, 0, 2, 0, 2]),
  (82, 0, .bipush (-2), []),
  (84, 0, .ireturn, []),
  (85, 0, .iinc 3 (1), []),
  (88, 0, .aload_n 0, []),
  (89, 0, .getfield 36, [6, 0, 6, 2]),
  (92, 0, .getfield 75, [48, 2, 6, 0]),
  (95, 0, .iload 6, []),
  (97, 0, .if_icmp .le (7), [52]),
  (100, 0, .iconst (1), []),
  (101, 0, .goto (4), [53]),
  (104, 0, .iconst (0), []),
  (105, 0, .istore 4, []),
  (107, 64, .iinc 5 (1), []),
  (110, 0, .goto (-74), [21]),
  (113, 0, .aload_n 0, []),
  (114, 0, .iload_n 3, []),
  (115, 0, .putfield 40, [7, 0, 7, 0]),
  (118, 0, .aload_n 0, []),
  (119, 0, .getfield 46, [8, 0, 8, 2]),
  (122, 0, .invokevirtual 60, [7, 32, 1, 0, 0, 1, 0, 5]),
  (125, 0, .aload_n 0, []),
  (126, 0, .getfield 36, [6, 0, 6, 2]),
  (129, 0, .getfield 75, [48, 2, 6, 0]),
  (132, 0, .iload_n 2, []),
  (133, 0, .isub, []),
  (134, 0, .ireturn, [])]
def c_39 : List En := [
  (0, 0, .aload_n 0, []),
  (1, 0, .getfield 23, [22, 2, 2, 2]),
  (4, 0, .aload_n 0, []),
  (5, 0, .getfield 14, [20, 2, 0, 2]),
  (8, 0, .invokevirtual 70, [43, 40, 2, 0, 0, 2, 0, 3]),
  (11, 0, .return_, [])]
def c_40 : List En := [
  (0, 0, .aload_n 0, []),
  (1, 0, .invokevirtual 34, [11, 12, 1, 0, 0, 1, 0, 3]),
  (4, 0, .aload_n 1, []),
  (5, 0, .getfield 27, [18, 3, 5, 0]),
  (8, 0, .aload_n 0, []),
  (9, 0, .getfield 9, [13, 3, 0, 2]),
  (12, 0, .arraylength, []),
  (13, 0, .if_icmp .le (4), [9]),
  (16, 0, .return_, []),
  (17, 0, .aload_n 0, []),
  (18, 0, .aload_n 1, []),
  (19, 0, .getfield 27, [18, 3, 5, 0]),
  (22, 0, .putfield 27, [18, 3, 5, 0]),
  (25, 0, .aload_n 0, []),
  (26, 0, .aload_n 1, []),
  (27, 0, .getfield 31, [19, 3, 6, 0]),
  (30, 0, .putfield 31, [19, 3, 6, 0]),
  (33, 0, .aload_n 1, []),
  (34, 0, .getfield 9, [13, 3, 0, 2]),
  (37, 0, .iconst (0), []),
  (38, 0, .aload_n 0, []),
  (39, 0, .getfield 9, [13, 3, 0, 2]),
  (42, 0, .iconst (0), []),
  (43, 0, .aload_n 0, []),
  (44, 0, .getfield 27, [18, 3, 5, 0]),
  (47, 0, .invokestatic 46, [9, 3]),
  (50, 4, .aload_n 1, []),
  (51, 0, .getfield 15, [14, 3, 1, 2]),
  (54, 0, .iconst (0), []),
  (55, 0, .aload_n 0, []),
  (56, 0, .getfield 15, [14, 3, 1, 2]),
  (59, 0, .iconst (0), []),
  (60, 0, .aload_n 0, []),
  (61, 0, .getfield 27, [18, 3, 5, 0]),
  (64, 0, .invokestatic 46, [9, 3]),
  (67, 4, .aload_n 1, []),
  (68, 0, .getfield 18, [15, 3, 2, 2]),
  (71, 0, .iconst (0), []),
  (72, 0, .aload_n 0, []),
  (73, 0, .getfield 18, [15, 3, 2, 2]),
  (76, 0, .iconst (0), []),
  (77, 0, .aload_n 0, []),
  (78, 0, .getfield 31, [19, 3, 6, 0]),
  (81, 0, .invokestatic 46, [9, 3]),
  (84, 4, .aload_n 1, []),
  (85, 0, .getfield 21, [16, 3, 3, 2]),
  (88, 0, .iconst (0), []),
  (89, 0, .aload_n 0, []),
  (90, 0, .getfield 21, [16, 3, 3, 2]),
  (93, 0, .iconst (0), []),
  (94, 0, .aload_n 0, []),
  (95, 0, .getfield 31, [19, 3, 6, 0]),
  (98, 0, .invokestatic 46, [9, 3]),
  (101, 4, .aload_n 1, []),
  (102, 0, .getfield 24, [17, 3, 4, 2]),
  (105, 0, .iconst (0), []),
  (106, 0, .aload_n 0, []),
  (107, 0, .getfield 24, [17, 3, 4, 2]),
  (110, 0, .iconst (0), []),
  (111, 0, .aload_n 0, []),
  (112, 0, .getfield 31, [19, 3, 6, 0]),
  (115, 0, .invokestatic 46, [9, 3]),
  (118, 0, .return_, [])]
def c_41 : List En := [
  (0, 0, .iconst (0), []),
  (1, 0, .istore_n 3, []),
  (2, 16, .iload_n 3, []),
  (3, 0, .iload_n 2, []),
  (4, 0, .if_icmp .ge (27), [19]),
  (7, 0, .iload_n 3, []),
  (8, 0, .aload_n 1, []),
  (9, 0, .arraylength, []),
  (10, 0, .if_icmp .ge (21), [19]),
  (13, 0, .aload_n 0, []),
  (14, 0, .aload_n 1, []),
  (15, 0, .iload_n 3, []),
  (16, 0, .aaload, []),
  (17, 0, .invokevirtual 79, [44, 42, 2, 0, 1, 7, 0, 2]),
  (20, 0, .ifCond .ne (5), [17]),
  (23, 0, .iconst (0), []),
  (24, 0, .ireturn, [1]),
  (25, 0, .iinc 3 (1), []),
  (28, 0, .goto (-26), [2]),
  (31, 0, .iconst (1), []),
  (32, 0, .ireturn, [1])]
def c_42 : List En := [
  (0, 0, .aload_n 0, []),
  (1, 0, .getfield 40, [26, 2, 6, 0]),
  (4, 0, .istore_n 2, []),
  (5, 0, .iconst (0), []),
  (6, 0, .istore_n 3, []),
  (7, 0, .aload_n 0, []),
  (8, 0, .getfield 20, [21, 2, 1, 2]),
  (11, 0, .invokevirtual 83, [45, 12, 1, 0, 0, 1, 0, 3]),
  (14, 0, .iconst (0), []),
  (15, 0, .istore 4, []),
  (17, 32, .iload 4, []),
  (19, 0, .aload_n 0, []),
  (20, 0, .getfield 14, [20, 2, 0, 2]),
  (23, 0, .getfield 86, [49, 3, 6, 0]),
  (26, 0, .if_icmp .ge (148), [87]),
  (29, 0, .aload_n 0, []),
  (30, 0, .getfield 20, [21, 2, 1, 2]),
  (33, 0, .aload_n 0, []),
  (34, 0, .getfield 14, [20, 2, 0, 2]),
  (37, 0, .iload 4, []),
  (39, 0, .invokevirtual 89, [46, 43, 3, 0, 0, 5, 0, 3]),
  (42, 0, .aload_n 0, []),
  (43, 0, .getfield 36, [25, 2, 5, 2]),
  (46, 0, .iload 4, []),
  (48, 0, .aload_n 0, []),
  (49, 0, .getfield 20, [21, 2, 1, 2]),
  (52, 0, .getfield 86, [49, 3, 6, 0]),
  (55, 0, .iastore, []),
  (56, 0, .aload_n 0, []),
  (57, 0, .getfield 20, [21, 2, 1, 2]),
  (60, 0, .aload_n 0, []),
  (61, 0, .getfield 14, [20, 2, 0, 2]),
  (64, 0, .iload 4, []),
  (66, 0, .iload 4, []),
  (68, 0, .iconst (1), []),
  (69, 0, .iadd, []),
  (70, 0, .invokevirtual 93, [47, 45, 4, 0, 0, 7, 0, 3]),
  (73, 32, .aload_n 0, []),
  (74, 0, .getfield 32, [24, 2, 4, 2]),
  (77, 0, .iload_n 3, []),
  (78, 0, .iload 4, []),
  (80, 0, .invokevirtual 97, [48, 47, 3, 0, 1, 3, 0, 4]),
  (83, 0, .ifCond .eq (85), [85]),
  (86, 0, .aload_n 0, []),
  (87, 0, .getfield 36, [25, 2, 5, 2]),
  (90, 0, .aload_n 0, []),
  (91, 0, .getfield 32, [24, 2, 4, 2]),
  (94, 0, .getfield 57, [43, 4, 2, 2]),
  (97, 0, .iload_n 3, []),
  (98, 0, .iaload, []),
  (99, 0, .iaload, []),
  (100, 0, .istore 5, []),
  (102, 64, .aload_n 0, []),
  (103, 0, .getfield 14, [20, 2, 0, 2]),
  (106, 0, .getfield 101, [50, 3, 5, 0]),
  (109, 0, .aload_n 0, []),
  (110, 0, .getfield 14, [20, 2, 0, 2]),
  (113, 0, .getfield 60, [44, 3, 4, 2]),
  (116, 0, .iload 4, []),
  (118, 0, .iaload, []),
  (119, 0, .isub, []),
  (120, 0, .istore 6, []),
  (122, 128, .aload_n 1, []),
  (123, 0, .aload_n 0, []),
  (124, 0, .getfield 20, [21, 2, 1, 2]),
  (127, 0, .iload 5, []),
  (129, 0, .aload_n 0, []),
  (130, 0, .getfield 20, [21, 2, 1, 2]),
  (133, 0, .getfield 86, [49, 3, 6, 0]),
  (136, 0, .invokevirtual 73, [49, 48, 4, 0, 1, 6, 0, 1]),
  (139, 0, .ifCond .eq (26), [84]),
  (142, 0, .aload_n 0, []),
  (143, 0, .aload_n 1, []),
  (144, 0, .iload 5, []),
  (146, 0, .aload_n 0, []),
  (147, 0, .getfield 32, [24, 2, 4, 2]),
  (150, 0, .getfield 104, [51, 4, 4, 2]),
  (153, 0, .iload_n 3, []),
  (154, 0, .iaload, []),
  (155, 0, .iload 6, []),
  (157, 0, .invokevirtual 107, [50, 52, 5, 0, 1, 5, 0, 2]),
  (160, 0, .ifCond .ne (5), [84]),
  (163, 0, .iconst (0), []),
  (164, 0, .ireturn, [1]),
  (165, 32, .iinc 3 (1), []),
  (168, 32, .iinc 4 (1), []),
  (171, 0, .goto (-154), [10]),
  (174, 6, .aload_n 0, []),
  (175, 0, .getfield 20, [21, 2, 1, 2]),
  (178, 0, .aload_n 0, []),
  (179, 0, .getfield 14, [20, 2, 0, 2]),
  (182, 0, .aload_n 0, []),
  (183, 0, .getfield 14, [20, 2, 0, 2]),
  (186, 0, .getfield 86, [49, 3, 6, 0]),
  (189, 0, .invokevirtual 89, [46, 43, 3, 0, 0, 5, 0, 3]),
  (192, 6, .aload_n 0, []),
  (193, 0, .getfield 40, [26, 2, 6, 0]),
  (196, 0, .iload_n 2, []),
  (197, 0, .if_icmp .le (34), [114]),
  (200, 0, .aload_n 0, []),
  (201, 0, .getfield 14, [20, 2, 0, 2]),
  (204, 0, .astore 4, []),
  (206, 0, .aload_n 0, []),
  (207, 0, .aload_n 0, []),
  (208, 0, .getfield 20, [21, 2, 1, 2]),
  (211, 0, .putfield 14, [20, 2, 0, 2]),
  (214, 0, .aload_n 0, []),
  (215, 0, .aload 4, []),
  (217, 0, .putfield 20, [21, 2, 1, 2]),
  (220, 0, .aload_n 0, []),
  (221, 0, .getfield 32, [24, 2, 4, 2]),
  (224, 0, .aload_n 0, []),
  (225, 0, .getfield 14, [20, 2, 0, 2]),
  (228, 0, .invokevirtual 48, [9, 21, 2, 0, 0, 4, 0, 4]),
  (231, 0, .iconst (1), []),
  (232, 0, .ireturn, [1])]
def c_43 : List En := [
  (0, 0, .iload_n 2, []),
  (1, 0, .ifCond .le (22), [13]),
  (4, 0, .iload_n 2, []),
  (5, 0, .aload_n 1, []),
  (6, 0, .getfield 31, [19, 3, 6, 0]),
  (9, 0, .if_icmp .gt (14), [13]),
  (12, 0, .aload_n 1, []),
  (13, 0, .getfield 24, [17, 3, 4, 2]),
  (16, 0, .iload_n 2, []),
  (17, 0, .iconst (1), []),
  (18, 0, .isub, []),
  (19, 0, .iaload, []),
  (20, 0, .goto (4), [14]),
  (23, 0, .iconst (0), []),
  (24, 0, .istore_n 3, []),
  (25, 16, .iload_n 2, []),
  (26, 0, .ifCond .lt (20), [26]),
  (29, 0, .iload_n 2, []),
  (30, 0, .aload_n 1, []),
  (31, 0, .getfield 31, [19, 3, 6, 0]),
  (34, 0, .if_icmp .ge (12), [26]),
  (37, 0, .aload_n 1, []),
  (38, 0, .getfield 21, [16, 3, 3, 2]),
  (41, 0, .iload_n 2, []),
  (42, 0, .iaload, []),
  (43, 0, .goto (7), [28]),
  (46, 0, .aload_n 1, []),
  (47, 0, .getfield 27, [18, 3, 5, 0]),
  (50, 0, .istore 4, []),
  (52, 28, .aload_n 0, []),
  (53, 0, .aload_n 1, []),
  (54, 0, .iload_n 3, []),
  (55, 0, .iload 4, []),
  (57, 0, .invokevirtual 99, [51, 44, 4, 0, 0, 5, 0, 3]),
  (60, 0, .return_, [])]
def c_44 : List En := [
  (0, 0, .iload_n 3, []),
  (1, 0, .iload_n 2, []),
  (2, 0, .isub, []),
  (3, 0, .istore 4, []),
  (5, 0, .iload 4, []),
  (7, 0, .ifCond .le (18), [14]),
  (10, 0, .aload_n 0, []),
  (11, 0, .getfield 27, [18, 3, 5, 0]),
  (14, 0, .iload 4, []),
  (16, 0, .iadd, []),
  (17, 0, .aload_n 0, []),
  (18, 0, .getfield 9, [13, 3, 0, 2]),
  (21, 0, .arraylength, []),
  (22, 0, .if_icmp .le (4), [15]),
  (25, 0, .return_, []),
  (26, 0, .aload_n 1, []),
  (27, 0, .getfield 9, [13, 3, 0, 2]),
  (30, 0, .iload_n 2, []),
  (31, 0, .aload_n 0, []),
  (32, 0, .getfield 9, [13, 3, 0, 2]),
  (35, 0, .aload_n 0, []),
  (36, 0, .getfield 27, [18, 3, 5, 0]),
  (39, 0, .iload 4, []),
  (41, 0, .invokestatic 46, [9, 3]),
  (44, 0, .aload_n 1, []),
  (45, 0, .getfield 15, [14, 3, 1, 2]),
  (48, 0, .iload_n 2, []),
  (49, 0, .aload_n 0, []),
  (50, 0, .getfield 15, [14, 3, 1, 2]),
  (53, 0, .aload_n 0, []),
  (54, 0, .getfield 27, [18, 3, 5, 0]),
  (57, 0, .iload 4, []),
  (59, 0, .invokestatic 46, [9, 3]),
  (62, 0, .aload_n 0, []),
  (63, 0, .dup, []),
  (64, 0, .getfield 27, [18, 3, 5, 0]),
  (67, 0, .iload 4, []),
  (69, 0, .iadd, []),
  (70, 0, .putfield 27, [18, 3, 5, 0]),
  (73, 0, .return_, [])]
def c_45 : List En := [
  (0, 0, .aload_n 1, []),
  (1, 0, .iload_n 2, []),
  (2, 0, .iload_n 3, []),
  (3, 0, .invokevirtual 96, [52, 46, 3, 0, 1, 3, 0, 3]),
  (6, 0, .istore 4, []),
  (8, 0, .iload 4, []),
  (10, 0, .ifCond .eq (18), [15]),
  (13, 0, .aload_n 0, []),
  (14, 0, .getfield 27, [18, 3, 5, 0]),
  (17, 0, .iload 4, []),
  (19, 0, .iadd, []),
  (20, 0, .aload_n 0, []),
  (21, 0, .getfield 9, [13, 3, 0, 2]),
  (24, 0, .arraylength, []),
  (25, 0, .if_icmp .le (4), [16]),
  (28, 0, .return_, []),
  (29, 0, .aload_n 0, []),
  (30, 0, .getfield 27, [18, 3, 5, 0]),
  (33, 0, .aload_n 1, []),
  (34, 0, .getfield 21, [16, 3, 3, 2]),
  (37, 0, .iload_n 2, []),
  (38, 0, .iaload, []),
  (39, 0, .isub, []),
  (40, 0, .istore 5, []),
  (42, 0, .iload_n 2, []),
  (43, 0, .istore 6, []),
  (45, 112, .iload 6, []),
  (47, 0, .iload_n 3, []),
  (48, 0, .if_icmp .ge (73), [68]),
  (51, 0, .aload_n 0, []),
  (52, 0, .getfield 18, [15, 3, 2, 2]),
  (55, 0, .aload_n 0, []),
  (56, 0, .getfield 31, [19, 3, 6, 0]),
  (59, 0, .aload_n 1, []),
  (60, 0, .getfield 18, [15, 3, 2, 2]),
  (63, 0, .iload 6, []),
  (65, 0, .iaload, []),
  (66, 0, .iastore, []),
  (67, 112, .aload_n 0, []),
  (68, 0, .getfield 21, [16, 3, 3, 2]),
  (71, 0, .aload_n 0, []),
  (72, 0, .getfield 31, [19, 3, 6, 0]),
  (75, 0, .aload_n 1, []),
  (76, 0, .getfield 21, [16, 3, 3, 2]),
  (79, 0, .iload 6, []),
  (81, 0, .iaload, []),
  (82, 0, .iload 5, []),
  (84, 0, .iadd, []),
  (85, 0, .iastore, []),
  (86, 112, .aload_n 0, []),
  (87, 0, .getfield 24, [17, 3, 4, 2]),
  (90, 0, .aload_n 0, []),
  (91, 0, .getfield 31, [19, 3, 6, 0]),
  (94, 0, .aload_n 1, []),
  (95, 0, .getfield 24, [17, 3, 4, 2]),
  (98, 0, .iload 6, []),
  (100, 0, .iaload, []),
  (101, 0, .iload 5, []),
  (103, 0, .iadd, []),
  (104, 0, .iastore, []),
  (105, 112, .aload_n 0, []),
  (106, 0, .dup, []),
  (107, 0, .getfield 31, [19, 3, 6, 0]),
  (110, 0, .iconst (1), []),
  (111, 0, .iadd, []),
  (112, 0, .putfield 31, [19, 3, 6, 0]),
  (115, 0, .iinc 6 (1), []),
  (118, 0, .goto (-73), [26]),
  (121, 16, .aload_n 0, []),
  (122, 0, .aload_n 1, []),
  (123, 0, .aload_n 1, []),
  (124, 0, .getfield 21, [16, 3, 3, 2]),
  (127, 0, .iload_n 2, []),
  (128, 0, .iaload, []),
  (129, 0, .aload_n 1, []),
  (130, 0, .getfield 24, [17, 3, 4, 2]),
  (133, 0, .iload_n 3, []),
  (134, 0, .iconst (1), []),
  (135, 0, .isub, []),
  (136, 0, .iaload, []),
  (137, 0, .invokevirtual 99, [51, 44, 4, 0, 0, 5, 0, 3]),
  (140, 0, .return_, [])]
def c_46 : List En := [
  (0, 0, .iload_n 1, []),
  (1, 0, .ifCond .lt (34), [21]),
  (4, 0, .iload_n 1, []),
  (5, 0, .iload_n 2, []),
  (6, 0, .if_icmp .ge (29), [21]),
  (9, 0, .iload_n 2, []),
  (10, 0, .aload_n 0, []),
  (11, 0, .getfield 31, [19, 3, 6, 0]),
  (14, 0, .if_icmp .gt (21), [21]),
  (17, 0, .aload_n 0, []),
  (18, 0, .getfield 24, [17, 3, 4, 2]),
  (21, 0, .iload_n 2, []),
  (22, 0, .iconst (1), []),
  (23, 0, .isub, []),
  (24, 0, .iaload, []),
  (25, 0, .aload_n 0, []),
  (26, 0, .getfield 21, [16, 3, 3, 2]),
  (29, 0, .iload_n 1, []),
  (30, 0, .iaload, []),
  (31, 0, .isub, []),
  (32, 0, .goto (4), [22]),
  (35, 0, .iconst (0), []),
  (36, 0, .ireturn, [])]
def c_47 : List En := [
  (0, 0, .iload_n 1, []),
  (1, 0, .aload_n 0, []),
  (2, 0, .getfield 28, [32, 4, 5, 0]),
  (5, 0, .if_icmp .ge (17), [12]),
  (8, 0, .aload_n 0, []),
  (9, 0, .getfield 22, [30, 4, 3, 2]),
  (12, 0, .iload_n 1, []),
  (13, 0, .iaload, []),
  (14, 0, .iload_n 2, []),
  (15, 0, .if_icmp .ne (7), [12]),
  (18, 0, .iconst (1), []),
  (19, 0, .goto (4), [13]),
  (22, 0, .iconst (0), []),
  (23, 0, .ireturn, [1])]
def c_48 : List En := [
  (0, 0, .iconst (0), []),
  (1, 0, .istore 4, []),
  (3, 32, .iload 4, []),
  (5, 0, .bipush (10), []),
  (7, 0, .if_icmp .ge (17), [12]),
  (10, 0, .aload_n 0, []),
  (11, 0, .getfield 24, [11, 1, 2, 2]),
  (14, 0, .iload 4, []),
  (16, 0, .iconst (-1), []),
  (17, 0, .iastore, []),
  (18, 0, .iinc 4 (1), []),
  (21, 0, .goto (-18), [2]),
  (24, 0, .iload_n 2, []),
  (25, 0, .istore 4, []),
  (27, 0, .iconst (0), []),
  (28, 0, .istore 5, []),
  (30, 60, .iload 5, []),
  (32, 0, .aload_n 0, []),
  (33, 0, .getfield 20, [10, 1, 1, 0]),
  (36, 0, .if_icmp .ge (75), [55]),
  (39, 0, .aload_n 0, []),
  (40, 0, .getfield 14, [9, 1, 0, 2]),
  (43, 0, .iload 5, []),
  (45, 0, .invokevirtual 50, [38, 28, 2, 0, 1, 2, 0, 3]),
  (48, 0, .ifCond .eq (24), [35]),
  (51, 0, .aload_n 0, []),
  (52, 0, .aload_n 0, []),
  (53, 0, .getfield 14, [9, 1, 0, 2]),
  (56, 0, .iload 5, []),
  (58, 0, .invokevirtual 54, [39, 36, 2, 0, 1, 2, 0, 3]),
  (61, 0, .aload_n 1, []),
  (62, 0, .iload 4, []),
  (64, 0, .invokevirtual 57, [53, 49, 4, 0, 1, 8, 0, 1]),
  (67, 0, .istore 4, []),
  (69, 0, .goto (28), [48]),
  (72, 0, .aload_n 0, []),
  (73, 0, .getfield 14, [9, 1, 0, 2]),
  (76, 0, .iload 5, []),
  (78, 0, .aload_n 1, []),
  (79, 0, .iload 4, []),
  (81, 0, .invokevirtual 61, [54, 51, 4, 0, 1, 6, 0, 3]),
  (84, 0, .ifCond .eq (10), [46]),
  (87, 0, .iload 4, []),
  (89, 0, .iconst (1), []),
  (90, 0, .iadd, []),
  (91, 0, .goto (4), [47]),
  (94, 0, .iconst (-1), []),
  (95, 0, .istore 4, []),
  (97, 60, .iload 4, []),
  (99, 0, .iconst (-1), []),
  (100, 0, .if_icmp .ne (5), [53]),
  (103, 0, .iconst (0), []),
  (104, 0, .ireturn, [1]),
  (105, 0, .iinc 5 (1), []),
  (108, 0, .goto (-78), [16]),
  (111, 0, .iload 4, []),
  (113, 0, .iload_n 3, []),
  (114, 0, .if_icmp .ne (7), [60]),
  (117, 0, .iconst (1), []),
  (118, 0, .goto (4), [61]),
  (121, 0, .iconst (0), []),
  (122, 0, .ireturn, [1])]
def c_49 : List En := [
  (0, 0, .aload_n 2, []),
  (1, 0, .iload_n 3, []),
  (2, 0, .iconst (0), []),
  (3, 0, .invokevirtual 35, [35, 24, 3, 0, 1, 4, 0, 3]),
  (6, 0, .istore 4, []),
  (8, 0, .iload 4, []),
  (10, 0, .iconst (-1), []),
  (11, 0, .if_icmp .ne (5), [10]),
  (14, 0, .iconst (-1), []),
  (15, 0, .ireturn, []),
  (16, 0, .aload_n 0, []),
  (17, 0, .getfield 24, [11, 1, 2, 2]),
  (20, 0, .iload_n 1, []),
  (21, 0, .iaload, []),
  (22, 0, .istore 5, []),
  (24, 0, .iload 5, []),
  (26, 0, .iconst (-1), []),
  (27, 0, .if_icmp .ne (21), [30]),
  (30, 0, .aload_n 0, []),
  (31, 0, .getfield 24, [11, 1, 2, 2]),
  (34, 0, .iload_n 1, []),
  (35, 0, .iload_n 3, []),
  (36, 0, .iastore, []),
  (37, 0, .aload_n 0, []),
  (38, 0, .getfield 28, [12, 1, 3, 2]),
  (41, 0, .iload_n 1, []),
  (42, 0, .iload 4, []),
  (44, 0, .iastore, []),
  (45, 0, .iload 4, []),
  (47, 0, .ireturn, []),
  (48, 0, .iload 4, []),
  (50, 0, .iload_n 3, []),
  (51, 0, .isub, []),
  (52, 0, .istore 6, []),
  (54, 0, .aload_n 0, []),
  (55, 0, .getfield 28, [12, 1, 3, 2]),
  (58, 0, .iload_n 1, []),
  (59, 0, .iaload, []),
  (60, 0, .iload 5, []),
  (62, 0, .isub, []),
  (63, 0, .iload 6, []),
  (65, 0, .if_icmp .ne (19), [50]),
  (68, 0, .aload_n 2, []),
  (69, 0, .iload 5, []),
  (71, 0, .iload_n 3, []),
  (72, 0, .iload 6, []),
  (74, 0, .invokevirtual 65, [55, 50, 4, 0, 1, 5, 0, 3]),
  (77, 0, .ifCond .eq (7), [50]),
  (80, 0, .iconst (1), []),
  (81, 0, .goto (4), [51]),
  (84, 0, .iconst (0), []),
  (85, 0, .istore 7, []),
  (87, 145, .iload 7, []),
  (89, 0, .ifCond .eq (8), [56]),
  (92, 0, .iload 4, []),
  (94, 0, .goto (4), [57]),
  (97, 0, .iconst (-1), []),
  (98, 0, .ireturn, [])]
def c_50 : List En := [
  (0, 0, .iconst (0), []),
  (1, 0, .istore 4, []),
  (3, 32, .iload 4, []),
  (5, 0, .iload_n 3, []),
  (6, 0, .if_icmp .ge (27), [19]),
  (9, 0, .aload_n 0, []),
  (10, 0, .iload_n 1, []),
  (11, 0, .iload 4, []),
  (13, 0, .iadd, []),
  (14, 0, .aload_n 0, []),
  (15, 0, .iload_n 2, []),
  (16, 0, .iload 4, []),
  (18, 0, .iadd, []),
  (19, 0, .invokevirtual 92, [56, 51, 4, 0, 1, 6, 0, 3]),
  (22, 0, .ifCond .ne (5), [17]),
  (25, 0, .iconst (0), []),
  (26, 0, .ireturn, [1]),
  (27, 0, .iinc 4 (1), []),
  (30, 0, .goto (-27), [2]),
  (33, 0, .iconst (1), []),
  (34, 0, .ireturn, [1])]
def c_51 : List En := [
  (0, 0, .iload_n 1, []),
  (1, 0, .ifCond .lt (23), [12]),
  (4, 0, .iload_n 1, []),
  (5, 0, .aload_n 0, []),
  (6, 0, .getfield 31, [19, 3, 6, 0]),
  (9, 0, .if_icmp .ge (15), [12]),
  (12, 0, .iload_n 3, []),
  (13, 0, .ifCond .lt (11), [12]),
  (16, 0, .iload_n 3, []),
  (17, 0, .aload_n 2, []),
  (18, 0, .getfield 31, [19, 3, 6, 0]),
  (21, 0, .if_icmp .lt (5), [14]),
  (24, 0, .iconst (0), []),
  (25, 0, .ireturn, [1]),
  (26, 0, .aload_n 0, []),
  (27, 0, .getfield 24, [17, 3, 4, 2]),
  (30, 0, .iload_n 1, []),
  (31, 0, .iaload, []),
  (32, 0, .aload_n 0, []),
  (33, 0, .getfield 21, [16, 3, 3, 2]),
  (36, 0, .iload_n 1, []),
  (37, 0, .iaload, []),
  (38, 0, .isub, []),
  (39, 0, .istore 4, []),
  (41, 0, .iload 4, []),
  (43, 0, .aload_n 2, []),
  (44, 0, .getfield 24, [17, 3, 4, 2]),
  (47, 0, .iload_n 3, []),
  (48, 0, .iaload, []),
  (49, 0, .aload_n 2, []),
  (50, 0, .getfield 21, [16, 3, 3, 2]),
  (53, 0, .iload_n 3, []),
  (54, 0, .iaload, []),
  (55, 0, .isub, []),
  (56, 0, .if_icmp .eq (5), [37]),
  (59, 0, .iconst (0), []),
  (60, 0, .ireturn, [1]),
  (61, 0, .iconst (0), []),
  (62, 0, .istore 5, []),
  (64, 64, .iload 5, []),
  (66, 0, .iload 4, []),
  (68, 0, .if_icmp .ge (42), [65]),
  (71, 0, .aload_n 0, []),
  (72, 0, .getfield 9, [13, 3, 0, 2]),
  (75, 0, .aload_n 0, []),
  (76, 0, .getfield 21, [16, 3, 3, 2]),
  (79, 0, .iload_n 1, []),
  (80, 0, .iaload, []),
  (81, 0, .iload 5, []),
  (83, 0, .iadd, []),
  (84, 0, .iaload, []),
  (85, 0, .aload_n 2, []),
  (86, 0, .getfield 9, [13, 3, 0, 2]),
  (89, 0, .aload_n 2, []),
  (90, 0, .getfield 21, [16, 3, 3, 2]),
  (93, 0, .iload_n 3, []),
  (94, 0, .iaload, []),
  (95, 0, .iload 5, []),
  (97, 0, .iadd, []),
  (98, 0, .iaload, []),
  (99, 0, .if_icmp .eq (5), [63]),
  (102, 0, .iconst (0), []),
  (103, 0, .ireturn, [1]),
  (104, 0, .iinc 5 (1), []),
  (107, 0, .goto (-43), [39]),
  (110, 0, .iconst (1), []),
  (111, 0, .ireturn, [1])]
def c_52 : List En := [
  (0, 0, .aload_n 0, []),
  (1, 0, .getfield 20, [21, 2, 1, 2]),
  (4, 0, .getfield 54, [42, 3, 3, 2]),
  (7, 0, .iload_n 2, []),
  (8, 0, .iaload, []),
  (9, 0, .aload_n 1, []),
  (10, 0, .aload_n 0, []),
  (11, 0, .getfield 20, [21, 2, 1, 2]),
  (14, 0, .invokevirtual 111, [57, 53, 2, 0, 1, 5, 0, 1]),
  (17, 0, .iadd, []),
  (18, 0, .iload 4, []),
  (20, 0, .iadd, []),
  (21, 0, .bipush (120), []),
  (23, 0, .if_icmp .le (5), [16]),
  (26, 0, .iconst (0), []),
  (27, 0, .ireturn, [1]),
  (28, 0, .aload_n 1, []),
  (29, 0, .aload_n 0, []),
  (30, 0, .getfield 26, [23, 2, 3, 2]),
  (33, 0, .aload_n 0, []),
  (34, 0, .getfield 20, [21, 2, 1, 2]),
  (37, 0, .aload_n 0, []),
  (38, 0, .getfield 40, [26, 2, 6, 0]),
  (41, 0, .iconst (1), []),
  (42, 0, .iadd, []),
  (43, 0, .invokevirtual 115, [58, 54, 4, 0, 0, 6, 0, 1]),
  (46, 0, .iload_n 3, []),
  (47, 0, .aload_n 0, []),
  (48, 0, .getfield 26, [23, 2, 3, 2]),
  (51, 0, .invokevirtual 119, [59, 55, 1, 0, 1, 4, 0, 3]),
  (54, 0, .iadd, []),
  (55, 0, .bipush (12), []),
  (57, 0, .if_icmp .le (5), [35]),
  (60, 0, .iconst (0), []),
  (61, 0, .ireturn, [1]),
  (62, 0, .aload_n 0, []),
  (63, 0, .getfield 20, [21, 2, 1, 2]),
  (66, 0, .iload_n 2, []),
  (67, 0, .invokevirtual 123, [60, 56, 2, 0, 0, 2, 0, 3]),
  (70, 0, .aload_n 0, []),
  (71, 0, .getfield 20, [21, 2, 1, 2]),
  (74, 0, .aload_n 0, []),
  (75, 0, .getfield 26, [23, 2, 3, 2]),
  (78, 0, .iconst (0), []),
  (79, 0, .aload_n 0, []),
  (80, 0, .getfield 26, [23, 2, 3, 2]),
  (83, 0, .getfield 86, [49, 3, 6, 0]),
  (86, 0, .invokevirtual 93, [47, 45, 4, 0, 0, 7, 0, 3]),
  (89, 0, .aload_n 0, []),
  (90, 0, .dup, []),
  (91, 0, .getfield 40, [26, 2, 6, 0]),
  (94, 0, .iconst (1), []),
  (95, 0, .iadd, []),
  (96, 0, .putfield 40, [26, 2, 6, 0]),
  (99, 0, .iconst (1), []),
  (100, 0, .ireturn, [1])]
def c_53 : List En := [
  (0, 0, .aload_n 0, []),
  (1, 0, .getfield 14, [9, 1, 0, 2]),
  (4, 0, .aload_n 0, []),
  (5, 0, .getfield 20, [10, 1, 1, 0]),
  (8, 0, .iconst (1), []),
  (9, 0, .iadd, []),
  (10, 0, .aload_n 0, []),
  (11, 0, .getfield 14, [9, 1, 0, 2]),
  (14, 0, .getfield 43, [47, 3, 6, 0]),
  (17, 0, .invokevirtual 69, [61, 46, 3, 0, 1, 3, 0, 3]),
  (20, 0, .istore_n 2, []),
  (21, 0, .aload_n 0, []),
  (22, 0, .getfield 20, [10, 1, 1, 0]),
  (25, 0, .iconst (1), []),
  (26, 0, .iadd, []),
  (27, 0, .istore_n 3, []),
  (28, 16, .iload_n 3, []),
  (29, 0, .aload_n 0, []),
  (30, 0, .getfield 14, [9, 1, 0, 2]),
  (33, 0, .getfield 43, [47, 3, 6, 0]),
  (36, 0, .if_icmp .ge (63), [54]),
  (39, 0, .aload_n 0, []),
  (40, 0, .getfield 14, [9, 1, 0, 2]),
  (43, 0, .iload_n 3, []),
  (44, 0, .invokevirtual 50, [38, 28, 2, 0, 1, 2, 0, 3]),
  (47, 0, .ifCond .eq (46), [52]),
  (50, 0, .aload_n 0, []),
  (51, 0, .getfield 14, [9, 1, 0, 2]),
  (54, 0, .iload_n 3, []),
  (55, 0, .invokevirtual 54, [39, 36, 2, 0, 1, 2, 0, 3]),
  (58, 0, .istore 4, []),
  (60, 0, .iload_n 2, []),
  (61, 0, .aload_n 1, []),
  (62, 0, .aload_n 0, []),
  (63, 0, .getfield 24, [11, 1, 2, 2]),
  (66, 0, .iload 4, []),
  (68, 0, .iaload, []),
  (69, 0, .aload_n 0, []),
  (70, 0, .getfield 28, [12, 1, 3, 2]),
  (73, 0, .iload 4, []),
  (75, 0, .iaload, []),
  (76, 0, .invokevirtual 69, [61, 46, 3, 0, 1, 3, 0, 3]),
  (79, 0, .aload_n 0, []),
  (80, 0, .getfield 14, [9, 1, 0, 2]),
  (83, 0, .iload_n 3, []),
  (84, 0, .iload_n 3, []),
  (85, 0, .iconst (1), []),
  (86, 0, .iadd, []),
  (87, 0, .invokevirtual 69, [61, 46, 3, 0, 1, 3, 0, 3]),
  (90, 0, .isub, []),
  (91, 0, .iadd, []),
  (92, 0, .istore_n 2, []),
  (93, 0, .iinc 3 (1), []),
  (96, 0, .goto (-68), [16]),
  (99, 0, .iload_n 2, []),
  (100, 0, .ireturn, [])]
def c_54 : List En := [
  (0, 0, .aload_n 1, []),
  (1, 0, .invokevirtual 72, [62, 12, 1, 0, 0, 1, 0, 3]),
  (4, 0, .aload_n 0, []),
  (5, 0, .getfield 14, [9, 1, 0, 2]),
  (8, 0, .iconst (0), []),
  (9, 0, .aload_n 0, []),
  (10, 0, .getfield 14, [9, 1, 0, 2]),
  (13, 0, .getfield 75, [52, 3, 5, 0]),
  (16, 0, .iload_n 3, []),
  (17, 0, .invokevirtual 78, [63, 13, 4, 0, 0, 5, 0, 3]),
  (20, 0, .aload_n 0, []),
  (21, 0, .getfield 20, [10, 1, 1, 0]),
  (24, 0, .iconst (1), []),
  (25, 0, .iadd, []),
  (26, 0, .istore 4, []),
  (28, 24, .iload 4, []),
  (30, 0, .aload_n 0, []),
  (31, 0, .getfield 14, [9, 1, 0, 2]),
  (34, 0, .getfield 43, [47, 3, 6, 0]),
  (37, 0, .if_icmp .ge (89), [63]),
  (40, 0, .iload 4, []),
  (42, 0, .aload_n 0, []),
  (43, 0, .getfield 20, [10, 1, 1, 0]),
  (46, 0, .iconst (1), []),
  (47, 0, .iadd, []),
  (48, 0, .if_icmp .le (13), [31]),
  (51, 0, .aload_n 1, []),
  (52, 0, .aload_n 0, []),
  (53, 0, .getfield 14, [9, 1, 0, 2]),
  (56, 0, .iload 4, []),
  (58, 0, .invokevirtual 82, [64, 43, 3, 0, 0, 5, 0, 3]),
  (61, 24, .aload_n 0, []),
  (62, 0, .getfield 14, [9, 1, 0, 2]),
  (65, 0, .iload 4, []),
  (67, 0, .invokevirtual 50, [38, 28, 2, 0, 1, 2, 0, 3]),
  (70, 0, .ifCond .eq (36), [53]),
  (73, 0, .aload_n 0, []),
  (74, 0, .getfield 14, [9, 1, 0, 2]),
  (77, 0, .iload 4, []),
  (79, 0, .invokevirtual 54, [39, 36, 2, 0, 1, 2, 0, 3]),
  (82, 0, .istore 5, []),
  (84, 0, .aload_n 1, []),
  (85, 0, .aload_n 2, []),
  (86, 0, .aload_n 0, []),
  (87, 0, .getfield 24, [11, 1, 2, 2]),
  (90, 0, .iload 5, []),
  (92, 0, .iaload, []),
  (93, 0, .aload_n 0, []),
  (94, 0, .getfield 28, [12, 1, 3, 2]),
  (97, 0, .iload 5, []),
  (99, 0, .iaload, []),
  (100, 0, .invokevirtual 86, [65, 45, 4, 0, 0, 7, 0, 3]),
  (103, 0, .goto (17), [61]),
  (106, 0, .aload_n 1, []),
  (107, 0, .aload_n 0, []),
  (108, 0, .getfield 14, [9, 1, 0, 2]),
  (111, 0, .iload 4, []),
  (113, 0, .iload 4, []),
  (115, 0, .iconst (1), []),
  (116, 0, .iadd, []),
  (117, 0, .invokevirtual 86, [65, 45, 4, 0, 0, 7, 0, 3]),
  (120, 24, .iinc 4 (1), []),
  (123, 0, .goto (-95), [15]),
  (126, 0, .return_, [])]
def c_55 : List En := [
  (0, 0, .iconst (0), []),
  (1, 0, .istore_n 1, []),
  (2, 0, .iconst (0), []),
  (3, 0, .istore_n 2, []),
  (4, 0, .iconst (0), []),
  (5, 0, .istore_n 3, []),
  (6, 16, .iload_n 3, []),
  (7, 0, .aload_n 0, []),
  (8, 0, .getfield 31, [19, 3, 6, 0]),
  (11, 0, .if_icmp .ge (44), [31]),
  (14, 0, .aload_n 0, []),
  (15, 0, .getfield 18, [15, 3, 2, 2]),
  (18, 0, .iload_n 3, []),
  (19, 0, .iaload, []),
  (20, 0, .iconst (4), []),
  (21, 0, .if_icmp .ne (9), [18]),
  (24, 0, .iinc 1 (1), []),
  (27, 0, .goto (16), [25]),
  (30, 0, .aload_n 0, []),
  (31, 0, .getfield 18, [15, 3, 2, 2]),
  (34, 0, .iload_n 3, []),
  (35, 0, .iaload, []),
  (36, 0, .iconst (5), []),
  (37, 0, .if_icmp .ne (6), [25]),
  (40, 0, .iinc 1 (-1), []),
  (43, 0, .iload_n 2, []),
  (44, 0, .iload_n 1, []),
  (45, 0, .invokestatic 43, [8, 1]),
  (48, 0, .istore_n 2, []),
  (49, 0, .iinc 3 (1), []),
  (52, 0, .goto (-46), [6]),
  (55, 0, .iload_n 2, []),
  (56, 0, .ireturn, [])]
def c_56 : List En := [
  (0, 0, .iload_n 1, []),
  (1, 0, .ifCond .lt (26), [15]),
  (4, 0, .iload_n 1, []),
  (5, 0, .aload_n 0, []),
  (6, 0, .getfield 31, [19, 3, 6, 0]),
  (9, 0, .if_icmp .ge (18), [15]),
  (12, 0, .aload_n 0, []),
  (13, 0, .aload_n 0, []),
  (14, 0, .getfield 21, [16, 3, 3, 2]),
  (17, 0, .iload_n 1, []),
  (18, 0, .iaload, []),
  (19, 0, .putfield 27, [18, 3, 5, 0]),
  (22, 0, .aload_n 0, []),
  (23, 0, .iload_n 1, []),
  (24, 0, .putfield 31, [19, 3, 6, 0]),
  (27, 0, .return_, [])]
def c_57 : List En := [
  (0, 0, .aload_n 0, []),
  (1, 0, .getfield 14, [20, 2, 0, 2]),
  (4, 0, .aload_n 0, []),
  (5, 0, .getfield 23, [22, 2, 2, 2]),
  (8, 0, .invokevirtual 70, [43, 40, 2, 0, 0, 2, 0, 3]),
  (11, 0, .aload_n 0, []),
  (12, 0, .getfield 32, [24, 2, 4, 2]),
  (15, 0, .aload_n 0, []),
  (16, 0, .getfield 14, [20, 2, 0, 2]),
  (19, 0, .invokevirtual 48, [9, 21, 2, 0, 0, 4, 0, 4]),
  (22, 0, .aload_n 0, []),
  (23, 0, .iload_n 1, []),
  (24, 0, .putfield 40, [26, 2, 6, 0]),
  (27, 0, .return_, [])]
def c_58 : List En := [
  (0, 0, .aload_n 0, []),
  (1, 0, .getfield 40, [7, 0, 7, 0]),
  (4, 0, .ireturn, [])]
def c_59 : List En := [
  (0, 0, .aload_n 0, []),
  (1, 0, .getfield 36, [6, 0, 6, 2]),
  (4, 0, .getfield 75, [48, 2, 6, 0]),
  (7, 0, .ireturn, [])]
def c_60 : List En := [
  (0, 0, .aload_n 0, []),
  (1, 0, .getfield 36, [6, 0, 6, 2]),
  (4, 0, .getfield 89, [53, 2, 0, 2]),
  (7, 0, .getfield 93, [54, 3, 5, 0]),
  (10, 0, .ireturn, [])]
def c_61 : List En := [
  (0, 0, .iload_n 1, []),
  (1, 0, .ifCond .lt (32), [15]),
  (4, 0, .iload_n 1, []),
  (5, 0, .aload_n 0, []),
  (6, 0, .getfield 36, [6, 0, 6, 2]),
  (9, 0, .getfield 89, [53, 2, 0, 2]),
  (12, 0, .getfield 93, [54, 3, 5, 0]),
  (15, 0, .if_icmp .ge (18), [15]),
  (18, 0, .aload_n 0, []),
  (19, 0, .getfield 36, [6, 0, 6, 2]),
  (22, 0, .getfield 89, [53, 2, 0, 2]),
  (25, 0, .getfield 98, [55, 3, 0, 2]),
  (28, 0, .iload_n 1, []),
  (29, 0, .iaload, []),
  (30, 0, .goto (4), [16]),
  (33, 0, .iconst (-1), []),
  (34, 0, .ireturn, [])]
def c_62 : List En := [
  (0, 0, .iload_n 1, []),
  (1, 0, .ifCond .lt (32), [15]),
  (4, 0, .iload_n 1, []),
  (5, 0, .aload_n 0, []),
  (6, 0, .getfield 36, [6, 0, 6, 2]),
  (9, 0, .getfield 89, [53, 2, 0, 2]),
  (12, 0, .getfield 93, [54, 3, 5, 0]),
  (15, 0, .if_icmp .ge (18), [15]),
  (18, 0, .aload_n 0, []),
  (19, 0, .getfield 36, [6, 0, 6, 2]),
  (22, 0, .getfield 89, [53, 2, 0, 2]),
  (25, 0, .getfield 101, [56, 3, 1, 2]),
  (28, 0, .iload_n 1, []),
  (29, 0, .iaload, []),
  (30, 0, .goto (4), [16]),
  (33, 0, .iconst (-1), []),
  (34, 0, .ireturn, [])]
def c_63 : List En := [
  (0, 0, .aload_n 0, []),
  (1, 0, .getfield 36, [6, 0, 6, 2]),
  (4, 0, .getfield 63, [39, 2, 4, 2]),
  (7, 0, .getfield 67, [40, 4, 1, 0]),
  (10, 0, .ireturn, [])]
def c_64 : List En := [
  (0, 0, .iload_n 1, []),
  (1, 0, .ifCond .lt (32), [15]),
  (4, 0, .iload_n 1, []),
  (5, 0, .aload_n 0, []),
  (6, 0, .getfield 36, [6, 0, 6, 2]),
  (9, 0, .getfield 63, [39, 2, 4, 2]),
  (12, 0, .getfield 67, [40, 4, 1, 0]),
  (15, 0, .if_icmp .ge (18), [15]),
  (18, 0, .aload_n 0, []),
  (19, 0, .getfield 36, [6, 0, 6, 2]),
  (22, 0, .getfield 63, [39, 2, 4, 2]),
  (25, 0, .getfield 104, [57, 4, 0, 2]),
  (28, 0, .iload_n 1, []),
  (29, 0, .iaload, []),
  (30, 0, .goto (4), [16]),
  (33, 0, .iconst (-1), []),
  (34, 0, .ireturn, [])]
def c_65 : List En := [
  (0, 0, .aload_n 0, []),
  (1, 0, .getfield 36, [6, 0, 6, 2]),
  (4, 0, .getfield 63, [39, 2, 4, 2]),
  (7, 0, .getfield 107, [58, 4, 5, 0]),
  (10, 0, .ireturn, [])]
def c_66 : List En := [
  (0, 0, .iload_n 1, []),
  (1, 0, .ifCond .lt (43), [20]),
  (4, 0, .iload_n 1, []),
  (5, 0, .aload_n 0, []),
  (6, 0, .getfield 36, [6, 0, 6, 2]),
  (9, 0, .getfield 63, [39, 2, 4, 2]),
  (12, 0, .getfield 107, [58, 4, 5, 0]),
  (15, 0, .if_icmp .ge (29), [20]),
  (18, 0, .aload_n 0, []),
  (19, 0, .getfield 36, [6, 0, 6, 2]),
  (22, 0, .getfield 89, [53, 2, 0, 2]),
  (25, 0, .getfield 110, [59, 3, 3, 2]),
  (28, 0, .aload_n 0, []),
  (29, 0, .getfield 36, [6, 0, 6, 2]),
  (32, 0, .getfield 63, [39, 2, 4, 2]),
  (35, 0, .getfield 113, [60, 4, 2, 2]),
  (38, 0, .iload_n 1, []),
  (39, 0, .iaload, []),
  (40, 0, .iaload, []),
  (41, 0, .goto (4), [21]),
  (44, 0, .iconst (-1), []),
  (45, 0, .ireturn, [])]
def c_67 : List En := [
  (0, 0, .iload_n 1, []),
  (1, 0, .ifCond .lt (43), [20]),
  (4, 0, .iload_n 1, []),
  (5, 0, .aload_n 0, []),
  (6, 0, .getfield 36, [6, 0, 6, 2]),
  (9, 0, .getfield 63, [39, 2, 4, 2]),
  (12, 0, .getfield 107, [58, 4, 5, 0]),
  (15, 0, .if_icmp .ge (29), [20]),
  (18, 0, .aload_n 0, []),
  (19, 0, .getfield 36, [6, 0, 6, 2]),
  (22, 0, .getfield 89, [53, 2, 0, 2]),
  (25, 0, .getfield 116, [61, 3, 4, 2]),
  (28, 0, .aload_n 0, []),
  (29, 0, .getfield 36, [6, 0, 6, 2]),
  (32, 0, .getfield 63, [39, 2, 4, 2]),
  (35, 0, .getfield 119, [62, 4, 3, 2]),
  (38, 0, .iload_n 1, []),
  (39, 0, .iaload, []),
  (40, 0, .iaload, []),
  (41, 0, .goto (4), [21]),
  (44, 0, .iconst (-1), []),
  (45, 0, .ireturn, [])]
def c_68 : List En := [
  (0, 0, .iload_n 1, []),
  (1, 0, .ifCond .lt (27), [14]),
  (4, 0, .iload_n 1, []),
  (5, 0, .aload_n 0, []),
  (6, 0, .getfield 30, [5, 0, 5, 0]),
  (9, 0, .if_icmp .ge (19), [14]),
  (12, 0, .aload_n 0, []),
  (13, 0, .getfield 36, [6, 0, 6, 2]),
  (16, 0, .aload_n 0, []),
  (17, 0, .getfield 25, [4, 0, 4, 2]),
  (20, 0, .iload_n 1, []),
  (21, 0, .aaload, []),
  (22, 0, .invokevirtual 122, [66, 69, 2, 0, 1, 4, 0, 2]),
  (25, 0, .goto (4), [15]),
  (28, 0, .iconst (-1), []),
  (29, 0, .ireturn, [])]
def c_69 : List En := [
  (0, 0, .iconst (0), []),
  (1, 0, .istore_n 2, []),
  (2, 0, .iconst (0), []),
  (3, 0, .istore_n 3, []),
  (4, 16, .iload_n 3, []),
  (5, 0, .aload_n 0, []),
  (6, 0, .getfield 32, [24, 2, 4, 2]),
  (9, 0, .getfield 51, [41, 4, 5, 0]),
  (12, 0, .if_icmp .ge (43), [29]),
  (15, 0, .aload_n 1, []),
  (16, 0, .aload_n 0, []),
  (17, 0, .getfield 14, [20, 2, 0, 2]),
  (20, 0, .aload_n 0, []),
  (21, 0, .getfield 32, [24, 2, 4, 2]),
  (24, 0, .getfield 57, [43, 4, 2, 2]),
  (27, 0, .iload_n 3, []),
  (28, 0, .iaload, []),
  (29, 0, .aload_n 0, []),
  (30, 0, .getfield 32, [24, 2, 4, 2]),
  (33, 0, .getfield 63, [45, 4, 3, 2]),
  (36, 0, .iload_n 3, []),
  (37, 0, .iaload, []),
  (38, 0, .iconst (1), []),
  (39, 0, .iadd, []),
  (40, 0, .invokevirtual 73, [49, 48, 4, 0, 1, 6, 0, 1]),
  (43, 0, .ifCond .eq (6), [27]),
  (46, 0, .iinc 2 (1), []),
  (49, 0, .iinc 3 (1), []),
  (52, 0, .goto (-48), [4]),
  (55, 0, .iload_n 2, []),
  (56, 0, .ireturn, [])]
def c_70 : List En := [
  (0, 0, .aload_n 0, []),
  (1, 0, .getfield 46, [8, 0, 8, 2]),
  (4, 0, .aload_n 0, []),
  (5, 0, .getfield 17, [2, 0, 2, 2]),
  (8, 0, .aload_n 0, []),
  (9, 0, .getfield 20, [3, 0, 3, 0]),
  (12, 0, .aload_n 0, []),
  (13, 0, .getfield 36, [6, 0, 6, 2]),
  (16, 0, .getfield 89, [53, 2, 0, 2]),
  (19, 0, .invokevirtual 126, [67, 71, 4, 0, 0, 4, 0, 5]),
  (22, 0, .aload_n 0, []),
  (23, 0, .getfield 46, [8, 0, 8, 2]),
  (26, 0, .getfield 130, [63, 5, 3, 0]),
  (29, 0, .ireturn, [])]
def c_71 : List En := [
  (0, 0, .aload_n 0, []),
  (1, 0, .getfield 25, [38, 5, 4, 1]),
  (4, 0, .ifCond .ne (18), [10]),
  (7, 0, .iload_n 2, []),
  (8, 0, .bipush (60), []),
  (10, 0, .if_icmp .gt (12), [10]),
  (13, 0, .aload_n 3, []),
  (14, 0, .getfield 29, [64, 3, 5, 0]),
  (17, 0, .bipush (120), []),
  (19, 0, .if_icmp .le (4), [11]),
  (22, 0, .return_, []),
  (23, 0, .aload_n 0, []),
  (24, 0, .aload_n 1, []),
  (25, 0, .iload_n 2, []),
  (26, 0, .aload_n 3, []),
  (27, 0, .invokevirtual 34, [68, 72, 4, 0, 0, 8, 0, 5]),
  (30, 0, .aload_n 0, []),
  (31, 0, .aload_n 1, []),
  (32, 0, .iload_n 2, []),
  (33, 0, .aload_n 3, []),
  (34, 0, .invokevirtual 38, [69, 73, 4, 0, 0, 8, 0, 5]),
  (37, 0, .aload_n 0, []),
  (38, 0, .iconst (1), []),
  (39, 0, .putfield 25, [38, 5, 4, 1]),
  (42, 0, .return_, [])]
def c_72 : List En := [
  (0, 0, .iload_n 2, []),
  (1, 0, .istore 4, []),
  (3, 32, .iload 4, []),
  (5, 0, .ifCond .lt (147), [82]),
  (8, 0, .iload 4, []),
  (10, 0, .bipush (121), []),
  (12, 0, .imul, []),
  (13, 0, .istore 5, []),
  (15, 0, .aload_n 3, []),
  (16, 0, .getfield 29, [64, 3, 5, 0]),
  (19, 0, .istore 6, []),
  (21, 128, .iload 6, []),
  (23, 0, .ifCond .lt (123), [80]),
  (26, 0, .iload 4, []),
  (28, 0, .iload_n 2, []),
  (29, 0, .if_icmp .ne (15), [22]),
  (32, 0, .aload_n 3, []),
  (33, 0, .getfield 29, [64, 3, 5, 0]),
  (36, 0, .iload 6, []),
  (38, 0, .isub, []),
  (39, 0, .istore 7, []),
  (41, 0, .goto (87), [71]),
  (44, 0, .iload 6, []),
  (46, 0, .aload_n 3, []),
  (47, 0, .getfield 29, [64, 3, 5, 0]),
  (50, 0, .if_icmp .ne (12), [31]),
  (53, 0, .iload_n 2, []),
  (54, 0, .iload 4, []),
  (56, 0, .isub, []),
  (57, 0, .istore 7, []),
  (59, 0, .goto (69), [71]),
  (62, 0, .aload_n 1, []),
  (63, 0, .iload 4, []),
  (65, 0, .iaload, []),
  (66, 0, .aload_n 3, []),
  (67, 0, .getfield 41, [65, 3, 0, 2]),
  (70, 0, .iload 6, []),
  (72, 0, .iaload, []),
  (73, 0, .if_icmp .ne (23), [51]),
  (76, 0, .aload_n 0, []),
  (77, 0, .getfield 11, [34, 5, 0, 2]),
  (80, 0, .iload 5, []),
  (82, 0, .bipush (121), []),
  (84, 0, .iadd, []),
  (85, 0, .iload 6, []),
  (87, 0, .iadd, []),
  (88, 0, .iconst (1), []),
  (89, 0, .iadd, []),
  (90, 0, .iaload, []),
  (91, 0, .istore 7, []),
  (93, 0, .goto (35), [71]),
  (96, 0, .iconst (1), []),
  (97, 0, .aload_n 0, []),
  (98, 0, .getfield 11, [34, 5, 0, 2]),
  (101, 0, .iload 5, []),
  (103, 0, .bipush (121), []),
  (105, 0, .iadd, []),
  (106, 0, .iload 6, []),
  (108, 0, .iadd, []),
  (109, 0, .iaload, []),
  (110, 0, .aload_n 0, []),
  (111, 0, .getfield 11, [34, 5, 0, 2]),
  (114, 0, .iload 5, []),
  (116, 0, .iload 6, []),
  (118, 0, .iadd, []),
  (119, 0, .iconst (1), []),
  (120, 0, .iadd, []),
  (121, 0, .iaload, []),
  (122, 0, .invokestatic 44, [10, 2]),
  (125, 0, .iadd, []),
  (126, 0, .istore 7, []),
  (128, 0, .aload_n 0, []),
  (129, 0, .getfield 11, [34, 5, 0, 2]),
  (132, 0, .iload 5, []),
  (134, 0, .iload 6, []),
  (136, 0, .iadd, []),
  (137, 0, .iload 7, []),
  (139, 0, .iastore, []),
  (140, 0, .iinc 6 (-1), []),
  (143, 0, .goto (-122), [11]),
  (146, 0, .iinc 4 (-1), []),
  (149, 0, .goto (-146), [2]),
  (152, 0, .return_, [])]
def c_73 : List En := [
  (0, 0, .iconst (0), []),
  (1, 0, .istore 4, []),
  (3, 0, .iconst (0), []),
  (4, 0, .istore 5, []),
  (6, 0, .iload_n 2, []),
  (7, 0, .aload_n 3, []),
  (8, 0, .getfield 29, [64, 3, 5, 0]),
  (11, 0, .iadd, []),
  (12, 0, .istore 6, []),
  (14, 0, .aload_n 0, []),
  (15, 0, .iconst (0), []),
  (16, 0, .putfield 18, [36, 5, 2, 0]),
  (19, 0, .aload_n 0, []),
  (20, 0, .aload_n 0, []),
  (21, 0, .getfield 11, [34, 5, 0, 2]),
  (24, 0, .iconst (0), []),
  (25, 0, .iaload, []),
  (26, 0, .putfield 22, [37, 5, 3, 0]),
  (29, 0, .iconst (0), []),
  (30, 0, .istore 7, []),
  (32, 256, .iload 7, []),
  (34, 0, .iload 6, []),
  (36, 0, .if_icmp .ge (161), [102]),
  (39, 0, .iload 4, []),
  (41, 0, .iload_n 2, []),
  (42, 0, .if_icmp .lt (12), [30]),
  (45, 0, .iload 5, []),
  (47, 0, .aload_n 3, []),
  (48, 0, .getfield 29, [64, 3, 5, 0]),
  (51, 0, .if_icmp .ge (146), [102]),
  (54, 256, .iload 4, []),
  (56, 0, .iload_n 2, []),
  (57, 0, .if_icmp .ge (52), [58]),
  (60, 0, .iload 5, []),
  (62, 0, .aload_n 3, []),
  (63, 0, .getfield 29, [64, 3, 5, 0]),
  (66, 0, .if_icmp .ge (43), [58]),
  (69, 0, .aload_n 1, []),
  (70, 0, .iload 4, []),
  (72, 0, .iaload, []),
  (73, 0, .aload_n 3, []),
  (74, 0, .getfield 41, [65, 3, 0, 2]),
  (77, 0, .iload 5, []),
  (79, 0, .iaload, []),
  (80, 0, .if_icmp .ne (29), [58]),
  (83, 0, .aload_n 0, []),
  (84, 0, .getfield 15, [35, 5, 1, 2]),
  (87, 0, .aload_n 0, []),
  (88, 0, .getfield 18, [36, 5, 2, 0]),
  (91, 0, .sipush (1000), []),
  (94, 0, .aload_n 1, []),
  (95, 0, .iload 4, []),
  (97, 0, .iaload, []),
  (98, 0, .iadd, []),
  (99, 0, .iastore, []),
  (100, 0, .iinc 4 (1), []),
  (103, 0, .iinc 5 (1), []),
  (106, 0, .goto (75), [94]),
  (109, 256, .iload 4, []),
  (111, 0, .iload_n 2, []),
  (112, 0, .if_icmp .ge (37), [78]),
  (115, 0, .aload_n 0, []),
  (116, 0, .iload 4, []),
  (118, 0, .iload 5, []),
  (120, 0, .invokevirtual 50, [70, 74, 3, 0, 1, 3, 0, 5]),
  (123, 0, .ifCond .eq (26), [78]),
  (126, 0, .aload_n 0, []),
  (127, 0, .getfield 15, [35, 5, 1, 2]),
  (130, 0, .aload_n 0, []),
  (131, 0, .getfield 18, [36, 5, 2, 0]),
  (134, 0, .sipush (2000), []),
  (137, 0, .aload_n 1, []),
  (138, 0, .iload 4, []),
  (140, 0, .iaload, []),
  (141, 0, .iadd, []),
  (142, 0, .iastore, []),
  (143, 0, .iinc 4 (1), []),
  (146, 0, .goto (35), [94]),
  (149, 256, .iload 5, []),
  (151, 0, .aload_n 3, []),
  (152, 0, .getfield 29, [64, 3, 5, 0]),
  (155, 0, .if_icmp .ge (26), [94]),
  (158, 0, .aload_n 0, []),
  (159, 0, .getfield 15, [35, 5, 1, 2]),
  (162, 0, .aload_n 0, []),
  (163, 0, .getfield 18, [36, 5, 2, 0]),
  (166, 0, .sipush (3000), []),
  (169, 0, .aload_n 3, []),
  (170, 0, .getfield 41, [65, 3, 0, 2]),
  (173, 0, .iload 5, []),
  (175, 0, .iaload, []),
  (176, 0, .iadd, []),
  (177, 0, .iastore, []),
  (178, 0, .iinc 5 (1), []),
  (181, 256, .aload_n 0, []),
  (182, 0, .dup, []),
  (183, 0, .getfield 18, [36, 5, 2, 0]),
  (186, 0, .iconst (1), []),
  (187, 0, .iadd, []),
  (188, 0, .putfield 18, [36, 5, 2, 0]),
  (191, 0, .iinc 7 (1), []),
  (194, 0, .goto (-162), [20]),
  (197, 0, .return_, [])]
def c_74 : List En := [
  (0, 0, .aload_n 0, []),
  (1, 0, .getfield 11, [34, 5, 0, 2]),
  (4, 0, .iload_n 1, []),
  (5, 0, .bipush (121), []),
  (7, 0, .imul, []),
  (8, 0, .iload_n 2, []),
  (9, 0, .iadd, []),
  (10, 0, .iaload, []),
  (11, 0, .iconst (1), []),
  (12, 0, .aload_n 0, []),
  (13, 0, .getfield 11, [34, 5, 0, 2]),
  (16, 0, .iload_n 1, []),
  (17, 0, .iconst (1), []),
  (18, 0, .iadd, []),
  (19, 0, .bipush (121), []),
  (21, 0, .imul, []),
  (22, 0, .iload_n 2, []),
  (23, 0, .iadd, []),
  (24, 0, .iaload, []),
  (25, 0, .iadd, []),
  (26, 0, .if_icmp .ne (7), [23]),
  (29, 0, .iconst (1), []),
  (30, 0, .goto (4), [24]),
  (33, 0, .iconst (0), []),
  (34, 0, .ireturn, [1])]
def c_75 : List En := [
  (0, 0, .aload_n 0, []),
  (1, 0, .getfield 46, [8, 0, 8, 2]),
  (4, 0, .aload_n 0, []),
  (5, 0, .getfield 17, [2, 0, 2, 2]),
  (8, 0, .aload_n 0, []),
  (9, 0, .getfield 20, [3, 0, 3, 0]),
  (12, 0, .aload_n 0, []),
  (13, 0, .getfield 36, [6, 0, 6, 2]),
  (16, 0, .getfield 89, [53, 2, 0, 2]),
  (19, 0, .invokevirtual 126, [67, 71, 4, 0, 0, 4, 0, 5]),
  (22, 0, .iload_n 1, []),
  (23, 0, .ifCond .lt (26), [23]),
  (26, 0, .iload_n 1, []),
  (27, 0, .aload_n 0, []),
  (28, 0, .getfield 46, [8, 0, 8, 2]),
  (31, 0, .getfield 133, [66, 5, 2, 0]),
  (34, 0, .if_icmp .ge (15), [23]),
  (37, 0, .aload_n 0, []),
  (38, 0, .getfield 46, [8, 0, 8, 2]),
  (41, 0, .getfield 136, [67, 5, 1, 2]),
  (44, 0, .iload_n 1, []),
  (45, 0, .iaload, []),
  (46, 0, .goto (4), [24]),
  (49, 0, .iconst (-1), []),
  (50, 0, .ireturn, [])]
def c_76 : List En := [
  (0, 0, .aload_n 0, []),
  (1, 0, .invokespecial 1, [11, 0]),
  (4, 0, .aload_n 0, []),
  (5, 0, .sipush (640), []),
  (8, 0, .newarray .int, []),
  (10, 0, .putfield 7, [68, 6, 0, 2]),
  (13, 2, .aload_n 0, []),
  (14, 0, .sipush (128), []),
  (17, 0, .newarray .int, []),
  (19, 0, .putfield 13, [69, 6, 1, 2]),
  (22, 2, .aload_n 0, []),
  (23, 0, .bipush (6), []),
  (25, 0, .newarray .int, []),
  (27, 0, .putfield 16, [70, 6, 6, 2]),
  (30, 2, .aload_n 0, []),
  (31, 0, .sipush (192), []),
  (34, 0, .newarray .int, []),
  (36, 0, .putfield 19, [71, 6, 9, 2]),
  (39, 2, .aload_n 0, []),
  (40, 0, .sipush (192), []),
  (43, 0, .newarray .int, []),
  (45, 0, .putfield 22, [72, 6, 10, 2]),
  (48, 2, .aload_n 0, []),
  (49, 0, .sipush (192), []),
  (52, 0, .newarray .int, []),
  (54, 0, .putfield 25, [73, 6, 11, 2]),
  (57, 2, .aload_n 0, []),
  (58, 0, .sipush (192), []),
  (61, 0, .newarray .int, []),
  (63, 0, .putfield 28, [74, 6, 12, 2]),
  (66, 2, .aload_n 0, []),
  (67, 0, .sipush (192), []),
  (70, 0, .newarray .int, []),
  (72, 0, .putfield 31, [75, 6, 13, 2]),
  (75, 2, .aload_n 0, []),
  (76, 0, .sipush (128), []),
  (79, 0, .newarray .boolean, []),
  (81, 0, .putfield 34, [76, 6, 14, 2]),
  (84, 2, .aload_n 0, []),
  (85, 0, .sipush (128), []),
  (88, 0, .newarray .int, []),
  (90, 0, .putfield 38, [77, 6, 15, 2]),
  (93, 2, .aload_n 0, []),
  (94, 0, .bipush (10), []),
  (96, 0, .newarray .int, []),
  (98, 0, .putfield 41, [78, 6, 19, 2]),
  (101, 2, .aload_n 0, []),
  (102, 0, .sipush (128), []),
  (105, 0, .newarray .int, []),
  (107, 0, .putfield 44, [79, 6, 20, 2]),
  (110, 2, .aload_n 0, []),
  (111, 0, .sipush (128), []),
  (114, 0, .newarray .int, []),
  (116, 0, .putfield 47, [80, 6, 21, 2]),
  (119, 2, .aload_n 0, []),
  (120, 0, .sipush (128), []),
  (123, 0, .newarray .int, []),
  (125, 0, .putfield 50, [81, 6, 23, 2]),
  (128, 2, .aload_n 0, []),
  (129, 0, .sipush (128), []),
  (132, 0, .newarray .int, []),
  (134, 0, .putfield 53, [82, 6, 24, 2]),
  (137, 2, .aload_n 0, []),
  (138, 0, .sipush (7381), []),
  (141, 0, .newarray .int, []),
  (143, 0, .putfield 56, [83, 6, 25, 2]),
  (146, 0, .return_, [])]
def c_77 : List En := [
  (0, 0, .iload_n 1, []),
  (1, 0, .bipush (10), []),
  (3, 0, .if_icmp .eq (15), [9]),
  (6, 0, .iload_n 1, []),
  (7, 0, .bipush (32), []),
  (9, 0, .if_icmp .lt (18), [13]),
  (12, 0, .iload_n 1, []),
  (13, 0, .bipush (126), []),
  (15, 0, .if_icmp .gt (12), [13]),
  (18, 0, .aload_n 0, []),
  (19, 0, .getfield 102, [84, 6, 4, 0]),
  (22, 0, .bipush (60), []),
  (24, 0, .if_icmp .lt (5), [15]),
  (27, 0, .iconst (0), []),
  (28, 0, .ireturn, [1]),
  (29, 0, .aload_n 0, []),
  (30, 0, .getfield 7, [68, 6, 0, 2]),
  (33, 0, .sipush (192), []),
  (36, 0, .aload_n 0, []),
  (37, 0, .getfield 102, [84, 6, 4, 0]),
  (40, 0, .iadd, []),
  (41, 0, .iload_n 1, []),
  (42, 0, .iastore, []),
  (43, 0, .aload_n 0, []),
  (44, 0, .dup, []),
  (45, 0, .getfield 102, [84, 6, 4, 0]),
  (48, 0, .iconst (1), []),
  (49, 0, .iadd, []),
  (50, 0, .putfield 102, [84, 6, 4, 0]),
  (53, 0, .iconst (1), []),
  (54, 0, .ireturn, [1])]
def c_78 : List En := [
  (0, 0, .aload_n 0, []),
  (1, 0, .iconst (0), []),
  (2, 0, .putfield 102, [84, 6, 4, 0]),
  (5, 0, .return_, [])]
def c_79 : List En := [
  (0, 0, .aload_n 0, []),
  (1, 0, .getfield 102, [84, 6, 4, 0]),
  (4, 0, .ireturn, [])]
def c_80 : List En := [
  (0, 0, .iconst (0), []),
  (1, 0, .istore_n 1, []),
  (2, 4, .iload_n 1, []),
  (3, 0, .aload_n 0, []),
  (4, 0, .getfield 102, [84, 6, 4, 0]),
  (7, 0, .if_icmp .ge (52), [35]),
  (10, 0, .aload_n 0, []),
  (11, 0, .getfield 7, [68, 6, 0, 2]),
  (14, 0, .iload_n 1, []),
  (15, 0, .aload_n 0, []),
  (16, 0, .getfield 7, [68, 6, 0, 2]),
  (19, 0, .sipush (192), []),
  (22, 0, .iload_n 1, []),
  (23, 0, .iadd, []),
  (24, 0, .iaload, []),
  (25, 0, .iastore, []),
  (26, 0, .aload_n 0, []),
  (27, 0, .getfield 7, [68, 6, 0, 2]),
  (30, 0, .sipush (128), []),
  (33, 0, .iload_n 1, []),
  (34, 0, .iadd, []),
  (35, 0, .aload_n 0, []),
  (36, 0, .getfield 7, [68, 6, 0, 2]),
  (39, 0, .sipush (192), []),
  (42, 0, .iload_n 1, []),
  (43, 0, .iadd, []),
  (44, 0, .iaload, []),
  (45, 0, .iastore, []),
  (46, 0, .aload_n 0, []),
  (47, 0, .getfield 13, [69, 6, 1, 2]),
  (50, 0, .iload_n 1, []),
  (51, 0, .iconst (0), []),
  (52, 0, .iastore, []),
  (53, 0, .iinc 1 (1), []),
  (56, 0, .goto (-54), [2]),
  (59, 0, .aload_n 0, []),
  (60, 0, .aload_n 0, []),
  (61, 0, .getfield 102, [84, 6, 4, 0]),
  (64, 0, .putfield 81, [85, 6, 2, 0]),
  (67, 0, .aload_n 0, []),
  (68, 0, .aload_n 0, []),
  (69, 0, .getfield 102, [84, 6, 4, 0]),
  (72, 0, .putfield 105, [86, 6, 3, 0]),
  (75, 0, .aload_n 0, []),
  (76, 0, .iconst (0), []),
  (77, 0, .putfield 102, [84, 6, 4, 0]),
  (80, 0, .aload_n 0, []),
  (81, 0, .iconst (0), []),
  (82, 0, .putfield 108, [87, 6, 7, 0]),
  (85, 0, .aload_n 0, []),
  (86, 0, .iconst (0), []),
  (87, 0, .putfield 111, [88, 6, 8, 0]),
  (90, 0, .aload_n 0, []),
  (91, 0, .invokevirtual 114, [71, 81, 1, 0, 0, 5, 0, 6]),
  (94, 0, .aload_n 0, []),
  (95, 0, .getfield 95, [89, 6, 17, 0]),
  (98, 0, .ireturn, [])]
def c_81 : List En := [
  (0, 0, .aload_n 0, []),
  (1, 0, .aload_n 0, []),
  (2, 0, .iconst (0), []),
  (3, 0, .aload_n 0, []),
  (4, 0, .getfield 81, [85, 6, 2, 0]),
  (7, 0, .iconst (0), []),
  (8, 0, .invokevirtual 85, [72, 82, 4, 0, 1, 8, 0, 6]),
  (11, 0, .putfield 88, [90, 6, 16, 0]),
  (14, 0, .aload_n 0, []),
  (15, 0, .iconst (0), []),
  (16, 0, .aload_n 0, []),
  (17, 0, .getfield 88, [90, 6, 16, 0]),
  (20, 0, .invokevirtual 91, [73, 88, 3, 0, 0, 6, 0, 6]),
  (23, 0, .aload_n 0, []),
  (24, 0, .iconst (0), []),
  (25, 0, .putfield 95, [89, 6, 17, 0]),
  (28, 0, .iconst (0), []),
  (29, 0, .istore_n 1, []),
  (30, 4, .iload_n 1, []),
  (31, 0, .aload_n 0, []),
  (32, 0, .getfield 88, [90, 6, 16, 0]),
  (35, 0, .if_icmp .ge (128), [94]),
  (38, 0, .iload_n 1, []),
  (39, 0, .istore_n 2, []),
  (40, 8, .iload_n 2, []),
  (41, 0, .aload_n 0, []),
  (42, 0, .getfield 88, [90, 6, 16, 0]),
  (45, 0, .iconst (1), []),
  (46, 0, .isub, []),
  (47, 0, .if_icmp .ge (20), [38]),
  (50, 0, .aload_n 0, []),
  (51, 0, .getfield 19, [71, 6, 9, 2]),
  (54, 0, .iload_n 2, []),
  (55, 0, .iaload, []),
  (56, 0, .bipush (59), []),
  (58, 0, .if_icmp .eq (9), [38]),
  (61, 0, .iinc 2 (1), []),
  (64, 0, .goto (-24), [24]),
  (67, 8, .aload_n 0, []),
  (68, 0, .getfield 19, [71, 6, 9, 2]),
  (71, 0, .iload_n 2, []),
  (72, 0, .iaload, []),
  (73, 0, .bipush (59), []),
  (75, 0, .if_icmp .ne (35), [63]),
  (78, 0, .iload_n 2, []),
  (79, 0, .iload_n 1, []),
  (80, 0, .if_icmp .le (30), [63]),
  (83, 0, .aload_n 0, []),
  (84, 0, .getfield 28, [74, 6, 12, 2]),
  (87, 0, .iload_n 1, []),
  (88, 0, .iaload, []),
  (89, 0, .iload_n 2, []),
  (90, 0, .iconst (1), []),
  (91, 0, .isub, []),
  (92, 0, .if_icmp .ne (18), [63]),
  (95, 0, .aload_n 0, []),
  (96, 0, .getfield 31, [75, 6, 13, 2]),
  (99, 0, .iload_n 1, []),
  (100, 0, .iaload, []),
  (101, 0, .bipush (12), []),
  (103, 0, .if_icmp .gt (7), [63]),
  (106, 0, .iconst (1), []),
  (107, 0, .goto (4), [64]),
  (110, 0, .iconst (0), []),
  (111, 0, .istore_n 3, []),
  (112, 16, .iload_n 1, []),
  (113, 0, .istore 4, []),
  (115, 30, .iload 4, []),
  (117, 0, .iload_n 2, []),
  (118, 0, .if_icmp .gt (28), [83]),
  (121, 0, .aload_n 0, []),
  (122, 0, .getfield 34, [76, 6, 14, 2]),
  (125, 0, .iload 4, []),
  (127, 0, .iload_n 3, []),
  (128, 0, .bastore, []),
  (129, 0, .aload_n 0, []),
  (130, 0, .getfield 38, [77, 6, 15, 2]),
  (133, 0, .iload 4, []),
  (135, 0, .aload_n 0, []),
  (136, 0, .getfield 95, [89, 6, 17, 0]),
  (139, 0, .iastore, []),
  (140, 0, .iinc 4 (1), []),
  (143, 0, .goto (-28), [67]),
  (146, 6, .iload_n 2, []),
  (147, 0, .iconst (1), []),
  (148, 0, .iadd, []),
  (149, 0, .istore_n 1, []),
  (150, 0, .aload_n 0, []),
  (151, 0, .dup, []),
  (152, 0, .getfield 95, [89, 6, 17, 0]),
  (155, 0, .iconst (1), []),
  (156, 0, .iadd, []),
  (157, 0, .putfield 95, [89, 6, 17, 0]),
  (160, 0, .goto (-130), [18]),
  (163, 0, .return_, [])]
def c_82 : List En := [
  (0, 0, .iconst (0), []),
  (1, 0, .istore 4, []),
  (3, 0, .iload_n 1, []),
  (4, 0, .istore 5, []),
  (6, 0, .iload_n 1, []),
  (7, 0, .iload_n 2, []),
  (8, 0, .iadd, []),
  (9, 0, .istore 6, []),
  (11, 122, .iload 5, []),
  (13, 0, .iload 6, []),
  (15, 0, .if_icmp .ge (131), [76]),
  (18, 0, .aload_n 0, []),
  (19, 0, .getfield 7, [68, 6, 0, 2]),
  (22, 0, .iload 5, []),
  (24, 0, .iaload, []),
  (25, 0, .bipush (32), []),
  (27, 0, .if_icmp .eq (15), [23]),
  (30, 0, .aload_n 0, []),
  (31, 0, .getfield 7, [68, 6, 0, 2]),
  (34, 0, .iload 5, []),
  (36, 0, .iaload, []),
  (37, 0, .bipush (10), []),
  (39, 0, .if_icmp .ne (9), [25]),
  (42, 0, .iinc 5 (1), []),
  (45, 0, .goto (-34), [8]),
  (48, 0, .aload_n 0, []),
  (49, 0, .getfield 7, [68, 6, 0, 2]),
  (52, 0, .iload 5, []),
  (54, 0, .iaload, []),
  (55, 0, .bipush (35), []),
  (57, 0, .if_icmp .ne (28), [42]),
  (60, 122, .iload 5, []),
  (62, 0, .iload 6, []),
  (64, 0, .if_icmp .ge (-53), [8]),
  (67, 0, .aload_n 0, []),
  (68, 0, .getfield 7, [68, 6, 0, 2]),
  (71, 0, .iload 5, []),
  (73, 0, .iaload, []),
  (74, 0, .bipush (10), []),
  (76, 0, .if_icmp .eq (-65), [8]),
  (79, 0, .iinc 5 (1), []),
  (82, 0, .goto (-22), [31]),
  (85, 0, .aload_n 0, []),
  (86, 0, .iload 5, []),
  (88, 0, .iload 6, []),
  (90, 0, .invokevirtual 69, [74, 83, 3, 0, 1, 4, 0, 6]),
  (93, 0, .istore 7, []),
  (95, 0, .aload_n 0, []),
  (96, 0, .getfield 19, [71, 6, 9, 2]),
  (99, 0, .iload_n 3, []),
  (100, 0, .iload 4, []),
  (102, 0, .iadd, []),
  (103, 0, .iload 7, []),
  (105, 0, .iastore, []),
  (106, 0, .aload_n 0, []),
  (107, 0, .getfield 22, [72, 6, 10, 2]),
  (110, 0, .iload_n 3, []),
  (111, 0, .iload 4, []),
  (113, 0, .iadd, []),
  (114, 0, .iload 5, []),
  (116, 0, .iastore, []),
  (117, 0, .aload_n 0, []),
  (118, 0, .iload 5, []),
  (120, 0, .iload 6, []),
  (122, 0, .iload 7, []),
  (124, 0, .invokevirtual 73, [75, 87, 4, 0, 1, 5, 0, 6]),
  (127, 0, .istore 5, []),
  (129, 0, .aload_n 0, []),
  (130, 0, .getfield 25, [73, 6, 11, 2]),
  (133, 0, .iload_n 3, []),
  (134, 0, .iload 4, []),
  (136, 0, .iadd, []),
  (137, 0, .iload 5, []),
  (139, 0, .iastore, []),
  (140, 0, .iinc 4 (1), []),
  (143, 0, .goto (-132), [8]),
  (146, 0, .iload 4, []),
  (148, 0, .ireturn, [])]
def c_83 : List En := [
  (0, 0, .aload_n 0, []),
  (1, 0, .getfield 7, [68, 6, 0, 2]),
  (4, 0, .iload_n 1, []),
  (5, 0, .iaload, []),
  (6, 0, .istore_n 3, []),
  (7, 0, .iload_n 3, []),
  (8, 0, .invokestatic 59, [76, 84, 1, 0, 1, 1, 2, 6]),
  (11, 0, .ifCond .eq (5), [10]),
  (14, 0, .iconst (1), []),
  (15, 0, .ireturn, []),
  (16, 0, .iload_n 3, []),
  (17, 0, .invokestatic 63, [77, 85, 1, 0, 1, 1, 2, 6]),
  (20, 0, .ifCond .eq (5), [15]),
  (23, 0, .iconst (2), []),
  (24, 0, .ireturn, []),
  (25, 0, .iload_n 3, []),
  (26, 0, .bipush (36), []),
  (28, 0, .if_icmp .ne (26), [33]),
  (31, 0, .iload_n 1, []),
  (32, 0, .iconst (1), []),
  (33, 0, .iadd, []),
  (34, 0, .iload_n 2, []),
  (35, 0, .if_icmp .ge (19), [33]),
  (38, 0, .aload_n 0, []),
  (39, 0, .getfield 7, [68, 6, 0, 2]),
  (42, 0, .iload_n 1, []),
  (43, 0, .iconst (1), []),
  (44, 0, .iadd, []),
  (45, 0, .iaload, []),
  (46, 0, .invokestatic 63, [77, 85, 1, 0, 1, 1, 2, 6]),
  (49, 0, .ifCond .eq (5), [33]),
  (52, 0, .iconst (3), []),
  (53, 0, .ireturn, []),
  (54, 0, .iload_n 3, []),
  (55, 0, .invokestatic 66, [78, 86, 1, 0, 1, 1, 2, 6]),
  (58, 0, .ifCond .eq (7), [38]),
  (61, 0, .iload_n 3, []),
  (62, 0, .goto (4), [39]),
  (65, 0, .iconst (4), []),
  (66, 0, .ireturn, [])]
def c_84 : List En := [
  (0, 0, .iload_n 0, []),
  (1, 0, .bipush (97), []),
  (3, 0, .if_icmp .lt (9), [6]),
  (6, 0, .iload_n 0, []),
  (7, 0, .bipush (122), []),
  (9, 0, .if_icmp .le (15), [12]),
  (12, 0, .iload_n 0, []),
  (13, 0, .bipush (65), []),
  (15, 0, .if_icmp .lt (13), [14]),
  (18, 0, .iload_n 0, []),
  (19, 0, .bipush (90), []),
  (21, 0, .if_icmp .gt (7), [14]),
  (24, 0, .iconst (1), []),
  (25, 0, .goto (4), [15]),
  (28, 0, .iconst (0), []),
  (29, 0, .ireturn, [1])]
def c_85 : List En := [
  (0, 0, .iload_n 0, []),
  (1, 0, .bipush (48), []),
  (3, 0, .if_icmp .lt (13), [8]),
  (6, 0, .iload_n 0, []),
  (7, 0, .bipush (57), []),
  (9, 0, .if_icmp .gt (7), [8]),
  (12, 0, .iconst (1), []),
  (13, 0, .goto (4), [9]),
  (16, 0, .iconst (0), []),
  (17, 0, .ireturn, [1])]
def c_86 : List En := [
  (0, 0, .iload_n 0, []),
  (1, 0, .bipush (40), []),
  (3, 0, .if_icmp .eq (27), [15]),
  (6, 0, .iload_n 0, []),
  (7, 0, .bipush (41), []),
  (9, 0, .if_icmp .eq (21), [15]),
  (12, 0, .iload_n 0, []),
  (13, 0, .bipush (44), []),
  (15, 0, .if_icmp .eq (15), [15]),
  (18, 0, .iload_n 0, []),
  (19, 0, .bipush (59), []),
  (21, 0, .if_icmp .eq (9), [15]),
  (24, 0, .iload_n 0, []),
  (25, 0, .bipush (62), []),
  (27, 0, .if_icmp .ne (7), [17]),
  (30, 0, .iconst (1), []),
  (31, 0, .goto (4), [18]),
  (34, 0, .iconst (0), []),
  (35, 0, .ireturn, [1])]
def c_87 : List En := [
  (0, 0, .iload_n 1, []),
  (1, 0, .iconst (1), []),
  (2, 0, .iadd, []),
  (3, 0, .istore 4, []),
  (5, 0, .iload_n 3, []),
  (6, 0, .iconst (3), []),
  (7, 0, .if_icmp .ne (8), [11]),
  (10, 0, .iload 4, []),
  (12, 0, .iconst (1), []),
  (13, 0, .iadd, []),
  (14, 0, .ireturn, []),
  (15, 0, .iload_n 3, []),
  (16, 0, .iconst (1), []),
  (17, 0, .if_icmp .ne (41), [31]),
  (20, 22, .iload 4, []),
  (22, 0, .iload_n 2, []),
  (23, 0, .if_icmp .ge (65), [45]),
  (26, 0, .aload_n 0, []),
  (27, 0, .getfield 7, [68, 6, 0, 2]),
  (30, 0, .iload 4, []),
  (32, 0, .iaload, []),
  (33, 0, .invokestatic 59, [76, 84, 1, 0, 1, 1, 2, 6]),
  (36, 0, .ifCond .ne (16), [29]),
  (39, 0, .aload_n 0, []),
  (40, 0, .getfield 7, [68, 6, 0, 2]),
  (43, 0, .iload 4, []),
  (45, 0, .iaload, []),
  (46, 0, .invokestatic 63, [77, 85, 1, 0, 1, 1, 2, 6]),
  (49, 0, .ifCond .eq (39), [45]),
  (52, 0, .iinc 4 (1), []),
  (55, 0, .goto (-35), [14]),
  (58, 0, .iload_n 3, []),
  (59, 0, .iconst (2), []),
  (60, 0, .if_icmp .ne (28), [45]),
  (63, 22, .iload 4, []),
  (65, 0, .iload_n 2, []),
  (66, 0, .if_icmp .ge (22), [45]),
  (69, 0, .aload_n 0, []),
  (70, 0, .getfield 7, [68, 6, 0, 2]),
  (73, 0, .iload 4, []),
  (75, 0, .iaload, []),
  (76, 0, .invokestatic 63, [77, 85, 1, 0, 1, 1, 2, 6]),
  (79, 0, .ifCond .eq (9), [45]),
  (82, 0, .iinc 4 (1), []),
  (85, 0, .goto (-22), [34]),
  (88, 0, .iload 4, []),
  (90, 0, .ireturn, [])]
def c_88 : List En := [
  (0, 0, .iload_n 2, []),
  (1, 0, .iconst (1), []),
  (2, 0, .isub, []),
  (3, 0, .istore_n 3, []),
  (4, 16, .iload_n 3, []),
  (5, 0, .ifCond .lt (118), [77]),
  (8, 0, .aload_n 0, []),
  (9, 0, .getfield 19, [71, 6, 9, 2]),
  (12, 0, .iload_n 1, []),
  (13, 0, .iload_n 3, []),
  (14, 0, .iadd, []),
  (15, 0, .iaload, []),
  (16, 0, .istore 4, []),
  (18, 0, .aload_n 0, []),
  (19, 0, .getfield 28, [74, 6, 12, 2]),
  (22, 0, .iload_n 1, []),
  (23, 0, .iload_n 3, []),
  (24, 0, .iadd, []),
  (25, 0, .iconst (-1), []),
  (26, 0, .iastore, []),
  (27, 0, .aload_n 0, []),
  (28, 0, .getfield 31, [75, 6, 13, 2]),
  (31, 0, .iload_n 1, []),
  (32, 0, .iload_n 3, []),
  (33, 0, .iadd, []),
  (34, 0, .iconst (0), []),
  (35, 0, .iastore, []),
  (36, 0, .iload 4, []),
  (38, 0, .iconst (1), []),
  (39, 0, .if_icmp .ne (29), [47]),
  (42, 0, .iload_n 3, []),
  (43, 0, .iconst (1), []),
  (44, 0, .iadd, []),
  (45, 0, .iload_n 2, []),
  (46, 0, .if_icmp .ge (22), [47]),
  (49, 0, .aload_n 0, []),
  (50, 0, .getfield 19, [71, 6, 9, 2]),
  (53, 0, .iload_n 1, []),
  (54, 0, .iload_n 3, []),
  (55, 0, .iadd, []),
  (56, 0, .iconst (1), []),
  (57, 0, .iadd, []),
  (58, 0, .iaload, []),
  (59, 0, .bipush (40), []),
  (61, 0, .if_icmp .ne (7), [47]),
  (64, 0, .iconst (1), []),
  (65, 0, .goto (4), [48]),
  (68, 0, .iconst (0), []),
  (69, 0, .istore 5, []),
  (71, 64, .iload 5, []),
  (73, 0, .ifCond .eq (13), [57]),
  (76, 0, .aload_n 0, []),
  (77, 0, .iload_n 1, []),
  (78, 0, .iload_n 2, []),
  (79, 0, .iload_n 3, []),
  (80, 0, .invokevirtual 77, [79, 89, 4, 0, 0, 8, 0, 6]),
  (83, 0, .goto (34), [75]),
  (86, 0, .iload 4, []),
  (88, 0, .iconst (1), []),
  (89, 0, .if_icmp .eq (19), [68]),
  (92, 0, .iload 4, []),
  (94, 0, .iconst (2), []),
  (95, 0, .if_icmp .eq (13), [68]),
  (98, 0, .iload 4, []),
  (100, 0, .iconst (3), []),
  (101, 0, .if_icmp .ne (16), [75]),
  (104, 0, .iload_n 1, []),
  (105, 0, .ifCond .le (12), [75]),
  (108, 0, .aload_n 0, []),
  (109, 0, .getfield 28, [74, 6, 12, 2]),
  (112, 0, .iload_n 1, []),
  (113, 0, .iload_n 3, []),
  (114, 0, .iadd, []),
  (115, 0, .iload_n 3, []),
  (116, 0, .iastore, []),
  (117, 16, .iinc 3 (-1), []),
  (120, 0, .goto (-116), [4]),
  (123, 0, .return_, [])]
def c_89 : List En := [
  (0, 0, .iload_n 3, []),
  (1, 0, .iconst (2), []),
  (2, 0, .iadd, []),
  (3, 0, .istore 4, []),
  (5, 0, .iconst (0), []),
  (6, 0, .istore 5, []),
  (8, 0, .iload 4, []),
  (10, 0, .iload_n 2, []),
  (11, 0, .if_icmp .ge (7), [11]),
  (14, 0, .iconst (1), []),
  (15, 0, .goto (4), [12]),
  (18, 0, .iconst (0), []),
  (19, 0, .istore 6, []),
  (21, 128, .iload 6, []),
  (23, 0, .ifCond .eq (37), [38]),
  (26, 0, .aload_n 0, []),
  (27, 0, .getfield 19, [71, 6, 9, 2]),
  (30, 0, .iload_n 1, []),
  (31, 0, .iload 4, []),
  (33, 0, .iadd, []),
  (34, 0, .iaload, []),
  (35, 0, .bipush (41), []),
  (37, 0, .if_icmp .ne (23), [38]),
  (40, 0, .aload_n 0, []),
  (41, 0, .getfield 28, [74, 6, 12, 2]),
  (44, 0, .iload_n 1, []),
  (45, 0, .iload_n 3, []),
  (46, 0, .iadd, []),
  (47, 0, .iload 4, []),
  (49, 0, .iastore, []),
  (50, 0, .aload_n 0, []),
  (51, 0, .getfield 31, [75, 6, 13, 2]),
  (54, 0, .iload_n 1, []),
  (55, 0, .iload_n 3, []),
  (56, 0, .iadd, []),
  (57, 0, .iconst (1), []),
  (58, 0, .iastore, []),
  (59, 0, .return_, []),
  (60, 128, .iload 6, []),
  (62, 0, .ifCond .eq (135), [117]),
  (65, 0, .aload_n 0, []),
  (66, 0, .getfield 28, [74, 6, 12, 2]),
  (69, 0, .iload_n 1, []),
  (70, 0, .iload 4, []),
  (72, 0, .iadd, []),
  (73, 0, .iaload, []),
  (74, 0, .ifCond .ge (4), [48]),
  (77, 0, .return_, []),
  (78, 0, .aload_n 0, []),
  (79, 0, .getfield 31, [75, 6, 13, 2]),
  (82, 0, .iload_n 1, []),
  (83, 0, .iload 4, []),
  (85, 0, .iadd, []),
  (86, 0, .iaload, []),
  (87, 0, .iload 5, []),
  (89, 0, .if_icmp .le (15), [63]),
  (92, 0, .aload_n 0, []),
  (93, 0, .getfield 31, [75, 6, 13, 2]),
  (96, 0, .iload_n 1, []),
  (97, 0, .iload 4, []),
  (99, 0, .iadd, []),
  (100, 0, .iaload, []),
  (101, 0, .goto (5), [64]),
  (104, 0, .iload 5, []),
  (106, 0, .istore 5, []),
  (108, 64, .aload_n 0, []),
  (109, 0, .getfield 28, [74, 6, 12, 2]),
  (112, 0, .iload_n 1, []),
  (113, 0, .iload 4, []),
  (115, 0, .iadd, []),
  (116, 0, .iaload, []),
  (117, 0, .iconst (1), []),
  (118, 0, .iadd, []),
  (119, 0, .istore 4, []),
  (121, 0, .iload 4, []),
  (123, 0, .iload_n 2, []),
  (124, 0, .if_icmp .ge (15), [84]),
  (127, 0, .aload_n 0, []),
  (128, 0, .getfield 19, [71, 6, 9, 2]),
  (131, 0, .iload_n 1, []),
  (132, 0, .iload 4, []),
  (134, 0, .iadd, []),
  (135, 0, .iaload, []),
  (136, 0, .goto (4), [85]),
  (139, 0, .iconst (0), []),
  (140, 0, .istore 7, []),
  (142, 192, .iload 7, []),
  (144, 0, .bipush (41), []),
  (146, 0, .if_icmp .ne (25), [105]),
  (149, 0, .aload_n 0, []),
  (150, 0, .getfield 28, [74, 6, 12, 2]),
  (153, 0, .iload_n 1, []),
  (154, 0, .iload_n 3, []),
  (155, 0, .iadd, []),
  (156, 0, .iload 4, []),
  (158, 0, .iastore, []),
  (159, 0, .aload_n 0, []),
  (160, 0, .getfield 31, [75, 6, 13, 2]),
  (163, 0, .iload_n 1, []),
  (164, 0, .iload_n 3, []),
  (165, 0, .iadd, []),
  (166, 0, .iload 5, []),
  (168, 0, .iconst (1), []),
  (169, 0, .iadd, []),
  (170, 0, .iastore, []),
  (171, 192, .iinc 4 (1), []),
  (174, 0, .iload 7, []),
  (176, 0, .bipush (44), []),
  (178, 0, .if_icmp .ne (13), [114]),
  (181, 0, .iload 4, []),
  (183, 0, .iload_n 2, []),
  (184, 0, .if_icmp .ge (7), [114]),
  (187, 0, .iconst (1), []),
  (188, 0, .goto (4), [115]),
  (191, 0, .iconst (0), []),
  (192, 0, .istore 6, []),
  (194, 128, .goto (-134), [38]),
  (197, 0, .return_, [])]
def c_90 : List En := [
  (0, 0, .aload_n 0, []),
  (1, 0, .getfield 120, [91, 6, 5, 0]),
  (4, 0, .bipush (6), []),
  (6, 0, .if_icmp .lt (5), [6]),
  (9, 0, .iconst (-1), []),
  (10, 0, .ireturn, []),
  (11, 0, .aload_n 0, []),
  (12, 0, .sipush (192), []),
  (15, 0, .aload_n 0, []),
  (16, 0, .getfield 102, [84, 6, 4, 0]),
  (19, 0, .invokevirtual 123, [80, 91, 3, 0, 0, 3, 0, 6]),
  (22, 0, .aload_n 0, []),
  (23, 0, .invokevirtual 126, [81, 92, 1, 0, 1, 6, 0, 6]),
  (26, 0, .ifCond .ne (5), [16]),
  (29, 0, .iconst (-1), []),
  (30, 0, .ireturn, []),
  (31, 0, .iconst (0), []),
  (32, 0, .istore_n 1, []),
  (33, 4, .iload_n 1, []),
  (34, 0, .aload_n 0, []),
  (35, 0, .getfield 102, [84, 6, 4, 0]),
  (38, 0, .if_icmp .ge (37), [41]),
  (41, 0, .aload_n 0, []),
  (42, 0, .getfield 7, [68, 6, 0, 2]),
  (45, 0, .sipush (256), []),
  (48, 0, .bipush (64), []),
  (50, 0, .aload_n 0, []),
  (51, 0, .getfield 120, [91, 6, 5, 0]),
  (54, 0, .imul, []),
  (55, 0, .iadd, []),
  (56, 0, .iload_n 1, []),
  (57, 0, .iadd, []),
  (58, 0, .aload_n 0, []),
  (59, 0, .getfield 7, [68, 6, 0, 2]),
  (62, 0, .sipush (192), []),
  (65, 0, .iload_n 1, []),
  (66, 0, .iadd, []),
  (67, 0, .iaload, []),
  (68, 0, .iastore, []),
  (69, 0, .iinc 1 (1), []),
  (72, 0, .goto (-39), [18]),
  (75, 0, .aload_n 0, []),
  (76, 0, .getfield 16, [70, 6, 6, 2]),
  (79, 0, .aload_n 0, []),
  (80, 0, .getfield 120, [91, 6, 5, 0]),
  (83, 0, .aload_n 0, []),
  (84, 0, .getfield 102, [84, 6, 4, 0]),
  (87, 0, .iastore, []),
  (88, 0, .aload_n 0, []),
  (89, 0, .iconst (0), []),
  (90, 0, .putfield 102, [84, 6, 4, 0]),
  (93, 0, .aload_n 0, []),
  (94, 0, .dup, []),
  (95, 0, .getfield 120, [91, 6, 5, 0]),
  (98, 0, .iconst (1), []),
  (99, 0, .iadd, []),
  (100, 0, .putfield 120, [91, 6, 5, 0]),
  (103, 0, .aload_n 0, []),
  (104, 0, .getfield 120, [91, 6, 5, 0]),
  (107, 0, .iconst (1), []),
  (108, 0, .isub, []),
  (109, 0, .ireturn, [])]
def c_91 : List En := [
  (0, 0, .aload_n 0, []),
  (1, 0, .aload_n 0, []),
  (2, 0, .iload_n 1, []),
  (3, 0, .iload_n 2, []),
  (4, 0, .sipush (128), []),
  (7, 0, .invokevirtual 85, [72, 82, 4, 0, 1, 8, 0, 6]),
  (10, 0, .putfield 117, [92, 6, 18, 0]),
  (13, 0, .aload_n 0, []),
  (14, 0, .sipush (128), []),
  (17, 0, .aload_n 0, []),
  (18, 0, .getfield 117, [92, 6, 18, 0]),
  (21, 0, .invokevirtual 91, [73, 88, 3, 0, 0, 6, 0, 6]),
  (24, 0, .return_, [])]
def c_92 : List En := [
  (0, 0, .aload_n 0, []),
  (1, 0, .getfield 117, [92, 6, 18, 0]),
  (4, 0, .iconst (3), []),
  (5, 0, .if_icmp .lt (14), [9]),
  (8, 0, .aload_n 0, []),
  (9, 0, .getfield 28, [74, 6, 12, 2]),
  (12, 0, .sipush (128), []),
  (15, 0, .iaload, []),
  (16, 0, .ifCond .ge (5), [11]),
  (19, 0, .iconst (0), []),
  (20, 0, .ireturn, [1]),
  (21, 0, .aload_n 0, []),
  (22, 0, .getfield 28, [74, 6, 12, 2]),
  (25, 0, .sipush (128), []),
  (28, 0, .iaload, []),
  (29, 0, .iconst (1), []),
  (30, 0, .iadd, []),
  (31, 0, .istore_n 1, []),
  (32, 0, .sipush (128), []),
  (35, 0, .iload_n 1, []),
  (36, 0, .iadd, []),
  (37, 0, .iconst (1), []),
  (38, 0, .iadd, []),
  (39, 0, .istore_n 2, []),
  (40, 0, .iload_n 1, []),
  (41, 0, .iconst (1), []),
  (42, 0, .iadd, []),
  (43, 0, .aload_n 0, []),
  (44, 0, .getfield 117, [92, 6, 18, 0]),
  (47, 0, .if_icmp .ge (33), [47]),
  (50, 0, .aload_n 0, []),
  (51, 0, .getfield 19, [71, 6, 9, 2]),
  (54, 0, .sipush (128), []),
  (57, 0, .iload_n 1, []),
  (58, 0, .iadd, []),
  (59, 0, .iaload, []),
  (60, 0, .bipush (62), []),
  (62, 0, .if_icmp .ne (18), [47]),
  (65, 0, .aload_n 0, []),
  (66, 0, .getfield 28, [74, 6, 12, 2]),
  (69, 0, .iload_n 2, []),
  (70, 0, .iaload, []),
  (71, 0, .aload_n 0, []),
  (72, 0, .getfield 117, [92, 6, 18, 0]),
  (75, 0, .iconst (1), []),
  (76, 0, .isub, []),
  (77, 0, .if_icmp .eq (5), [49]),
  (80, 0, .iconst (0), []),
  (81, 0, .ireturn, [1]),
  (82, 0, .aload_n 0, []),
  (83, 0, .getfield 31, [75, 6, 13, 2]),
  (86, 0, .sipush (128), []),
  (89, 0, .iaload, []),
  (90, 0, .bipush (12), []),
  (92, 0, .if_icmp .gt (14), [61]),
  (95, 0, .aload_n 0, []),
  (96, 0, .getfield 31, [75, 6, 13, 2]),
  (99, 0, .iload_n 2, []),
  (100, 0, .iaload, []),
  (101, 0, .bipush (12), []),
  (103, 0, .if_icmp .le (5), [63]),
  (106, 0, .iconst (0), []),
  (107, 0, .ireturn, [1]),
  (108, 0, .iload_n 2, []),
  (109, 0, .istore_n 3, []),
  (110, 14, .iload_n 3, []),
  (111, 0, .sipush (128), []),
  (114, 0, .aload_n 0, []),
  (115, 0, .getfield 117, [92, 6, 18, 0]),
  (118, 0, .iadd, []),
  (119, 0, .if_icmp .ge (72), [105]),
  (122, 0, .aload_n 0, []),
  (123, 0, .getfield 19, [71, 6, 9, 2]),
  (126, 0, .iload_n 3, []),
  (127, 0, .iaload, []),
  (128, 0, .iconst (3), []),
  (129, 0, .if_icmp .eq (7), [79]),
  (132, 0, .iconst (1), []),
  (133, 0, .goto (4), [80]),
  (136, 0, .iconst (0), []),
  (137, 0, .istore 4, []),
  (139, 30, .sipush (128), []),
  (142, 0, .istore 5, []),
  (144, 62, .iload 5, []),
  (146, 0, .iload_n 2, []),
  (147, 0, .if_icmp .ge (31), [99]),
  (150, 0, .iload 4, []),
  (152, 0, .ifCond .ne (13), [93]),
  (155, 0, .aload_n 0, []),
  (156, 0, .iload_n 3, []),
  (157, 0, .iload 5, []),
  (159, 0, .invokevirtual 98, [82, 93, 3, 0, 1, 4, 0, 6]),
  (162, 0, .ifCond .eq (7), [95]),
  (165, 0, .iconst (1), []),
  (166, 0, .goto (4), [96]),
  (169, 0, .iconst (0), []),
  (170, 0, .istore 4, []),
  (172, 62, .iinc 5 (1), []),
  (175, 0, .goto (-31), [83]),
  (178, 0, .iload 4, []),
  (180, 0, .ifCond .ne (5), [103]),
  (183, 0, .iconst (0), []),
  (184, 0, .ireturn, [1]),
  (185, 0, .iinc 3 (1), []),
  (188, 0, .goto (-78), [65]),
  (191, 0, .iconst (1), []),
  (192, 0, .ireturn, [1])]
def c_93 : List En := [
  (0, 0, .aload_n 0, []),
  (1, 0, .getfield 19, [71, 6, 9, 2]),
  (4, 0, .iload_n 1, []),
  (5, 0, .iaload, []),
  (6, 0, .aload_n 0, []),
  (7, 0, .getfield 19, [71, 6, 9, 2]),
  (10, 0, .iload_n 2, []),
  (11, 0, .iaload, []),
  (12, 0, .if_icmp .ne (32), [28]),
  (15, 0, .aload_n 0, []),
  (16, 0, .getfield 25, [73, 6, 11, 2]),
  (19, 0, .iload_n 1, []),
  (20, 0, .iaload, []),
  (21, 0, .aload_n 0, []),
  (22, 0, .getfield 22, [72, 6, 10, 2]),
  (25, 0, .iload_n 1, []),
  (26, 0, .iaload, []),
  (27, 0, .isub, []),
  (28, 0, .aload_n 0, []),
  (29, 0, .getfield 25, [73, 6, 11, 2]),
  (32, 0, .iload_n 2, []),
  (33, 0, .iaload, []),
  (34, 0, .aload_n 0, []),
  (35, 0, .getfield 22, [72, 6, 10, 2]),
  (38, 0, .iload_n 2, []),
  (39, 0, .iaload, []),
  (40, 0, .isub, []),
  (41, 0, .if_icmp .eq (5), [30]),
  (44, 0, .iconst (0), []),
  (45, 0, .ireturn, [1]),
  (46, 0, .iconst (0), []),
  (47, 0, .istore_n 3, []),
  (48, 16, .iload_n 3, []),
  (49, 0, .aload_n 0, []),
  (50, 0, .getfield 25, [73, 6, 11, 2]),
  (53, 0, .iload_n 1, []),
  (54, 0, .iaload, []),
  (55, 0, .aload_n 0, []),
  (56, 0, .getfield 22, [72, 6, 10, 2]),
  (59, 0, .iload_n 1, []),
  (60, 0, .iaload, []),
  (61, 0, .isub, []),
  (62, 0, .if_icmp .ge (40), [66]),
  (65, 0, .aload_n 0, []),
  (66, 0, .getfield 7, [68, 6, 0, 2]),
  (69, 0, .aload_n 0, []),
  (70, 0, .getfield 22, [72, 6, 10, 2]),
  (73, 0, .iload_n 1, []),
  (74, 0, .iaload, []),
  (75, 0, .iload_n 3, []),
  (76, 0, .iadd, []),
  (77, 0, .iaload, []),
  (78, 0, .aload_n 0, []),
  (79, 0, .getfield 7, [68, 6, 0, 2]),
  (82, 0, .aload_n 0, []),
  (83, 0, .getfield 22, [72, 6, 10, 2]),
  (86, 0, .iload_n 2, []),
  (87, 0, .iaload, []),
  (88, 0, .iload_n 3, []),
  (89, 0, .iadd, []),
  (90, 0, .iaload, []),
  (91, 0, .if_icmp .eq (5), [64]),
  (94, 0, .iconst (0), []),
  (95, 0, .ireturn, [1]),
  (96, 0, .iinc 3 (1), []),
  (99, 0, .goto (-51), [32]),
  (102, 0, .iconst (1), []),
  (103, 0, .ireturn, [1])]
def c_94 : List En := [
  (0, 0, .aload_n 0, []),
  (1, 0, .getfield 120, [91, 6, 5, 0]),
  (4, 0, .ireturn, [])]
def c_95 : List En := [
  (0, 0, .iload_n 1, []),
  (1, 0, .iconst (1), []),
  (2, 0, .if_icmp .lt (9), [6]),
  (5, 0, .iload_n 1, []),
  (6, 0, .bipush (9), []),
  (8, 0, .if_icmp .le (5), [8]),
  (11, 0, .iconst (-1), []),
  (12, 0, .ireturn, []),
  (13, 0, .aload_n 0, []),
  (14, 0, .getfield 81, [85, 6, 2, 0]),
  (17, 0, .istore_n 2, []),
  (18, 0, .aload_n 0, []),
  (19, 0, .getfield 108, [87, 6, 7, 0]),
  (22, 0, .istore_n 3, []),
  (23, 0, .iconst (0), []),
  (24, 0, .istore 4, []),
  (26, 32, .iload 4, []),
  (28, 0, .aload_n 0, []),
  (29, 0, .getfield 81, [85, 6, 2, 0]),
  (32, 0, .if_icmp .ge (37), [38]),
  (35, 0, .aload_n 0, []),
  (36, 0, .getfield 50, [81, 6, 23, 2]),
  (39, 0, .iload 4, []),
  (41, 0, .aload_n 0, []),
  (42, 0, .getfield 7, [68, 6, 0, 2]),
  (45, 0, .iload 4, []),
  (47, 0, .iaload, []),
  (48, 0, .iastore, []),
  (49, 0, .aload_n 0, []),
  (50, 0, .getfield 53, [82, 6, 24, 2]),
  (53, 0, .iload 4, []),
  (55, 0, .aload_n 0, []),
  (56, 0, .getfield 13, [69, 6, 1, 2]),
  (59, 0, .iload 4, []),
  (61, 0, .iaload, []),
  (62, 0, .iastore, []),
  (63, 0, .iinc 4 (1), []),
  (66, 0, .goto (-40), [16]),
  (69, 0, .iconst (0), []),
  (70, 0, .istore 4, []),
  (72, 0, .iconst (1), []),
  (73, 0, .istore 5, []),
  (75, 64, .iload 4, []),
  (77, 0, .iload_n 1, []),
  (78, 0, .if_icmp .ge (72), [78]),
  (81, 0, .iload 5, []),
  (83, 0, .ifCond .eq (67), [78]),
  (86, 0, .aload_n 0, []),
  (87, 0, .getfield 108, [87, 6, 7, 0]),
  (90, 0, .istore 6, []),
  (92, 0, .iconst (0), []),
  (93, 0, .istore 7, []),
  (95, 224, .iload 7, []),
  (97, 0, .aload_n 0, []),
  (98, 0, .getfield 120, [91, 6, 5, 0]),
  (101, 0, .if_icmp .ge (27), [68]),
  (104, 0, .aload_n 0, []),
  (105, 0, .iload 7, []),
  (107, 0, .invokevirtual 162, [83, 96, 2, 0, 1, 6, 0, 6]),
  (110, 0, .ifCond .ne (12), [66]),
  (113, 0, .aload_n 0, []),
  (114, 0, .iload_n 2, []),
  (115, 0, .iload_n 3, []),
  (116, 0, .invokevirtual 165, [84, 106, 3, 0, 0, 4, 0, 6]),
  (119, 0, .bipush (-2), []),
  (121, 0, .ireturn, []),
  (122, 0, .iinc 7 (1), []),
  (125, 0, .goto (-30), [52]),
  (128, 0, .aload_n 0, []),
  (129, 0, .getfield 108, [87, 6, 7, 0]),
  (132, 0, .iload 6, []),
  (134, 0, .if_icmp .le (7), [74]),
  (137, 0, .iconst (1), []),
  (138, 0, .goto (4), [75]),
  (141, 0, .iconst (0), []),
  (142, 0, .istore 5, []),
  (144, 64, .iinc 4 (1), []),
  (147, 0, .goto (-72), [42]),
  (150, 0, .aload_n 0, []),
  (151, 0, .iload 4, []),
  (153, 0, .putfield 111, [88, 6, 8, 0]),
  (156, 0, .aload_n 0, []),
  (157, 0, .getfield 108, [87, 6, 7, 0]),
  (160, 0, .iload_n 3, []),
  (161, 0, .isub, []),
  (162, 0, .ireturn, [])]
def c_96 : List En := [
  (0, 0, .aload_n 0, []),
  (1, 0, .sipush (256), []),
  (4, 0, .bipush (64), []),
  (6, 0, .iload_n 1, []),
  (7, 0, .imul, []),
  (8, 0, .iadd, []),
  (9, 0, .aload_n 0, []),
  (10, 0, .getfield 16, [70, 6, 6, 2]),
  (13, 0, .iload_n 1, []),
  (14, 0, .iaload, []),
  (15, 0, .invokevirtual 123, [80, 91, 3, 0, 0, 3, 0, 6]),
  (18, 0, .aload_n 0, []),
  (19, 0, .invokevirtual 114, [71, 81, 1, 0, 0, 5, 0, 6]),
  (22, 0, .iconst (0), []),
  (23, 0, .istore_n 2, []),
  (24, 0, .aload_n 0, []),
  (25, 0, .iconst (0), []),
  (26, 0, .invokevirtual 153, [85, 97, 2, 0, 1, 4, 0, 6]),
  (29, 0, .istore_n 3, []),
  (30, 0, .iconst (0), []),
  (31, 0, .istore 4, []),
  (33, 26, .iload 4, []),
  (35, 0, .sipush (1000), []),
  (38, 0, .if_icmp .ge (59), [56]),
  (41, 0, .iload_n 3, []),
  (42, 0, .ifCond .lt (55), [56]),
  (45, 0, .aload_n 0, []),
  (46, 0, .iload_n 3, []),
  (47, 0, .invokevirtual 142, [86, 99, 2, 0, 1, 2, 0, 6]),
  (50, 0, .istore_n 2, []),
  (51, 0, .aload_n 0, []),
  (52, 0, .getfield 22, [72, 6, 10, 2]),
  (55, 0, .iload_n 3, []),
  (56, 0, .iaload, []),
  (57, 0, .istore 5, []),
  (59, 0, .aload_n 0, []),
  (60, 0, .iload_n 3, []),
  (61, 0, .invokevirtual 156, [87, 100, 2, 0, 1, 5, 0, 6]),
  (64, 0, .ifCond .eq (21), [50]),
  (67, 0, .aload_n 0, []),
  (68, 0, .iload_n 3, []),
  (69, 0, .invokevirtual 159, [88, 102, 2, 0, 1, 5, 0, 6]),
  (72, 0, .ifCond .ne (5), [45]),
  (75, 0, .iconst (0), []),
  (76, 0, .ireturn, [1]),
  (77, 0, .iload 5, []),
  (79, 0, .aload_n 0, []),
  (80, 0, .getfield 136, [93, 6, 22, 0]),
  (83, 0, .iadd, []),
  (84, 0, .istore_n 2, []),
  (85, 0, .aload_n 0, []),
  (86, 0, .iload_n 2, []),
  (87, 0, .invokevirtual 153, [85, 97, 2, 0, 1, 4, 0, 6]),
  (90, 0, .istore_n 3, []),
  (91, 0, .iinc 4 (1), []),
  (94, 0, .goto (-61), [21]),
  (97, 0, .iconst (1), []),
  (98, 0, .ireturn, [1])]
def c_97 : List En := [
  (0, 0, .iconst (-1), []),
  (1, 0, .istore_n 2, []),
  (2, 0, .iconst (0), []),
  (3, 0, .istore_n 3, []),
  (4, 16, .iload_n 3, []),
  (5, 0, .aload_n 0, []),
  (6, 0, .getfield 88, [90, 6, 16, 0]),
  (9, 0, .if_icmp .ge (45), [30]),
  (12, 0, .aload_n 0, []),
  (13, 0, .iload_n 3, []),
  (14, 0, .invokevirtual 130, [89, 98, 2, 0, 1, 2, 0, 6]),
  (17, 0, .ifCond .eq (31), [28]),
  (20, 0, .aload_n 0, []),
  (21, 0, .iload_n 3, []),
  (22, 0, .invokevirtual 142, [86, 99, 2, 0, 1, 2, 0, 6]),
  (25, 0, .iload_n 1, []),
  (26, 0, .if_icmp .le (22), [28]),
  (29, 0, .iload_n 2, []),
  (30, 0, .ifCond .lt (16), [26]),
  (33, 0, .aload_n 0, []),
  (34, 0, .iload_n 3, []),
  (35, 0, .invokevirtual 142, [86, 99, 2, 0, 1, 2, 0, 6]),
  (38, 0, .aload_n 0, []),
  (39, 0, .iload_n 2, []),
  (40, 0, .invokevirtual 142, [86, 99, 2, 0, 1, 2, 0, 6]),
  (43, 0, .if_icmp .ge (5), [28]),
  (46, 0, .iload_n 3, []),
  (47, 0, .istore_n 2, []),
  (48, 0, .iinc 3 (1), []),
  (51, 0, .goto (-47), [4]),
  (54, 0, .iload_n 2, []),
  (55, 0, .ireturn, [])]
def c_98 : List En := [
  (0, 0, .aload_n 0, []),
  (1, 0, .getfield 34, [76, 6, 14, 2]),
  (4, 0, .iload_n 1, []),
  (5, 0, .baload, []),
  (6, 0, .ifCond .eq (27), [19]),
  (9, 0, .aload_n 0, []),
  (10, 0, .getfield 19, [71, 6, 9, 2]),
  (13, 0, .iload_n 1, []),
  (14, 0, .iaload, []),
  (15, 0, .iconst (1), []),
  (16, 0, .if_icmp .eq (13), [17]),
  (19, 0, .aload_n 0, []),
  (20, 0, .getfield 19, [71, 6, 9, 2]),
  (23, 0, .iload_n 1, []),
  (24, 0, .iaload, []),
  (25, 0, .iconst (2), []),
  (26, 0, .if_icmp .ne (7), [19]),
  (29, 0, .iconst (1), []),
  (30, 0, .goto (4), [20]),
  (33, 0, .iconst (0), []),
  (34, 0, .ireturn, [1])]
def c_99 : List En := [
  (0, 0, .aload_n 0, []),
  (1, 0, .getfield 25, [73, 6, 11, 2]),
  (4, 0, .aload_n 0, []),
  (5, 0, .getfield 28, [74, 6, 12, 2]),
  (8, 0, .iload_n 1, []),
  (9, 0, .iaload, []),
  (10, 0, .iaload, []),
  (11, 0, .ireturn, [])]
def c_100 : List En := [
  (0, 0, .iconst (0), []),
  (1, 0, .istore_n 2, []),
  (2, 8, .iload_n 2, []),
  (3, 0, .bipush (10), []),
  (5, 0, .if_icmp .ge (16), [12]),
  (8, 0, .aload_n 0, []),
  (9, 0, .getfield 41, [78, 6, 19, 2]),
  (12, 0, .iload_n 2, []),
  (13, 0, .iconst (-1), []),
  (14, 0, .iastore, []),
  (15, 0, .iinc 2 (1), []),
  (18, 0, .goto (-16), [2]),
  (21, 0, .iload_n 1, []),
  (22, 0, .istore_n 2, []),
  (23, 0, .sipush (128), []),
  (26, 0, .istore_n 3, []),
  (27, 16, .iload_n 3, []),
  (28, 0, .sipush (128), []),
  (31, 0, .aload_n 0, []),
  (32, 0, .getfield 28, [74, 6, 12, 2]),
  (35, 0, .sipush (128), []),
  (38, 0, .iaload, []),
  (39, 0, .iadd, []),
  (40, 0, .if_icmp .gt (138), [102]),
  (43, 0, .iload_n 2, []),
  (44, 0, .aload_n 0, []),
  (45, 0, .getfield 28, [74, 6, 12, 2]),
  (48, 0, .iload_n 1, []),
  (49, 0, .iaload, []),
  (50, 0, .if_icmp .le (5), [32]),
  (53, 0, .iconst (0), []),
  (54, 0, .ireturn, [1]),
  (55, 0, .aload_n 0, []),
  (56, 0, .getfield 19, [71, 6, 9, 2]),
  (59, 0, .iload_n 3, []),
  (60, 0, .iaload, []),
  (61, 0, .iconst (3), []),
  (62, 0, .if_icmp .ne (96), [92]),
  (65, 0, .aload_n 0, []),
  (66, 0, .getfield 7, [68, 6, 0, 2]),
  (69, 0, .aload_n 0, []),
  (70, 0, .getfield 22, [72, 6, 10, 2]),
  (73, 0, .iload_n 3, []),
  (74, 0, .iaload, []),
  (75, 0, .iconst (1), []),
  (76, 0, .iadd, []),
  (77, 0, .iaload, []),
  (78, 0, .bipush (48), []),
  (80, 0, .isub, []),
  (81, 0, .istore 4, []),
  (83, 32, .aload_n 0, []),
  (84, 0, .iload_n 2, []),
  (85, 0, .invokevirtual 130, [89, 98, 2, 0, 1, 2, 0, 6]),
  (88, 0, .ifCond .eq (28), [67]),
  (91, 0, .aload_n 0, []),
  (92, 0, .getfield 41, [78, 6, 19, 2]),
  (95, 0, .iload 4, []),
  (97, 0, .iaload, []),
  (98, 0, .ifCond .lt (20), [69]),
  (101, 0, .aload_n 0, []),
  (102, 0, .aload_n 0, []),
  (103, 0, .getfield 41, [78, 6, 19, 2]),
  (106, 0, .iload 4, []),
  (108, 0, .iaload, []),
  (109, 0, .iload_n 2, []),
  (110, 0, .invokevirtual 133, [90, 101, 3, 0, 1, 4, 0, 6]),
  (113, 0, .ifCond .ne (5), [69]),
  (116, 0, .iconst (0), []),
  (117, 0, .ireturn, [1]),
  (118, 32, .aload_n 0, []),
  (119, 0, .getfield 41, [78, 6, 19, 2]),
  (122, 0, .iload 4, []),
  (124, 0, .aload_n 0, []),
  (125, 0, .getfield 41, [78, 6, 19, 2]),
  (128, 0, .iload 4, []),
  (130, 0, .iaload, []),
  (131, 0, .ifCond .ge (7), [79]),
  (134, 0, .iload_n 2, []),
  (135, 0, .goto (10), [83]),
  (138, 0, .aload_n 0, []),
  (139, 0, .getfield 41, [78, 6, 19, 2]),
  (142, 0, .iload 4, []),
  (144, 0, .iaload, []),
  (145, 0, .iastore, []),
  (146, 16, .aload_n 0, []),
  (147, 0, .getfield 28, [74, 6, 12, 2]),
  (150, 0, .iload_n 2, []),
  (151, 0, .iaload, []),
  (152, 0, .iconst (1), []),
  (153, 0, .iadd, []),
  (154, 0, .istore_n 2, []),
  (155, 0, .goto (17), [100]),
  (158, 0, .aload_n 0, []),
  (159, 0, .iload_n 3, []),
  (160, 0, .iload_n 2, []),
  (161, 0, .invokevirtual 98, [82, 93, 3, 0, 1, 4, 0, 6]),
  (164, 0, .ifCond .ne (5), [99]),
  (167, 0, .iconst (0), []),
  (168, 0, .ireturn, [1]),
  (169, 0, .iinc 2 (1), []),
  (172, 16, .iinc 3 (1), []),
  (175, 0, .goto (-148), [16]),
  (178, 8, .iload_n 2, []),
  (179, 0, .aload_n 0, []),
  (180, 0, .getfield 28, [74, 6, 12, 2]),
  (183, 0, .iload_n 1, []),
  (184, 0, .iaload, []),
  (185, 0, .iconst (1), []),
  (186, 0, .iadd, []),
  (187, 0, .if_icmp .ne (7), [112]),
  (190, 0, .iconst (1), []),
  (191, 0, .goto (4), [113]),
  (194, 0, .iconst (0), []),
  (195, 0, .ireturn, [1])]
def c_101 : List En := [
  (0, 0, .aload_n 0, []),
  (1, 0, .getfield 28, [74, 6, 12, 2]),
  (4, 0, .iload_n 1, []),
  (5, 0, .iaload, []),
  (6, 0, .iload_n 1, []),
  (7, 0, .isub, []),
  (8, 0, .aload_n 0, []),
  (9, 0, .getfield 28, [74, 6, 12, 2]),
  (12, 0, .iload_n 2, []),
  (13, 0, .iaload, []),
  (14, 0, .iload_n 2, []),
  (15, 0, .isub, []),
  (16, 0, .if_icmp .eq (5), [15]),
  (19, 0, .iconst (0), []),
  (20, 0, .ireturn, [1]),
  (21, 0, .iconst (0), []),
  (22, 0, .istore_n 3, []),
  (23, 16, .iload_n 3, []),
  (24, 0, .aload_n 0, []),
  (25, 0, .getfield 28, [74, 6, 12, 2]),
  (28, 0, .iload_n 1, []),
  (29, 0, .iaload, []),
  (30, 0, .iload_n 1, []),
  (31, 0, .isub, []),
  (32, 0, .if_icmp .gt (24), [38]),
  (35, 0, .aload_n 0, []),
  (36, 0, .iload_n 1, []),
  (37, 0, .iload_n 3, []),
  (38, 0, .iadd, []),
  (39, 0, .iload_n 2, []),
  (40, 0, .iload_n 3, []),
  (41, 0, .iadd, []),
  (42, 0, .invokevirtual 98, [82, 93, 3, 0, 1, 4, 0, 6]),
  (45, 0, .ifCond .ne (5), [36]),
  (48, 0, .iconst (0), []),
  (49, 0, .ireturn, [1]),
  (50, 0, .iinc 3 (1), []),
  (53, 0, .goto (-30), [17]),
  (56, 0, .iconst (1), []),
  (57, 0, .ireturn, [1])]
def c_102 : List En := [
  (0, 0, .aload_n 0, []),
  (1, 0, .getfield 22, [72, 6, 10, 2]),
  (4, 0, .iload_n 1, []),
  (5, 0, .iaload, []),
  (6, 0, .istore_n 2, []),
  (7, 0, .aload_n 0, []),
  (8, 0, .iload_n 1, []),
  (9, 0, .invokevirtual 142, [86, 99, 2, 0, 1, 2, 0, 6]),
  (12, 0, .istore_n 3, []),
  (13, 0, .aload_n 0, []),
  (14, 0, .aload_n 0, []),
  (15, 0, .getfield 108, [87, 6, 7, 0]),
  (18, 0, .iconst (1), []),
  (19, 0, .iadd, []),
  (20, 0, .invokevirtual 146, [91, 103, 2, 0, 0, 6, 0, 6]),
  (23, 0, .aload_n 0, []),
  (24, 0, .getfield 81, [85, 6, 2, 0]),
  (27, 0, .iload_n 3, []),
  (28, 0, .iload_n 2, []),
  (29, 0, .isub, []),
  (30, 0, .isub, []),
  (31, 0, .aload_n 0, []),
  (32, 0, .getfield 136, [93, 6, 22, 0]),
  (35, 0, .iadd, []),
  (36, 0, .bipush (120), []),
  (38, 0, .if_icmp .le (5), [28]),
  (41, 0, .iconst (0), []),
  (42, 0, .ireturn, [1]),
  (43, 0, .aload_n 0, []),
  (44, 0, .iload_n 2, []),
  (45, 0, .iload_n 3, []),
  (46, 0, .invokevirtual 150, [92, 105, 3, 0, 0, 6, 0, 6]),
  (49, 0, .aload_n 0, []),
  (50, 0, .dup, []),
  (51, 0, .getfield 108, [87, 6, 7, 0]),
  (54, 0, .iconst (1), []),
  (55, 0, .iadd, []),
  (56, 0, .putfield 108, [87, 6, 7, 0]),
  (59, 0, .aload_n 0, []),
  (60, 0, .invokevirtual 114, [71, 81, 1, 0, 0, 5, 0, 6]),
  (63, 0, .iconst (0), []),
  (64, 0, .istore 4, []),
  (66, 22, .aload_n 0, []),
  (67, 0, .getfield 22, [72, 6, 10, 2]),
  (70, 0, .iload 4, []),
  (72, 0, .iaload, []),
  (73, 0, .iload_n 2, []),
  (74, 0, .if_icmp .eq (9), [50]),
  (77, 0, .iinc 4 (1), []),
  (80, 0, .goto (-14), [42]),
  (83, 0, .aload_n 0, []),
  (84, 0, .getfield 34, [76, 6, 14, 2]),
  (87, 0, .iload 4, []),
  (89, 0, .baload, []),
  (90, 0, .ireturn, [1])]
def c_103 : List En := [
  (0, 0, .sipush (128), []),
  (3, 0, .aload_n 0, []),
  (4, 0, .getfield 28, [74, 6, 12, 2]),
  (7, 0, .sipush (128), []),
  (10, 0, .iaload, []),
  (11, 0, .iadd, []),
  (12, 0, .iconst (2), []),
  (13, 0, .iadd, []),
  (14, 0, .istore_n 2, []),
  (15, 0, .aload_n 0, []),
  (16, 0, .iconst (0), []),
  (17, 0, .putfield 136, [93, 6, 22, 0]),
  (20, 0, .iload_n 2, []),
  (21, 0, .istore_n 3, []),
  (22, 16, .iload_n 3, []),
  (23, 0, .sipush (128), []),
  (26, 0, .aload_n 0, []),
  (27, 0, .getfield 117, [92, 6, 18, 0]),
  (30, 0, .iadd, []),
  (31, 0, .if_icmp .ge (179), [116]),
  (34, 0, .iload_n 3, []),
  (35, 0, .iload_n 2, []),
  (36, 0, .if_icmp .le (14), [30]),
  (39, 0, .aload_n 0, []),
  (40, 0, .getfield 25, [73, 6, 11, 2]),
  (43, 0, .iload_n 3, []),
  (44, 0, .iconst (1), []),
  (45, 0, .isub, []),
  (46, 0, .iaload, []),
  (47, 0, .goto (9), [34]),
  (50, 0, .aload_n 0, []),
  (51, 0, .getfield 22, [72, 6, 10, 2]),
  (54, 0, .iload_n 3, []),
  (55, 0, .iaload, []),
  (56, 0, .istore 4, []),
  (58, 32, .iload 4, []),
  (60, 0, .aload_n 0, []),
  (61, 0, .getfield 22, [72, 6, 10, 2]),
  (64, 0, .iload_n 3, []),
  (65, 0, .iaload, []),
  (66, 0, .if_icmp .ge (21), [50]),
  (69, 0, .aload_n 0, []),
  (70, 0, .aload_n 0, []),
  (71, 0, .getfield 7, [68, 6, 0, 2]),
  (74, 0, .iload 4, []),
  (76, 0, .iaload, []),
  (77, 0, .iload_n 1, []),
  (78, 0, .invokevirtual 139, [93, 104, 3, 0, 0, 3, 0, 6]),
  (81, 0, .iinc 4 (1), []),
  (84, 0, .goto (-26), [35]),
  (87, 0, .aload_n 0, []),
  (88, 0, .getfield 19, [71, 6, 9, 2]),
  (91, 0, .iload_n 3, []),
  (92, 0, .iaload, []),
  (93, 0, .iconst (3), []),
  (94, 0, .if_icmp .ne (73), [94]),
  (97, 0, .aload_n 0, []),
  (98, 0, .getfield 41, [78, 6, 19, 2]),
  (101, 0, .aload_n 0, []),
  (102, 0, .getfield 7, [68, 6, 0, 2]),
  (105, 0, .aload_n 0, []),
  (106, 0, .getfield 22, [72, 6, 10, 2]),
  (109, 0, .iload_n 3, []),
  (110, 0, .iaload, []),
  (111, 0, .iconst (1), []),
  (112, 0, .iadd, []),
  (113, 0, .iaload, []),
  (114, 0, .bipush (48), []),
  (116, 0, .isub, []),
  (117, 0, .iaload, []),
  (118, 0, .istore 4, []),
  (120, 0, .aload_n 0, []),
  (121, 0, .getfield 22, [72, 6, 10, 2]),
  (124, 0, .iload 4, []),
  (126, 0, .iaload, []),
  (127, 0, .istore 5, []),
  (129, 64, .iload 5, []),
  (131, 0, .aload_n 0, []),
  (132, 0, .iload 4, []),
  (134, 0, .invokevirtual 142, [86, 99, 2, 0, 1, 2, 0, 6]),
  (137, 0, .if_icmp .ge (27), [93]),
  (140, 0, .aload_n 0, []),
  (141, 0, .aload_n 0, []),
  (142, 0, .getfield 7, [68, 6, 0, 2]),
  (145, 0, .iload 5, []),
  (147, 0, .iaload, []),
  (148, 0, .aload_n 0, []),
  (149, 0, .getfield 13, [69, 6, 1, 2]),
  (152, 0, .iload 5, []),
  (154, 0, .iaload, []),
  (155, 0, .invokevirtual 139, [93, 104, 3, 0, 0, 3, 0, 6]),
  (158, 0, .iinc 5 (1), []),
  (161, 0, .goto (-32), [76]),
  (164, 0, .goto (40), [114]),
  (167, 0, .aload_n 0, []),
  (168, 0, .getfield 22, [72, 6, 10, 2]),
  (171, 0, .iload_n 3, []),
  (172, 0, .iaload, []),
  (173, 0, .istore 4, []),
  (175, 32, .iload 4, []),
  (177, 0, .aload_n 0, []),
  (178, 0, .getfield 25, [73, 6, 11, 2]),
  (181, 0, .iload_n 3, []),
  (182, 0, .iaload, []),
  (183, 0, .if_icmp .ge (21), [114]),
  (186, 0, .aload_n 0, []),
  (187, 0, .aload_n 0, []),
  (188, 0, .getfield 7, [68, 6, 0, 2]),
  (191, 0, .iload 4, []),
  (193, 0, .iaload, []),
  (194, 0, .iload_n 1, []),
  (195, 0, .invokevirtual 139, [93, 104, 3, 0, 0, 3, 0, 6]),
  (198, 0, .iinc 4 (1), []),
  (201, 0, .goto (-26), [99]),
  (204, 0, .iinc 3 (1), []),
  (207, 0, .goto (-185), [14]),
  (210, 0, .return_, [])]
def c_104 : List En := [
  (0, 0, .aload_n 0, []),
  (1, 0, .getfield 136, [93, 6, 22, 0]),
  (4, 0, .bipush (120), []),
  (6, 0, .if_icmp .gt (33), [22]),
  (9, 0, .aload_n 0, []),
  (10, 0, .getfield 44, [79, 6, 20, 2]),
  (13, 0, .aload_n 0, []),
  (14, 0, .getfield 136, [93, 6, 22, 0]),
  (17, 0, .iload_n 1, []),
  (18, 0, .iastore, []),
  (19, 0, .aload_n 0, []),
  (20, 0, .getfield 47, [80, 6, 21, 2]),
  (23, 0, .aload_n 0, []),
  (24, 0, .getfield 136, [93, 6, 22, 0]),
  (27, 0, .iload_n 2, []),
  (28, 0, .iastore, []),
  (29, 0, .aload_n 0, []),
  (30, 0, .dup, []),
  (31, 0, .getfield 136, [93, 6, 22, 0]),
  (34, 0, .iconst (1), []),
  (35, 0, .iadd, []),
  (36, 0, .putfield 136, [93, 6, 22, 0]),
  (39, 0, .return_, [])]
def c_105 : List En := [
  (0, 0, .aload_n 0, []),
  (1, 0, .getfield 136, [93, 6, 22, 0]),
  (4, 0, .iload_n 2, []),
  (5, 0, .iload_n 1, []),
  (6, 0, .isub, []),
  (7, 0, .isub, []),
  (8, 0, .istore_n 3, []),
  (9, 0, .iconst (0), []),
  (10, 0, .istore 4, []),
  (12, 32, .iload 4, []),
  (14, 0, .aload_n 0, []),
  (15, 0, .getfield 81, [85, 6, 2, 0]),
  (18, 0, .iload_n 2, []),
  (19, 0, .isub, []),
  (20, 0, .if_icmp .ge (63), [50]),
  (23, 0, .iload_n 3, []),
  (24, 0, .ifCond .le (15), [24]),
  (27, 0, .aload_n 0, []),
  (28, 0, .getfield 81, [85, 6, 2, 0]),
  (31, 0, .iconst (1), []),
  (32, 0, .isub, []),
  (33, 0, .iload 4, []),
  (35, 0, .isub, []),
  (36, 0, .goto (7), [27]),
  (39, 0, .iload_n 2, []),
  (40, 0, .iload 4, []),
  (42, 0, .iadd, []),
  (43, 0, .istore 5, []),
  (45, 64, .aload_n 0, []),
  (46, 0, .getfield 7, [68, 6, 0, 2]),
  (49, 0, .iload 5, []),
  (51, 0, .iload_n 3, []),
  (52, 0, .iadd, []),
  (53, 0, .aload_n 0, []),
  (54, 0, .getfield 7, [68, 6, 0, 2]),
  (57, 0, .iload 5, []),
  (59, 0, .iaload, []),
  (60, 0, .iastore, []),
  (61, 0, .aload_n 0, []),
  (62, 0, .getfield 13, [69, 6, 1, 2]),
  (65, 0, .iload 5, []),
  (67, 0, .iload_n 3, []),
  (68, 0, .iadd, []),
  (69, 0, .aload_n 0, []),
  (70, 0, .getfield 13, [69, 6, 1, 2]),
  (73, 0, .iload 5, []),
  (75, 0, .iaload, []),
  (76, 0, .iastore, []),
  (77, 0, .iinc 4 (1), []),
  (80, 0, .goto (-68), [9]),
  (83, 0, .iconst (0), []),
  (84, 0, .istore 4, []),
  (86, 28, .iload 4, []),
  (88, 0, .aload_n 0, []),
  (89, 0, .getfield 136, [93, 6, 22, 0]),
  (92, 0, .if_icmp .ge (41), [78]),
  (95, 0, .aload_n 0, []),
  (96, 0, .getfield 7, [68, 6, 0, 2]),
  (99, 0, .iload_n 1, []),
  (100, 0, .iload 4, []),
  (102, 0, .iadd, []),
  (103, 0, .aload_n 0, []),
  (104, 0, .getfield 44, [79, 6, 20, 2]),
  (107, 0, .iload 4, []),
  (109, 0, .iaload, []),
  (110, 0, .iastore, []),
  (111, 0, .aload_n 0, []),
  (112, 0, .getfield 13, [69, 6, 1, 2]),
  (115, 0, .iload_n 1, []),
  (116, 0, .iload 4, []),
  (118, 0, .iadd, []),
  (119, 0, .aload_n 0, []),
  (120, 0, .getfield 47, [80, 6, 21, 2]),
  (123, 0, .iload 4, []),
  (125, 0, .iaload, []),
  (126, 0, .iastore, []),
  (127, 0, .iinc 4 (1), []),
  (130, 0, .goto (-44), [52]),
  (133, 0, .aload_n 0, []),
  (134, 0, .dup, []),
  (135, 0, .getfield 81, [85, 6, 2, 0]),
  (138, 0, .iload_n 3, []),
  (139, 0, .iadd, []),
  (140, 0, .putfield 81, [85, 6, 2, 0]),
  (143, 0, .return_, [])]
def c_106 : List En := [
  (0, 0, .aload_n 0, []),
  (1, 0, .iload_n 1, []),
  (2, 0, .putfield 81, [85, 6, 2, 0]),
  (5, 0, .aload_n 0, []),
  (6, 0, .iload_n 2, []),
  (7, 0, .putfield 108, [87, 6, 7, 0]),
  (10, 0, .iconst (0), []),
  (11, 0, .istore_n 3, []),
  (12, 10, .iload_n 3, []),
  (13, 0, .aload_n 0, []),
  (14, 0, .getfield 81, [85, 6, 2, 0]),
  (17, 0, .if_icmp .ge (33), [30]),
  (20, 0, .aload_n 0, []),
  (21, 0, .getfield 7, [68, 6, 0, 2]),
  (24, 0, .iload_n 3, []),
  (25, 0, .aload_n 0, []),
  (26, 0, .getfield 50, [81, 6, 23, 2]),
  (29, 0, .iload_n 3, []),
  (30, 0, .iaload, []),
  (31, 0, .iastore, []),
  (32, 0, .aload_n 0, []),
  (33, 0, .getfield 13, [69, 6, 1, 2]),
  (36, 0, .iload_n 3, []),
  (37, 0, .aload_n 0, []),
  (38, 0, .getfield 53, [82, 6, 24, 2]),
  (41, 0, .iload_n 3, []),
  (42, 0, .iaload, []),
  (43, 0, .iastore, []),
  (44, 0, .iinc 3 (1), []),
  (47, 0, .goto (-35), [8]),
  (50, 0, .return_, [])]
def c_107 : List En := [
  (0, 0, .aload_n 0, []),
  (1, 0, .getfield 111, [88, 6, 8, 0]),
  (4, 0, .ireturn, [])]
def c_108 : List En := [
  (0, 0, .aload_n 0, []),
  (1, 0, .getfield 108, [87, 6, 7, 0]),
  (4, 0, .ireturn, [])]
def c_109 : List En := [
  (0, 0, .aload_n 0, []),
  (1, 0, .getfield 81, [85, 6, 2, 0]),
  (4, 0, .ireturn, [])]
def c_110 : List En := [
  (0, 0, .iload_n 1, []),
  (1, 0, .ifCond .lt (20), [11]),
  (4, 0, .iload_n 1, []),
  (5, 0, .aload_n 0, []),
  (6, 0, .getfield 81, [85, 6, 2, 0]),
  (9, 0, .if_icmp .ge (12), [11]),
  (12, 0, .aload_n 0, []),
  (13, 0, .getfield 7, [68, 6, 0, 2]),
  (16, 0, .iload_n 1, []),
  (17, 0, .iaload, []),
  (18, 0, .goto (4), [12]),
  (21, 0, .iconst (-1), []),
  (22, 0, .ireturn, [])]
def c_111 : List En := [
  (0, 0, .aload_n 0, []),
  (1, 0, .invokevirtual 114, [71, 81, 1, 0, 0, 5, 0, 6]),
  (4, 0, .iconst (-1), []),
  (5, 0, .istore_n 2, []),
  (6, 0, .iconst (0), []),
  (7, 0, .istore_n 3, []),
  (8, 16, .iload_n 3, []),
  (9, 0, .aload_n 0, []),
  (10, 0, .getfield 88, [90, 6, 16, 0]),
  (13, 0, .if_icmp .ge (38), [29]),
  (16, 0, .aload_n 0, []),
  (17, 0, .iload_n 3, []),
  (18, 0, .invokevirtual 130, [89, 98, 2, 0, 1, 2, 0, 6]),
  (21, 0, .ifCond .eq (24), [27]),
  (24, 0, .aload_n 0, []),
  (25, 0, .getfield 22, [72, 6, 10, 2]),
  (28, 0, .iload_n 3, []),
  (29, 0, .iaload, []),
  (30, 0, .iload_n 1, []),
  (31, 0, .if_icmp .gt (14), [27]),
  (34, 0, .iload_n 1, []),
  (35, 0, .aload_n 0, []),
  (36, 0, .iload_n 3, []),
  (37, 0, .invokevirtual 142, [86, 99, 2, 0, 1, 2, 0, 6]),
  (40, 0, .if_icmp .ge (5), [27]),
  (43, 0, .iload_n 3, []),
  (44, 0, .istore_n 2, []),
  (45, 0, .iinc 3 (1), []),
  (48, 0, .goto (-40), [6]),
  (51, 0, .iload_n 2, []),
  (52, 0, .ifCond .ge (7), [33]),
  (55, 0, .iconst (-1), []),
  (56, 0, .goto (14), [40]),
  (59, 0, .aload_n 0, []),
  (60, 0, .getfield 13, [69, 6, 1, 2]),
  (63, 0, .aload_n 0, []),
  (64, 0, .getfield 22, [72, 6, 10, 2]),
  (67, 0, .iload_n 2, []),
  (68, 0, .iaload, []),
  (69, 0, .iaload, []),
  (70, 0, .ireturn, [])]
def c_112 : List En := [
  (0, 0, .aload_n 0, []),
  (1, 0, .invokevirtual 114, [71, 81, 1, 0, 0, 5, 0, 6]),
  (4, 0, .aload_n 0, []),
  (5, 0, .getfield 95, [89, 6, 17, 0]),
  (8, 0, .ireturn, [])]
def c_113 : List En := [
  (0, 0, .aload_n 0, []),
  (1, 0, .invokevirtual 114, [71, 81, 1, 0, 0, 5, 0, 6]),
  (4, 0, .iload_n 1, []),
  (5, 0, .ifCond .lt (11), [8]),
  (8, 0, .iload_n 1, []),
  (9, 0, .aload_n 0, []),
  (10, 0, .getfield 95, [89, 6, 17, 0]),
  (13, 0, .if_icmp .lt (5), [10]),
  (16, 0, .iconst (-1), []),
  (17, 0, .ireturn, []),
  (18, 0, .iconst (0), []),
  (19, 0, .istore_n 2, []),
  (20, 8, .aload_n 0, []),
  (21, 0, .getfield 38, [77, 6, 15, 2]),
  (24, 0, .iload_n 2, []),
  (25, 0, .iaload, []),
  (26, 0, .iload_n 1, []),
  (27, 0, .if_icmp .eq (9), [20]),
  (30, 0, .iinc 2 (1), []),
  (33, 0, .goto (-13), [12]),
  (36, 0, .aload_n 0, []),
  (37, 0, .getfield 34, [76, 6, 14, 2]),
  (40, 0, .iload_n 2, []),
  (41, 0, .baload, []),
  (42, 0, .ifCond .ne (7), [27]),
  (45, 0, .iconst (0), []),
  (46, 0, .goto (32), [44]),
  (49, 0, .aload_n 0, []),
  (50, 0, .getfield 19, [71, 6, 9, 2]),
  (53, 0, .iload_n 2, []),
  (54, 0, .iaload, []),
  (55, 0, .iconst (2), []),
  (56, 0, .if_icmp .ne (7), [35]),
  (59, 0, .iconst (2), []),
  (60, 0, .goto (18), [44]),
  (63, 0, .aload_n 0, []),
  (64, 0, .getfield 28, [74, 6, 12, 2]),
  (67, 0, .iload_n 2, []),
  (68, 0, .iaload, []),
  (69, 0, .iload_n 2, []),
  (70, 0, .if_icmp .le (7), [43]),
  (73, 0, .iconst (3), []),
  (74, 0, .goto (4), [44]),
  (77, 0, .iconst (1), []),
  (78, 0, .ireturn, [])]
def c_114 : List En := [
  (0, 0, .aload_n 0, []),
  (1, 0, .invokevirtual 114, [71, 81, 1, 0, 0, 5, 0, 6]),
  (4, 0, .iconst (0), []),
  (5, 0, .istore_n 1, []),
  (6, 0, .iconst (0), []),
  (7, 0, .istore_n 2, []),
  (8, 8, .iload_n 2, []),
  (9, 0, .aload_n 0, []),
  (10, 0, .getfield 88, [90, 6, 16, 0]),
  (13, 0, .if_icmp .ge (25), [22]),
  (16, 0, .iload_n 1, []),
  (17, 0, .aload_n 0, []),
  (18, 0, .iload_n 2, []),
  (19, 0, .invokevirtual 130, [89, 98, 2, 0, 1, 2, 0, 6]),
  (22, 0, .ifCond .eq (7), [17]),
  (25, 0, .iconst (1), []),
  (26, 0, .goto (4), [18]),
  (29, 0, .iconst (0), []),
  (30, 0, .iadd, []),
  (31, 0, .istore_n 1, []),
  (32, 0, .iinc 2 (1), []),
  (35, 0, .goto (-27), [6]),
  (38, 0, .iload_n 1, []),
  (39, 0, .ireturn, [])]
def c_115 : List En := [
  (0, 0, .aload_n 0, []),
  (1, 0, .iload_n 1, []),
  (2, 0, .invokevirtual 168, [94, 116, 2, 0, 1, 5, 0, 6]),
  (5, 0, .istore_n 2, []),
  (6, 0, .iload_n 2, []),
  (7, 0, .ifCond .ge (7), [8]),
  (10, 0, .iconst (-1), []),
  (11, 0, .goto (9), [12]),
  (14, 0, .aload_n 0, []),
  (15, 0, .getfield 22, [72, 6, 10, 2]),
  (18, 0, .iload_n 2, []),
  (19, 0, .iaload, []),
  (20, 0, .ireturn, [])]
def c_116 : List En := [
  (0, 0, .aload_n 0, []),
  (1, 0, .invokevirtual 114, [71, 81, 1, 0, 0, 5, 0, 6]),
  (4, 0, .iload_n 1, []),
  (5, 0, .ifCond .ge (7), [6]),
  (8, 0, .iconst (-1), []),
  (9, 0, .goto (8), [9]),
  (12, 0, .aload_n 0, []),
  (13, 0, .iconst (0), []),
  (14, 0, .invokevirtual 153, [85, 97, 2, 0, 1, 4, 0, 6]),
  (17, 0, .istore_n 2, []),
  (18, 8, .iconst (0), []),
  (19, 0, .istore_n 3, []),
  (20, 16, .iload_n 3, []),
  (21, 0, .iload_n 1, []),
  (22, 0, .if_icmp .ge (27), [27]),
  (25, 0, .iload_n 2, []),
  (26, 0, .ifCond .lt (23), [27]),
  (29, 0, .aload_n 0, []),
  (30, 0, .iload_n 2, []),
  (31, 0, .invokevirtual 142, [86, 99, 2, 0, 1, 2, 0, 6]),
  (34, 0, .istore 4, []),
  (36, 0, .aload_n 0, []),
  (37, 0, .iload 4, []),
  (39, 0, .invokevirtual 153, [85, 97, 2, 0, 1, 4, 0, 6]),
  (42, 0, .istore_n 2, []),
  (43, 0, .iinc 3 (1), []),
  (46, 0, .goto (-26), [12]),
  (49, 0, .iload_n 2, []),
  (50, 0, .ireturn, [])]
def c_117 : List En := [
  (0, 0, .aload_n 0, []),
  (1, 0, .iload_n 1, []),
  (2, 0, .invokevirtual 168, [94, 116, 2, 0, 1, 5, 0, 6]),
  (5, 0, .istore_n 2, []),
  (6, 0, .iload_n 2, []),
  (7, 0, .ifCond .ge (7), [8]),
  (10, 0, .iconst (-1), []),
  (11, 0, .goto (8), [11]),
  (14, 0, .aload_n 0, []),
  (15, 0, .iload_n 2, []),
  (16, 0, .invokevirtual 142, [86, 99, 2, 0, 1, 2, 0, 6]),
  (19, 0, .ireturn, [])]
def c_118 : List En := [
  (0, 0, .iload_n 1, []),
  (1, 0, .ifCond .lt (11), [6]),
  (4, 0, .iload_n 1, []),
  (5, 0, .aload_n 0, []),
  (6, 0, .getfield 120, [91, 6, 5, 0]),
  (9, 0, .if_icmp .lt (5), [8]),
  (12, 0, .iconst (-1), []),
  (13, 0, .ireturn, []),
  (14, 0, .aload_n 0, []),
  (15, 0, .sipush (256), []),
  (18, 0, .bipush (64), []),
  (20, 0, .iload_n 1, []),
  (21, 0, .imul, []),
  (22, 0, .iadd, []),
  (23, 0, .aload_n 0, []),
  (24, 0, .getfield 16, [70, 6, 6, 2]),
  (27, 0, .iload_n 1, []),
  (28, 0, .iaload, []),
  (29, 0, .invokevirtual 123, [80, 91, 3, 0, 0, 3, 0, 6]),
  (32, 0, .aload_n 0, []),
  (33, 0, .invokevirtual 114, [71, 81, 1, 0, 0, 5, 0, 6]),
  (36, 0, .iconst (0), []),
  (37, 0, .istore_n 2, []),
  (38, 0, .iconst (0), []),
  (39, 0, .istore_n 3, []),
  (40, 14, .iload_n 3, []),
  (41, 0, .aload_n 0, []),
  (42, 0, .getfield 88, [90, 6, 16, 0]),
  (45, 0, .if_icmp .ge (28), [40]),
  (48, 0, .aload_n 0, []),
  (49, 0, .iload_n 3, []),
  (50, 0, .invokevirtual 130, [89, 98, 2, 0, 1, 2, 0, 6]),
  (53, 0, .ifCond .eq (14), [38]),
  (56, 0, .aload_n 0, []),
  (57, 0, .iload_n 3, []),
  (58, 0, .invokevirtual 156, [87, 100, 2, 0, 1, 5, 0, 6]),
  (61, 0, .ifCond .eq (6), [38]),
  (64, 0, .iinc 2 (1), []),
  (67, 0, .iinc 3 (1), []),
  (70, 0, .goto (-30), [25]),
  (73, 0, .iload_n 2, []),
  (74, 0, .ireturn, [])]
def c_119 : List En := [
  (0, 0, .aload_n 0, []),
  (1, 0, .invokevirtual 171, [95, 120, 1, 0, 0, 7, 0, 6]),
  (4, 0, .aload_n 0, []),
  (5, 0, .getfield 56, [83, 6, 25, 2]),
  (8, 0, .iconst (0), []),
  (9, 0, .iaload, []),
  (10, 0, .ireturn, [])]
def c_120 : List En := [
  (0, 0, .aload_n 0, []),
  (1, 0, .getfield 105, [86, 6, 3, 0]),
  (4, 0, .istore_n 1, []),
  (5, 4, .iload_n 1, []),
  (6, 0, .ifCond .lt (170), [105]),
  (9, 0, .aload_n 0, []),
  (10, 0, .getfield 81, [85, 6, 2, 0]),
  (13, 0, .istore_n 2, []),
  (14, 8, .iload_n 2, []),
  (15, 0, .ifCond .lt (155), [103]),
  (18, 0, .iload_n 1, []),
  (19, 0, .aload_n 0, []),
  (20, 0, .getfield 105, [86, 6, 3, 0]),
  (23, 0, .if_icmp .ne (12), [19]),
  (26, 0, .aload_n 0, []),
  (27, 0, .getfield 81, [85, 6, 2, 0]),
  (30, 0, .iload_n 2, []),
  (31, 0, .isub, []),
  (32, 0, .goto (9), [23]),
  (35, 0, .aload_n 0, []),
  (36, 0, .getfield 105, [86, 6, 3, 0]),
  (39, 0, .iload_n 1, []),
  (40, 0, .isub, []),
  (41, 0, .istore_n 3, []),
  (42, 16, .iload_n 1, []),
  (43, 0, .aload_n 0, []),
  (44, 0, .getfield 105, [86, 6, 3, 0]),
  (47, 0, .if_icmp .ge (105), [92]),
  (50, 0, .iload_n 2, []),
  (51, 0, .aload_n 0, []),
  (52, 0, .getfield 81, [85, 6, 2, 0]),
  (55, 0, .if_icmp .ge (97), [92]),
  (58, 0, .aload_n 0, []),
  (59, 0, .getfield 56, [83, 6, 25, 2]),
  (62, 0, .bipush (121), []),
  (64, 0, .iload_n 1, []),
  (65, 0, .imul, []),
  (66, 0, .bipush (121), []),
  (68, 0, .iadd, []),
  (69, 0, .iload_n 2, []),
  (70, 0, .iadd, []),
  (71, 0, .iaload, []),
  (72, 0, .istore 4, []),
  (74, 0, .aload_n 0, []),
  (75, 0, .getfield 56, [83, 6, 25, 2]),
  (78, 0, .bipush (121), []),
  (80, 0, .iload_n 1, []),
  (81, 0, .imul, []),
  (82, 0, .iload_n 2, []),
  (83, 0, .iadd, []),
  (84, 0, .iconst (1), []),
  (85, 0, .iadd, []),
  (86, 0, .iaload, []),
  (87, 0, .istore 5, []),
  (89, 0, .iconst (1), []),
  (90, 0, .iload 4, []),
  (92, 0, .iload 5, []),
  (94, 0, .if_icmp .ge (8), [60]),
  (97, 0, .iload 4, []),
  (99, 0, .goto (5), [61]),
  (102, 0, .iload 5, []),
  (104, 0, .iadd, []),
  (105, 0, .istore_n 3, []),
  (106, 16, .aload_n 0, []),
  (107, 0, .getfield 56, [83, 6, 25, 2]),
  (110, 0, .bipush (121), []),
  (112, 0, .iload_n 1, []),
  (113, 0, .imul, []),
  (114, 0, .bipush (121), []),
  (116, 0, .iadd, []),
  (117, 0, .iload_n 2, []),
  (118, 0, .iadd, []),
  (119, 0, .iconst (1), []),
  (120, 0, .iadd, []),
  (121, 0, .iaload, []),
  (122, 0, .istore 6, []),
  (124, 0, .aload_n 0, []),
  (125, 0, .getfield 7, [68, 6, 0, 2]),
  (128, 0, .sipush (128), []),
  (131, 0, .iload_n 1, []),
  (132, 0, .iadd, []),
  (133, 0, .iaload, []),
  (134, 0, .aload_n 0, []),
  (135, 0, .getfield 7, [68, 6, 0, 2]),
  (138, 0, .iload_n 2, []),
  (139, 0, .iaload, []),
  (140, 0, .if_icmp .ne (12), [92]),
  (143, 0, .iload 6, []),
  (145, 0, .iload_n 3, []),
  (146, 0, .if_icmp .ge (6), [92]),
  (149, 0, .iload 6, []),
  (151, 0, .istore_n 3, []),
  (152, 16, .aload_n 0, []),
  (153, 0, .getfield 56, [83, 6, 25, 2]),
  (156, 0, .bipush (121), []),
  (158, 0, .iload_n 1, []),
  (159, 0, .imul, []),
  (160, 0, .iload_n 2, []),
  (161, 0, .iadd, []),
  (162, 0, .iload_n 3, []),
  (163, 0, .iastore, []),
  (164, 0, .iinc 2 (-1), []),
  (167, 0, .goto (-153), [8]),
  (170, 0, .iinc 1 (-1), []),
  (173, 0, .goto (-168), [3]),
  (176, 0, .return_, [])]
def c_121 : List En := [
  (0, 0, .aload_n 0, []),
  (1, 0, .invokevirtual 171, [95, 120, 1, 0, 0, 7, 0, 6]),
  (4, 0, .iconst (0), []),
  (5, 0, .istore_n 2, []),
  (6, 0, .iconst (0), []),
  (7, 0, .istore_n 3, []),
  (8, 0, .iconst (0), []),
  (9, 0, .istore 4, []),
  (11, 32, .iload_n 2, []),
  (12, 0, .aload_n 0, []),
  (13, 0, .getfield 105, [86, 6, 3, 0]),
  (16, 0, .if_icmp .lt (11), [16]),
  (19, 0, .iload_n 3, []),
  (20, 0, .aload_n 0, []),
  (21, 0, .getfield 81, [85, 6, 2, 0]),
  (24, 0, .if_icmp .ge (214), [136]),
  (27, 0, .aload_n 0, []),
  (28, 0, .getfield 56, [83, 6, 25, 2]),
  (31, 0, .bipush (121), []),
  (33, 0, .iload_n 2, []),
  (34, 0, .imul, []),
  (35, 0, .iload_n 3, []),
  (36, 0, .iadd, []),
  (37, 0, .iaload, []),
  (38, 0, .istore 5, []),
  (40, 0, .iload_n 2, []),
  (41, 0, .aload_n 0, []),
  (42, 0, .getfield 105, [86, 6, 3, 0]),
  (45, 0, .if_icmp .ge (55), [60]),
  (48, 0, .iload_n 3, []),
  (49, 0, .aload_n 0, []),
  (50, 0, .getfield 81, [85, 6, 2, 0]),
  (53, 0, .if_icmp .ge (47), [60]),
  (56, 0, .aload_n 0, []),
  (57, 0, .getfield 7, [68, 6, 0, 2]),
  (60, 0, .sipush (128), []),
  (63, 0, .iload_n 2, []),
  (64, 0, .iadd, []),
  (65, 0, .iaload, []),
  (66, 0, .aload_n 0, []),
  (67, 0, .getfield 7, [68, 6, 0, 2]),
  (70, 0, .iload_n 3, []),
  (71, 0, .iaload, []),
  (72, 0, .if_icmp .ne (28), [60]),
  (75, 0, .aload_n 0, []),
  (76, 0, .getfield 56, [83, 6, 25, 2]),
  (79, 0, .bipush (121), []),
  (81, 0, .iload_n 2, []),
  (82, 0, .imul, []),
  (83, 0, .bipush (121), []),
  (85, 0, .iadd, []),
  (86, 0, .iload_n 3, []),
  (87, 0, .iadd, []),
  (88, 0, .iconst (1), []),
  (89, 0, .iadd, []),
  (90, 0, .iaload, []),
  (91, 0, .iload 5, []),
  (93, 0, .if_icmp .ne (7), [60]),
  (96, 0, .iconst (1), []),
  (97, 0, .goto (4), [61]),
  (100, 0, .iconst (0), []),
  (101, 0, .istore 6, []),
  (103, 128, .iload 6, []),
  (105, 0, .ifCond .ne (36), [84]),
  (108, 0, .iload_n 2, []),
  (109, 0, .aload_n 0, []),
  (110, 0, .getfield 105, [86, 6, 3, 0]),
  (113, 0, .if_icmp .ge (28), [84]),
  (116, 0, .aload_n 0, []),
  (117, 0, .getfield 56, [83, 6, 25, 2]),
  (120, 0, .bipush (121), []),
  (122, 0, .iload_n 2, []),
  (123, 0, .imul, []),
  (124, 0, .bipush (121), []),
  (126, 0, .iadd, []),
  (127, 0, .iload_n 3, []),
  (128, 0, .iadd, []),
  (129, 0, .iaload, []),
  (130, 0, .iconst (1), []),
  (131, 0, .iadd, []),
  (132, 0, .iload 5, []),
  (134, 0, .if_icmp .ne (7), [84]),
  (137, 0, .iconst (1), []),
  (138, 0, .goto (4), [85]),
  (141, 0, .iconst (0), []),
  (142, 0, .istore 7, []),
  (144, 224, .iload 4, []),
  (146, 0, .iload_n 1, []),
  (147, 0, .if_icmp .ne (54), [116]),
  (150, 0, .iload 6, []),
  (152, 0, .ifCond .eq (16), [98]),
  (155, 0, .sipush (1000), []),
  (158, 0, .aload_n 0, []),
  (159, 0, .getfield 7, [68, 6, 0, 2]),
  (162, 0, .iload_n 3, []),
  (163, 0, .iaload, []),
  (164, 0, .iadd, []),
  (165, 0, .goto (35), [115]),
  (168, 0, .iload 7, []),
  (170, 0, .ifCond .eq (20), [109]),
  (173, 0, .sipush (2000), []),
  (176, 0, .aload_n 0, []),
  (177, 0, .getfield 7, [68, 6, 0, 2]),
  (180, 0, .sipush (128), []),
  (183, 0, .iload_n 2, []),
  (184, 0, .iadd, []),
  (185, 0, .iaload, []),
  (186, 0, .iadd, []),
  (187, 0, .goto (13), [115]),
  (190, 0, .sipush (3000), []),
  (193, 0, .aload_n 0, []),
  (194, 0, .getfield 7, [68, 6, 0, 2]),
  (197, 0, .iload_n 3, []),
  (198, 0, .iaload, []),
  (199, 0, .iadd, []),
  (200, 0, .ireturn, []),
  (201, 224, .iload_n 2, []),
  (202, 0, .iload 6, []),
  (204, 0, .ifCond .ne (8), [121]),
  (207, 0, .iload 7, []),
  (209, 0, .ifCond .eq (7), [123]),
  (212, 0, .iconst (1), []),
  (213, 0, .goto (4), [124]),
  (216, 0, .iconst (0), []),
  (217, 0, .iadd, []),
  (218, 0, .istore_n 2, []),
  (219, 160, .iload_n 3, []),
  (220, 0, .iload 7, []),
  (222, 0, .ifCond .eq (7), [131]),
  (225, 0, .iconst (0), []),
  (226, 0, .goto (4), [132]),
  (229, 0, .iconst (1), []),
  (230, 0, .iadd, []),
  (231, 0, .istore_n 3, []),
  (232, 0, .iinc 4 (1), []),
  (235, 0, .goto (-224), [8]),
  (238, 0, .iconst (-1), []),
  (239, 0, .ireturn, [])]
def c_122 : List En := [
  (0, 0, .new 7, [6, 0]),
  (3, 0, .dup, []),
  (4, 0, .invokespecial 9, [96, 0, 1, 92, 0, 2, 1, 0]),
  (7, 0, .astore_n 1, []),
  (8, 0, .new 10, [7, 6]),
  (11, 0, .dup, []),
  (12, 0, .invokespecial 12, [97, 76, 1, 16, 0, 1, 1, 6]),
  (15, 0, .astore_n 2, []),
  (16, 0, .iconst (0), []),
  (17, 0, .istore_n 3, []),
  (18, 16, .iload_n 3, []),
  (19, 0, .aload_n 0, []),
  (20, 0, .arraylength, [4]),
  (21, 0, .iconst (2), []),
  (22, 0, .isub, []),
  (23, 0, .if_icmp .gt (459), [252]),
  (26, 0, .aload_n 0, []),
  (27, 0, .iload_n 3, []),
  (28, 0, .iaload, [4]),
  (29, 0, .bipush (31), []),
  (31, 0, .iand, []),
  (32, 0, .tableswitch (444) (0) (19) #[96, 119, 130, 143, 156, 169, 182, 205, 218, 231, 244, 267, 290, 303, 326, 339, 362, 385, 408, 421], [250, 22, 39, 44, 51, 58, 65, 72, 89, 96, 103, 110, 127, 144, 151, 168, 175, 192, 209, 226, 233]),
  (128, 0, .aload_n 1, []),
  (129, 0, .aload_n 0, []),
  (130, 0, .iload_n 3, []),
  (131, 0, .iconst (1), []),
  (132, 0, .iadd, []),
  (133, 0, .iaload, [4]),
  (134, 0, .invokevirtual 13, [98, 6, 2, 0, 1, 3, 0, 0]),
  (137, 0, .aload_n 2, []),
  (138, 0, .aload_n 0, []),
  (139, 0, .iload_n 3, []),
  (140, 0, .iconst (1), []),
  (141, 0, .iadd, []),
  (142, 0, .iaload, [4]),
  (143, 0, .invokevirtual 17, [99, 77, 2, 0, 1, 2, 0, 6]),
  (146, 0, .if_icmp .eq (330), [250]),
  (149, 0, .iconst (0), []),
  (150, 0, .ireturn, [1]),
  (151, 0, .aload_n 1, []),
  (152, 0, .invokevirtual 18, [100, 7, 1, 0, 0, 1, 0, 0]),
  (155, 0, .aload_n 2, []),
  (156, 0, .invokevirtual 21, [101, 78, 1, 0, 0, 1, 0, 6]),
  (159, 0, .goto (317), [250]),
  (162, 0, .aload_n 1, []),
  (163, 0, .invokevirtual 22, [102, 8, 1, 0, 1, 1, 0, 0]),
  (166, 0, .aload_n 2, []),
  (167, 0, .invokevirtual 26, [103, 79, 1, 0, 1, 1, 0, 6]),
  (170, 0, .if_icmp .eq (306), [250]),
  (173, 0, .iconst (0), []),
  (174, 0, .ireturn, [1]),
  (175, 0, .aload_n 1, []),
  (176, 0, .invokevirtual 27, [104, 9, 1, 0, 1, 1, 0, 0]),
  (179, 0, .aload_n 2, []),
  (180, 0, .invokevirtual 30, [105, 80, 1, 0, 1, 2, 0, 6]),
  (183, 0, .if_icmp .eq (293), [250]),
  (186, 0, .iconst (0), []),
  (187, 0, .ireturn, [1]),
  (188, 0, .aload_n 1, []),
  (189, 0, .invokevirtual 31, [106, 33, 1, 0, 1, 1, 0, 0]),
  (192, 0, .aload_n 2, []),
  (193, 0, .invokevirtual 34, [107, 90, 1, 0, 1, 2, 0, 6]),
  (196, 0, .if_icmp .eq (280), [250]),
  (199, 0, .iconst (0), []),
  (200, 0, .ireturn, [1]),
  (201, 0, .aload_n 1, []),
  (202, 0, .invokevirtual 35, [108, 37, 1, 0, 1, 1, 0, 0]),
  (205, 0, .aload_n 2, []),
  (206, 0, .invokevirtual 38, [109, 94, 1, 0, 1, 1, 0, 6]),
  (209, 0, .if_icmp .eq (267), [250]),
  (212, 0, .iconst (0), []),
  (213, 0, .ireturn, [1]),
  (214, 0, .aload_n 1, []),
  (215, 0, .aload_n 0, []),
  (216, 0, .iload_n 3, []),
  (217, 0, .iconst (1), []),
  (218, 0, .iadd, []),
  (219, 0, .iaload, [4]),
  (220, 0, .invokevirtual 39, [110, 38, 2, 0, 1, 7, 0, 0]),
  (223, 0, .aload_n 2, []),
  (224, 0, .aload_n 0, []),
  (225, 0, .iload_n 3, []),
  (226, 0, .iconst (1), []),
  (227, 0, .iadd, []),
  (228, 0, .iaload, [4]),
  (229, 0, .invokevirtual 43, [111, 95, 2, 0, 1, 8, 0, 6]),
  (232, 0, .if_icmp .eq (244), [250]),
  (235, 0, .iconst (0), []),
  (236, 0, .ireturn, [1]),
  (237, 0, .aload_n 1, []),
  (238, 0, .invokevirtual 44, [112, 58, 1, 0, 1, 1, 0, 0]),
  (241, 0, .aload_n 2, []),
  (242, 0, .invokevirtual 47, [113, 107, 1, 0, 1, 1, 0, 6]),
  (245, 0, .if_icmp .eq (231), [250]),
  (248, 0, .iconst (0), []),
  (249, 0, .ireturn, [1]),
  (250, 0, .aload_n 1, []),
  (251, 0, .invokevirtual 48, [114, 59, 1, 0, 1, 1, 0, 0]),
  (254, 0, .aload_n 2, []),
  (255, 0, .invokevirtual 51, [115, 108, 1, 0, 1, 1, 0, 6]),
  (258, 0, .if_icmp .eq (218), [250]),
  (261, 0, .iconst (0), []),
  (262, 0, .ireturn, [1]),
  (263, 0, .aload_n 1, []),
  (264, 0, .invokevirtual 52, [116, 60, 1, 0, 1, 1, 0, 0]),
  (267, 0, .aload_n 2, []),
  (268, 0, .invokevirtual 55, [117, 109, 1, 0, 1, 1, 0, 6]),
  (271, 0, .if_icmp .eq (205), [250]),
  (274, 0, .iconst (0), []),
  (275, 0, .ireturn, [1]),
  (276, 0, .aload_n 1, []),
  (277, 0, .aload_n 0, []),
  (278, 0, .iload_n 3, []),
  (279, 0, .iconst (1), []),
  (280, 0, .iadd, []),
  (281, 0, .iaload, [4]),
  (282, 0, .invokevirtual 56, [118, 61, 2, 0, 1, 2, 0, 0]),
  (285, 0, .aload_n 2, []),
  (286, 0, .aload_n 0, []),
  (287, 0, .iload_n 3, []),
  (288, 0, .iconst (1), []),
  (289, 0, .iadd, []),
  (290, 0, .iaload, [4]),
  (291, 0, .invokevirtual 59, [119, 110, 2, 0, 1, 2, 0, 6]),
  (294, 0, .if_icmp .eq (182), [250]),
  (297, 0, .iconst (0), []),
  (298, 0, .ireturn, [1]),
  (299, 0, .aload_n 1, []),
  (300, 0, .aload_n 0, []),
  (301, 0, .iload_n 3, []),
  (302, 0, .iconst (1), []),
  (303, 0, .iadd, []),
  (304, 0, .iaload, [4]),
  (305, 0, .invokevirtual 60, [120, 62, 2, 0, 1, 2, 0, 0]),
  (308, 0, .aload_n 2, []),
  (309, 0, .aload_n 0, []),
  (310, 0, .iload_n 3, []),
  (311, 0, .iconst (1), []),
  (312, 0, .iadd, []),
  (313, 0, .iaload, [4]),
  (314, 0, .invokevirtual 63, [121, 111, 2, 0, 1, 4, 0, 6]),
  (317, 0, .if_icmp .eq (159), [250]),
  (320, 0, .iconst (0), []),
  (321, 0, .ireturn, [1]),
  (322, 0, .aload_n 1, []),
  (323, 0, .invokevirtual 64, [122, 63, 1, 0, 1, 1, 0, 0]),
  (326, 0, .aload_n 2, []),
  (327, 0, .invokevirtual 67, [123, 112, 1, 0, 1, 1, 0, 6]),
  (330, 0, .if_icmp .eq (146), [250]),
  (333, 0, .iconst (0), []),
  (334, 0, .ireturn, [1]),
  (335, 0, .aload_n 1, []),
  (336, 0, .aload_n 0, []),
  (337, 0, .iload_n 3, []),
  (338, 0, .iconst (1), []),
  (339, 0, .iadd, []),
  (340, 0, .iaload, [4]),
  (341, 0, .invokevirtual 68, [124, 64, 2, 0, 1, 2, 0, 0]),
  (344, 0, .aload_n 2, []),
  (345, 0, .aload_n 0, []),
  (346, 0, .iload_n 3, []),
  (347, 0, .iconst (1), []),
  (348, 0, .iadd, []),
  (349, 0, .iaload, [4]),
  (350, 0, .invokevirtual 71, [125, 113, 2, 0, 1, 3, 0, 6]),
  (353, 0, .if_icmp .eq (123), [250]),
  (356, 0, .iconst (0), []),
  (357, 0, .ireturn, [1]),
  (358, 0, .aload_n 1, []),
  (359, 0, .invokevirtual 72, [126, 65, 1, 0, 1, 1, 0, 0]),
  (362, 0, .aload_n 2, []),
  (363, 0, .invokevirtual 75, [127, 114, 1, 0, 1, 3, 0, 6]),
  (366, 0, .if_icmp .eq (110), [250]),
  (369, 0, .iconst (0), []),
  (370, 0, .ireturn, [1]),
  (371, 0, .aload_n 1, []),
  (372, 0, .aload_n 0, []),
  (373, 0, .iload_n 3, []),
  (374, 0, .iconst (1), []),
  (375, 0, .iadd, []),
  (376, 0, .iaload, [4]),
  (377, 0, .invokevirtual 76, [128, 66, 2, 0, 1, 2, 0, 0]),
  (380, 0, .aload_n 2, []),
  (381, 0, .aload_n 0, []),
  (382, 0, .iload_n 3, []),
  (383, 0, .iconst (1), []),
  (384, 0, .iadd, []),
  (385, 0, .iaload, [4]),
  (386, 0, .invokevirtual 79, [129, 115, 2, 0, 1, 3, 0, 6]),
  (389, 0, .if_icmp .eq (87), [250]),
  (392, 0, .iconst (0), []),
  (393, 0, .ireturn, [1]),
  (394, 0, .aload_n 1, []),
  (395, 0, .aload_n 0, []),
  (396, 0, .iload_n 3, []),
  (397, 0, .iconst (1), []),
  (398, 0, .iadd, []),
  (399, 0, .iaload, [4]),
  (400, 0, .invokevirtual 80, [130, 67, 2, 0, 1, 2, 0, 0]),
  (403, 0, .aload_n 2, []),
  (404, 0, .aload_n 0, []),
  (405, 0, .iload_n 3, []),
  (406, 0, .iconst (1), []),
  (407, 0, .iadd, []),
  (408, 0, .iaload, [4]),
  (409, 0, .invokevirtual 83, [131, 117, 2, 0, 1, 3, 0, 6]),
  (412, 0, .if_icmp .eq (64), [250]),
  (415, 0, .iconst (0), []),
  (416, 0, .ireturn, [1]),
  (417, 0, .aload_n 1, []),
  (418, 0, .aload_n 0, []),
  (419, 0, .iload_n 3, []),
  (420, 0, .iconst (1), []),
  (421, 0, .iadd, []),
  (422, 0, .iaload, [4]),
  (423, 0, .invokevirtual 84, [132, 68, 2, 0, 1, 2, 0, 0]),
  (426, 0, .aload_n 2, []),
  (427, 0, .aload_n 0, []),
  (428, 0, .iload_n 3, []),
  (429, 0, .iconst (1), []),
  (430, 0, .iadd, []),
  (431, 0, .iaload, [4]),
  (432, 0, .invokevirtual 87, [133, 118, 2, 0, 1, 4, 0, 6]),
  (435, 0, .if_icmp .eq (41), [250]),
  (438, 0, .iconst (0), []),
  (439, 0, .ireturn, [1]),
  (440, 0, .aload_n 1, []),
  (441, 0, .invokevirtual 88, [134, 70, 1, 0, 1, 1, 0, 0]),
  (444, 0, .aload_n 2, []),
  (445, 0, .invokevirtual 91, [135, 119, 1, 0, 1, 1, 0, 6]),
  (448, 0, .if_icmp .eq (28), [250]),
  (451, 0, .iconst (0), []),
  (452, 0, .ireturn, [1]),
  (453, 0, .aload_n 1, []),
  (454, 0, .aload_n 0, []),
  (455, 0, .iload_n 3, []),
  (456, 0, .iconst (1), []),
  (457, 0, .iadd, []),
  (458, 0, .iaload, [4]),
  (459, 0, .invokevirtual 92, [136, 75, 2, 0, 1, 2, 0, 0]),
  (462, 0, .aload_n 2, []),
  (463, 0, .aload_n 0, []),
  (464, 0, .iload_n 3, []),
  (465, 0, .iconst (1), []),
  (466, 0, .iadd, []),
  (467, 0, .iaload, [4]),
  (468, 0, .invokevirtual 95, [137, 121, 2, 0, 1, 8, 0, 6]),
  (471, 0, .if_icmp .eq (5), [250]),
  (474, 0, .iconst (0), []),
  (475, 0, .ireturn, [1]),
  (476, 0, .iinc 3 (2), []),
  (479, 0, .goto (-461), [10]),
  (482, 0, .iconst (1), []),
  (483, 0, .ireturn, [1])]
def tcs : List (List En) := [c_0, c_1, c_2, c_3, c_4, c_5, c_6, c_7, c_8, c_9, c_10, c_11, c_12, c_13, c_14, c_15, c_16, c_17, c_18, c_19, c_20, c_21, c_22, c_23, c_24, c_25, c_26, c_27, c_28, c_29, c_30, c_31, c_32, c_33, c_34, c_35, c_36, c_37, c_38, c_39, c_40, c_41, c_42, c_43, c_44, c_45, c_46, c_47, c_48, c_49, c_50, c_51, c_52, c_53, c_54, c_55, c_56, c_57, c_58, c_59, c_60, c_61, c_62, c_63, c_64, c_65, c_66, c_67, c_68, c_69, c_70, c_71, c_72, c_73, c_74, c_75, c_76, c_77, c_78, c_79, c_80, c_81, c_82, c_83, c_84, c_85, c_86, c_87, c_88, c_89, c_90, c_91, c_92, c_93, c_94, c_95, c_96, c_97, c_98, c_99, c_100, c_101, c_102, c_103, c_104, c_105, c_106, c_107, c_108, c_109, c_110, c_111, c_112, c_113, c_114, c_115, c_116, c_117, c_118, c_119, c_120, c_121, c_122]
def tc (y : Nat) : List En := (tcs[y]?).getD []
end
section
def kc (n : Int) : Int32 := match n with
  | .ofNat k => nI k
  | .negSucc k => -(nI (k + 1))
def wsA : List Jvm.Cond := lw_tbl.filter goodWord
def isNest : Jvm.Cond → Bool
  | .fieldLinkNest .. => true
  | .methodLinkNest .. => true
  | _ => false
def wsN : List Jvm.Cond := lw_tbl.filter isNest
theorem inA {i : Nat} {w : Jvm.Cond} (h : lw_tbl[i]? = some w) (hg : goodWord w = true) : w ∈ wsA := List.mem_filter.mpr ⟨List.mem_of_getElem? h, hg⟩
theorem inN {i : Nat} {w : Jvm.Cond} (h : lw_tbl[i]? = some w) (hg : isNest w = true) : w ∈ wsN := List.mem_filter.mpr ⟨List.mem_of_getElem? h, hg⟩
theorem wsA_good {w : Jvm.Cond} (h : w ∈ wsA) : (w.onTables && w.keeps) = true ∨ ∃ ty, w = .arrayClass ty := good_of_word (List.mem_filter.mp h).2
theorem wsN_two {w : Jvm.Cond} (h : w ∈ wsN) : (∃ a i b n d h, w = .fieldLinkNest a i b n d h) ∨ ∃ a i x h, w = .methodLinkNest a i x h := by
  have h2 := (List.mem_filter.mp h).2
  unfold isNest at h2
  split at h2
  · exact Or.inl ⟨_, _, _, _, _, _, rfl⟩
  · exact Or.inr ⟨_, _, _, _, rfl⟩
  · cases h2
def tk (ci k : Nat) : Nat := match tyF ci k with
  | .int => 0
  | .boolean => 1
  | .object _ => 2
  | .array _ => 2
  | _ => 3
def nf (ci : Nat) : Nat := match cls_[ci]? with
  | some q => q.2.2
  | none => 0
def il : Jvm.ClassFile.Instr → Nat
  | .iconst _ | .iload_n _ | .aload_n _ | .istore_n _ | .astore_n _ | .iadd | .isub | .imul | .iand | .ior | .ishl | .dup | .iaload | .iastore | .baload | .bastore | .aaload | .aastore | .arraylength | .ireturn | .return_ => 1
  | .bipush _ | .iload _ | .aload _ | .istore _ | .astore _ | .newarray _ => 2
  | _ => 3
def okF (y ix : Nat) (inf : List Nat) : Bool := match inf with
  | [j, ci, f, rf] => (match flT[j]? with
    | some (o, ix', ci', f', _, _) => Nat.beq o (mO y) && Nat.beq ix' ix && Nat.beq ci' ci && Nat.beq f' f && Nat.beq rf (tk ci f)
    | none => false)
  | _ => false
def fin (ci f : Nat) : Bool := match cls_[ci]? with
  | some q => (q.2.1 f).2.2.2
  | none => false
def nsF (j : Nat) : Nat := match flT[j]? with
  | some (_, _, _, _, ns, _) => ns
  | none => 9
def okW (y : Nat) (inf : List Nat) : Bool := match inf with
  | [j, ci, f, _] => !fin ci f || (Nat.beq (mK y) 1 && Nat.beq (mO y) ci && Nat.beq (nsF j) 0)
  | _ => false
def okL (y ix : Nat) (inf : List Nat) : Bool := match inf with
  | [j, ci] => (match clT[j]? with
    | some (o, ix', ci', _) => Nat.beq o (mO y) && Nat.beq ix' ix && Nat.beq ci' ci
    | none => false)
  | _ => false
def okT (y pc : Nat) (off : Int) (t : Nat) : Bool := match (tc y)[t]? with
  | some e => decide ((pc : Int) + off = (e.1 : Int))
  | none => false
def okC (y ix q0 : Nat) (inf : List Nat) : Bool := match inf with
  | [j, c, n, al, rt, mx, q, ci] => (match mlT[j]? with
      | some (o, ix', c', _, _) => Nat.beq o (mO y) && Nat.beq ix' ix && Nat.beq c' c
      | none => false) && Nat.blt c nC && Nat.beq q (mK c) && Nat.beq q q0 && Nat.beq n (if q = 2 then mA c else mA c + 1) && Nat.beq mx (mX c) && Nat.ble n mx && Nat.beq ci (mO c) &&
      (match mR c with
      | none => Nat.beq rt 0
      | some _ => Nat.beq rt 1)
  | [j, w] => (match jlT[j]? with
      | some (o, ix', w', _) => Nat.beq o (mO y) && Nat.beq ix' ix && Nat.beq w' w && Nat.beq q0 (if w = 0 then 1 else 2)
      | none => false)
  | _ => false
def okTs (y pc : Nat) : List Int → List Nat → Bool
  | [], [] => true
  | o :: os, t :: ts => okT y pc o t && okTs y pc os ts
  | _, _ => false
def tg1 (y pc : Nat) (off : Int) (inf : List Nat) : Bool := match inf with
  | t :: _ => okT y pc off t
  | [] => false
def okI (y pc : Nat) (i : Jvm.ClassFile.Instr) (inf : List Nat) : Bool := match i with
  | .bipush n => decide ((Int8.ofInt n).toInt32 = kc n)
  | .sipush n => decide ((Int16.ofInt n).toInt32 = kc n)
  | .istore n => Nat.blt n (mX y)
  | .istore_n n => Nat.blt n.val (mX y)
  | .astore n => Nat.blt n (mX y)
  | .astore_n n => Nat.blt n.val (mX y)
  | .iinc n _ => Nat.blt n (mX y)
  | .getfield ix => okF y ix inf
  | .putfield ix => okF y ix inf && okW y inf
  | .new ix => okL y ix inf
  | .anewarray ix => okL y ix inf && (match inf with
    | [_, ci] => Nat.beq ci ciRule
    | _ => false)
  | .goto off => tg1 y pc off inf
  | .ifCond _ off => tg1 y pc off inf
  | .if_icmp _ off => tg1 y pc off inf
  | .tableswitch df lo hi offs => (match inf with
    | t :: ts => okT y pc df t && okTs y pc offs.toList ts && decide (offs.size = (hi - lo + 1).toNat) && decide (-100 ≤ lo) && decide (hi ≤ 1000) && decide (lo ≤ hi)
    | [] => false)
  | .lookupswitch df ps => (match inf with
    | t :: ts => okT y pc df t && okTs y pc (ps.toList.map Prod.snd) ts && (ps.toList.zip (ps.toList.drop 1)).all (fun (a, next) => a.1 < next.1) && ps.toList.all (fun q => decide ((kc q.1).toInt = q.1))
    | [] => false)
  | .invokevirtual ix => okC y ix 0 inf
  | .invokespecial ix => okC y ix 1 inf
  | .invokestatic ix => okC y ix 2 inf
  | .ireturn => (match mR y with
    | some .boolean => (match inf with
      | [1] => true
      | _ => false)
    | some .int => (match inf with
      | [] => true
      | _ => false)
    | _ => false)
  | .return_ => (match mR y with
    | none => true
    | _ => false)
  | _ => true
def isSw : Jvm.ClassFile.Instr → Bool
  | .tableswitch .. => true
  | .lookupswitch .. => true
  | _ => false
def okE (y t : Nat) (e : En) : Bool := match e with
  | (pc, _, i, inf) => (match decode (mB y) pc with
      | .ok (i', n) => decide (i' = i) && (isSw i || Nat.beq n (il i))
      | _ => false) && okI y pc i inf && (isSw i || (match (tc y)[t + 1]? with
      | some e' => Nat.beq e'.1 (pc + il i)
      | none => true))
def okM (y : Nat) : Bool := (List.range (tc y).length).all fun t => match (tc y)[t]? with
  | some e => okE y t e
  | none => true
end
section
def flOk (q : Nat × Nat × Nat × Nat × Nat × Nat) : Bool := match q with
  | (o, ix, ci, k, ns, wi) => match cls_[ci]? with
    | some (C, T, N) => Nat.blt k N && (match ns with
      | 0 => decide (lw_tbl[wi]? = some (.fieldLink (cn o) ix C (T k).2.1 (T k).2.2.1))
      | 1 => decide (lw_tbl[wi]? = some (.fieldLinkNest (cn o) ix C (T k).2.1 (T k).2.2.1 hostN))
      | _ => false)
    | none => false
set_option maxRecDepth 100000 in
theorem fl_all : flT.all flOk = true := by decide +kernel
theorem ck_fl {j o ix ci k ns wi : Nat} (h : flT[j]? = some (o, ix, ci, k, ns, wi)) : ∃ C T N, cls_[ci]? = some (C, T, N) ∧ k < N ∧ ((ns = 0 ∧ Jvm.Cond.fieldLink (cn o) ix C (T k).2.1 (T k).2.2.1 ∈ wsA) ∨ (ns = 1 ∧ Jvm.Cond.fieldLinkNest (cn o) ix C (T k).2.1 (T k).2.2.1 hostN ∈ wsN)) := by
  have h1 := List.all_eq_true.mp fl_all _ (List.mem_of_getElem? h)
  unfold flOk at h1
  dsimp only at h1
  cases hc : cls_[ci]? with
  | none => rw [hc] at h1; cases h1
  | some q =>
    obtain ⟨C, T, N⟩ := q
    rw [hc] at h1
    dsimp only at h1
    rw [Bool.and_eq_true] at h1
    refine ⟨C, T, N, rfl, Nat.le_of_ble_eq_true h1.1, ?_⟩
    have h2 := h1.2
    split at h2
    · exact Or.inl ⟨rfl, inA (of_decide_eq_true h2) rfl⟩
    · exact Or.inr ⟨rfl, inN (of_decide_eq_true h2) rfl⟩
    · cases h2
def mlOk (q : Nat × Nat × Nat × Nat × Nat) : Bool := match q with
  | (o, ix, c, ns, wi) => match ns with
      | 0 => decide (lw_tbl[wi]? = some (.methodLink (cn o) ix (mN c)))
      | 1 => decide (lw_tbl[wi]? = some (.methodLinkNest (cn o) ix (mN c) hostN))
      | _ => false
set_option maxRecDepth 100000 in
theorem ml_all : mlT.all mlOk = true := by decide +kernel
theorem ck_ml {j o ix c ns wi : Nat} (h : mlT[j]? = some (o, ix, c, ns, wi)) : (ns = 0 ∧ Jvm.Cond.methodLink (cn o) ix (mN c) ∈ wsA) ∨ (ns = 1 ∧ Jvm.Cond.methodLinkNest (cn o) ix (mN c) hostN ∈ wsN) := by
  have h1 := List.all_eq_true.mp ml_all _ (List.mem_of_getElem? h)
  unfold mlOk at h1
  dsimp only at h1
  split at h1
  · exact Or.inl ⟨rfl, inA (of_decide_eq_true h1) rfl⟩
  · exact Or.inr ⟨rfl, inN (of_decide_eq_true h1) rfl⟩
  · cases h1
def clOk (q : Nat × Nat × Nat × Nat) : Bool := match q with
  | (o, ix, ci, wi) => match cls_[ci]? with
    | some (C, _, _) => decide (lw_tbl[wi]? = some (.classLink (cn o) ix C))
    | none => false
set_option maxRecDepth 100000 in
theorem cl_all : clT.all clOk = true := by decide +kernel
theorem ck_cl {j o ix ci wi : Nat} (h : clT[j]? = some (o, ix, ci, wi)) : ∃ C T N, cls_[ci]? = some (C, T, N) ∧ Jvm.Cond.classLink (cn o) ix C ∈ wsA := by
  have h1 := List.all_eq_true.mp cl_all _ (List.mem_of_getElem? h)
  unfold clOk at h1
  dsimp only at h1
  cases hc : cls_[ci]? with
  | none => rw [hc] at h1; cases h1
  | some q =>
    obtain ⟨C, T, N⟩ := q
    rw [hc] at h1
    exact ⟨C, T, N, rfl, inA (of_decide_eq_true h1) rfl⟩
def jlOk (q : Nat × Nat × Nat × Nat) : Bool := match q with
  | (o, ix, w, wi) => decide (lw_tbl[wi]? = some (.methodLink (cn o) ix (jN w)))
set_option maxRecDepth 100000 in
theorem jl_all : jlT.all jlOk = true := by decide +kernel
theorem ck_jl {j o ix w wi : Nat} (h : jlT[j]? = some (o, ix, w, wi)) : Jvm.Cond.methodLink (cn o) ix (jN w) ∈ wsA := by
  have h1 := List.all_eq_true.mp jl_all _ (List.mem_of_getElem? h)
  exact inA (of_decide_eq_true h1) rfl
def csOk (ci : Nat) : Bool := match cls_[ci]?, lyT[ci]?, clW[ci]? with
  | some (C, T, N), some ls, some (w1, w2) => ((List.range N).all fun k => (match ls[k]? with
      | some i => decide (lw_tbl[i]? = some (u_lay C T k))
      | none => false) && decide (parseFieldDescriptor (T k).2.2.1 = some (tyF ci k)) && decide ((T k).1 = C) && Nat.ble (tk ci k) 2) &&
      ((List.range N).all fun a => (List.range N).all fun b => Nat.beq a b || decide ((T a).2.1 ≠ (T b).2.1)) &&
      decide (lw_tbl[w1]? = some (.instantiable C N)) && decide (lw_tbl[w2]? = some (.initialized C)) && decide (cn ci = C)
  | _, _, _ => false
set_option maxRecDepth 100000 in
theorem cs_all : (List.range cls_.length).all csOk = true := by decide +kernel
theorem u_lay_good (C : String) (T : u_T) (k : Nat) : goodWord (u_lay C T k) = true := by
  unfold u_lay
  split <;> rfl
theorem cs_e {ci : Nat} {C : String} {T : u_T} {N : Nat} (h : cls_[ci]? = some (C, T, N)) : ∃ ls w1 w2, lyT[ci]? = some ls ∧ clW[ci]? = some (w1, w2) ∧ (∀ k, k < N → ((∃ i, ls[k]? = some i ∧ lw_tbl[i]? = some (u_lay C T k)) ∧ parseFieldDescriptor (T k).2.2.1 = some (tyF ci k) ∧ (T k).1 = C ∧ tk ci k ≤ 2)) ∧ (∀ a, a < N → ∀ b, b < N → a ≠ b → (T a).2.1 ≠ (T b).2.1) ∧ lw_tbl[w1]? = some (.instantiable C N) ∧ lw_tbl[w2]? = some (.initialized C) ∧ cn ci = C := by
  have h1 := List.all_eq_true.mp cs_all ci (List.mem_range.mpr (List.getElem?_eq_some_iff.mp h).1)
  unfold csOk at h1
  rw [h] at h1
  cases hl : lyT[ci]? with
  | none => rw [hl] at h1; cases h1
  | some ls =>
    cases hw : clW[ci]? with
    | none => rw [hl, hw] at h1; cases h1
    | some q =>
      obtain ⟨w1, w2⟩ := q
      rw [hl, hw] at h1
      dsimp only at h1
      simp only [Bool.and_eq_true, decide_eq_true_eq] at h1
      obtain ⟨⟨⟨⟨g1, g2⟩, g3⟩, g4⟩, g5⟩ := h1
      refine ⟨ls, w1, w2, rfl, rfl, fun k hk => ?_, fun a ha b hb hab => ?_, g3, g4, g5⟩
      · have q1 := List.all_eq_true.mp g1 k (List.mem_range.mpr hk)
        simp only [Bool.and_eq_true, decide_eq_true_eq] at q1
        obtain ⟨⟨⟨r1, r2⟩, r3⟩, r4⟩ := q1
        refine ⟨?_, r2, r3, Nat.le_of_ble_eq_true r4⟩
        cases hi : ls[k]? with
        | none => rw [hi] at r1; cases r1
        | some i => rw [hi] at r1; exact ⟨i, rfl, of_decide_eq_true r1⟩
      · have q1 := List.all_eq_true.mp (List.all_eq_true.mp g2 a (List.mem_range.mpr ha)) b (List.mem_range.mpr hb)
        rw [Bool.or_eq_true] at q1
        rcases q1 with q1 | q1
        · exact absurd (Nat.eq_of_beq_eq_true q1) hab
        · exact of_decide_eq_true q1
theorem ck_cls {ci : Nat} {C : String} {T : u_T} {N : Nat} (h : cls_[ci]? = some (C, T, N)) : (∀ w ∈ u_ws C T N, w ∈ wsA) ∧ (∀ k, k < N → parseFieldDescriptor (T k).2.2.1 = some (tyF ci k)) ∧ (∀ a, a < N → ∀ b, b < N → a ≠ b → (T a).2.1 ≠ (T b).2.1) ∧ (∀ k, k < N → (T k).1 = C) ∧ Jvm.Cond.instantiable C N ∈ wsA ∧ Jvm.Cond.initialized C ∈ wsA ∧ (∀ k, k < N → tk ci k ≤ 2) := by
  obtain ⟨ls, w1, w2, -, -, g1, g2, g3, g4, -⟩ := cs_e h
  refine ⟨fun w hw => ?_, fun k hk => (g1 k hk).2.1, g2, fun k hk => (g1 k hk).2.2.1, inA g3 rfl, inA g4 rfl, fun k hk => (g1 k hk).2.2.2⟩
  obtain ⟨k, hk, rfl⟩ := List.mem_map.mp hw
  obtain ⟨⟨i, -, hi⟩, -⟩ := g1 k (List.mem_range.mp hk)
  exact inA hi (u_lay_good C T k)
theorem ck_cn {ci : Nat} {C : String} {T : u_T} {N : Nat} (h : cls_[ci]? = some (C, T, N)) : cn ci = C := by
  obtain ⟨ls, w1, w2, -, -, -, -, -, -, g⟩ := cs_e h
  exact g
theorem ck_rule : ∃ C T N, cls_[ciRule]? = some (C, T, N) ∧ C = "RecipeRewriter$Rule" := ⟨_, _, _, rfl, rfl⟩
theorem kd_all : kdT.all (fun q => Nat.ble q.2 10000) = true := by decide +kernel
theorem kd_le (n : Nat) : (kd n).2 ≤ 10000 := by
  unfold kd
  cases h : kdT[n]? with
  | none => exact Nat.zero_le _
  | some q => exact Nat.le_of_ble_eq_true (List.all_eq_true.mp kd_all q (List.mem_of_getElem? h))
def ywOk (y : Nat) : Bool := decide (cn (mO y) = (mN y).cls) && (!Nat.beq (mK y) 1 || decide ((mN y).name = "<init>"))
set_option maxRecDepth 100000 in
theorem yw_all : (List.range nM).all ywOk = true := by decide +kernel
theorem ck_own {y : Nat} (h : y < nM) : cn (mO y) = (mN y).cls := by
  have h1 := List.all_eq_true.mp yw_all y (List.mem_range.mpr h)
  unfold ywOk at h1
  rw [Bool.and_eq_true] at h1
  exact of_decide_eq_true h1.1
theorem ck_ini {y : Nat} (h : y < nM) (hk : mK y = 1) : (mN y).name = "<init>" := by
  have h1 := List.all_eq_true.mp yw_all y (List.mem_range.mpr h)
  unfold ywOk at h1
  rw [Bool.and_eq_true, hk] at h1
  exact of_decide_eq_true h1.2
def mOk (c : Nat) : Bool := match mW[c]? with
  | some (w0, w1, w2, w3) => plainName (mN c).cls && decide (lw_tbl[w0]? = some (.code (mN c) (mB c) (mX c) (mR c))) && decide (lw_tbl[w1]? = some (.initialized (mN c).cls)) && decide ((mN c).cls ≠ "java/lang/invoke/MethodHandle" ∧ (mN c).cls ≠ "java/lang/invoke/VarHandle") && decide ((parseMethodDescriptor (mN c).desc).map (fun d => d.parameters.length) = some (mA c)) && Nat.ble (mX c) 40 &&
      (match mK c with
      | 0 => decide (lw_tbl[w2]? = some (.instanceMethod (mN c))) && decide (lw_tbl[w3]? = some (.selects (mN c).cls (mN c) (mN c))) && Nat.blt (mO c) cls_.length
      | 1 => decide (lw_tbl[w2]? = some (.instanceMethod (mN c))) && decide ((mN c).name = "<init>") && decide (mR c = none) && Nat.blt (mO c) cls_.length
      | 2 => decide (lw_tbl[w2]? = some (.static (mN c)))
      | _ => false)
  | none => false
set_option maxRecDepth 100000 in
theorem m_all_0 : (List.range 20).all (fun i => mOk (0 + i)) = true := by decide +kernel
set_option maxRecDepth 100000 in
theorem m_all_20 : (List.range 20).all (fun i => mOk (20 + i)) = true := by decide +kernel
set_option maxRecDepth 100000 in
theorem m_all_40 : (List.range 20).all (fun i => mOk (40 + i)) = true := by decide +kernel
set_option maxRecDepth 100000 in
theorem m_all_60 : (List.range 20).all (fun i => mOk (60 + i)) = true := by decide +kernel
set_option maxRecDepth 100000 in
theorem m_all_80 : (List.range 20).all (fun i => mOk (80 + i)) = true := by decide +kernel
set_option maxRecDepth 100000 in
theorem m_all_100 : (List.range 20).all (fun i => mOk (100 + i)) = true := by decide +kernel
set_option maxRecDepth 100000 in
theorem m_all_120 : (List.range 2).all (fun i => mOk (120 + i)) = true := by decide +kernel
theorem m_all {c : Nat} (h : c < nC) : mOk c = true := by
  have h : c < 122 := h
  by_cases h0 : c < 20
  · have := List.all_eq_true.mp m_all_0 (c - 0) (List.mem_range.mpr (by omega))
    rw [show 0 + (c - 0) = c by omega] at this
    exact this
  by_cases h20 : c < 40
  · have := List.all_eq_true.mp m_all_20 (c - 20) (List.mem_range.mpr (by omega))
    rw [show 20 + (c - 20) = c by omega] at this
    exact this
  by_cases h40 : c < 60
  · have := List.all_eq_true.mp m_all_40 (c - 40) (List.mem_range.mpr (by omega))
    rw [show 40 + (c - 40) = c by omega] at this
    exact this
  by_cases h60 : c < 80
  · have := List.all_eq_true.mp m_all_60 (c - 60) (List.mem_range.mpr (by omega))
    rw [show 60 + (c - 60) = c by omega] at this
    exact this
  by_cases h80 : c < 100
  · have := List.all_eq_true.mp m_all_80 (c - 80) (List.mem_range.mpr (by omega))
    rw [show 80 + (c - 80) = c by omega] at this
    exact this
  by_cases h100 : c < 120
  · have := List.all_eq_true.mp m_all_100 (c - 100) (List.mem_range.mpr (by omega))
    rw [show 100 + (c - 100) = c by omega] at this
    exact this
  have := List.all_eq_true.mp m_all_120 (c - 120) (List.mem_range.mpr (by omega))
  rw [show 120 + (c - 120) = c by omega] at this
  exact this
theorem ck_m {c : Nat} (h : c < nC) : plainName (mN c).cls = true ∧ Jvm.Cond.code (mN c) (mB c) (mX c) (mR c) ∈ wsA ∧ Jvm.Cond.initialized (mN c).cls ∈ wsA ∧ ((mN c).cls ≠ "java/lang/invoke/MethodHandle" ∧ (mN c).cls ≠ "java/lang/invoke/VarHandle") ∧ (parseMethodDescriptor (mN c).desc).map (fun d => d.parameters.length) = some (mA c) ∧ mX c ≤ 40 ∧
    ((mK c = 0 ∧ Jvm.Cond.instanceMethod (mN c) ∈ wsA ∧ Jvm.Cond.selects (mN c).cls (mN c) (mN c) ∈ wsA) ∨ (mK c = 1 ∧ Jvm.Cond.instanceMethod (mN c) ∈ wsA ∧ (mN c).name = "<init>" ∧ mR c = none) ∨ (mK c = 2 ∧ Jvm.Cond.static (mN c) ∈ wsA)) := by
  have h1 := m_all h
  unfold mOk at h1
  cases hw : mW[c]? with
  | none => rw [hw] at h1; cases h1
  | some q =>
    obtain ⟨w0, w1, w2, w3⟩ := q
    rw [hw] at h1
    dsimp only at h1
    simp only [Bool.and_eq_true, decide_eq_true_eq] at h1
    obtain ⟨⟨⟨⟨⟨⟨g1, g2⟩, g3⟩, g4⟩, g5⟩, g6⟩, g7⟩ := h1
    refine ⟨g1, inA g2 rfl, inA g3 rfl, g4, g5, Nat.le_of_ble_eq_true g6, ?_⟩
    split at g7
    · rename_i hk
      simp only [Bool.and_eq_true, decide_eq_true_eq] at g7
      exact Or.inl ⟨hk, inA g7.1.1 rfl, inA g7.1.2 rfl⟩
    · rename_i hk
      simp only [Bool.and_eq_true, decide_eq_true_eq] at g7
      exact Or.inr (Or.inl ⟨hk, inA g7.1.1.1 rfl, g7.1.1.2, g7.1.2⟩)
    · rename_i hk
      exact Or.inr (Or.inr ⟨hk, inA (of_decide_eq_true g7) rfl⟩)
    · cases g7
theorem ck_cls_of {c : Nat} (h : c < nC) (hk : mK c ≠ 2) : ∃ C T N, cls_[mO c]? = some (C, T, N) ∧ C = (mN c).cls := by
  have h1 := m_all h
  unfold mOk at h1
  have hl : mO c < cls_.length := by
    cases hw : mW[c]? with
    | none => rw [hw] at h1; cases h1
    | some q =>
      obtain ⟨w0, w1, w2, w3⟩ := q
      rw [hw] at h1
      dsimp only at h1
      rw [Bool.and_eq_true] at h1
      have g7 := h1.2
      split at g7
      · simp only [Bool.and_eq_true] at g7
        exact Nat.le_of_ble_eq_true g7.2
      · simp only [Bool.and_eq_true] at g7
        exact Nat.le_of_ble_eq_true g7.2
      · rename_i hk2
        exact absurd hk2 hk
      · cases g7
  cases hc : cls_[mO c]? with
  | none => exact absurd hl (Nat.not_lt.mpr (List.getElem?_eq_none_iff.mp hc))
  | some q =>
    obtain ⟨C, T, N⟩ := q
    refine ⟨C, T, N, rfl, ?_⟩
    rw [← ck_cn hc, ck_own (Nat.lt_of_lt_of_le h (by decide))]
set_option maxRecDepth 100000 in
theorem ck_oi : Jvm.Cond.instanceMethod objectInit ∈ wsA := inA (i := 56) rfl rfl
set_option maxRecDepth 100000 in
theorem ck_oc : Jvm.Cond.code objectInit ⟨#[0xb1]⟩ 1 none ∈ wsA := inA (i := 57) rfl rfl
set_option maxRecDepth 100000 in
theorem ck_xs : Jvm.Cond.static Lib.Math.max.name ∈ wsA := inA (i := 279) rfl rfl
set_option maxRecDepth 100000 in
theorem ck_mi : Jvm.Cond.initialized "java/lang/Math" ∈ wsA := inA (i := 49) rfl rfl
set_option maxRecDepth 100000 in
theorem ck_xc : Jvm.Cond.code Lib.Math.max.name Lib.Math.max.code 2 (some .int) ∈ wsA := inA (i := 280) rfl rfl
set_option maxRecDepth 100000 in
theorem ck_ns : Jvm.Cond.static Lib.Math.min.name ∈ wsA := inA (i := 276) rfl rfl
set_option maxRecDepth 100000 in
theorem ck_nc : Jvm.Cond.code Lib.Math.min.name Lib.Math.min.code 2 (some .int) ∈ wsA := inA (i := 277) rfl rfl
set_option maxRecDepth 100000 in
theorem ck_an : Jvm.Cond.native arraycopyName ∈ wsA := inA (i := 262) rfl rfl
set_option maxRecDepth 100000 in
theorem ck_as : Jvm.Cond.static arraycopyName ∈ wsA := inA (i := 261) rfl rfl
set_option maxRecDepth 100000 in
theorem ck_ai : Jvm.Cond.initialized "java/lang/System" ∈ wsA := inA (i := 48) rfl rfl
set_option maxRecDepth 100000 in
theorem ck_int : Jvm.Cond.arrayClass (newarray.typeOf .int) ∈ wsA := inA (i := 107) rfl rfl
set_option maxRecDepth 100000 in
theorem ck_boo : Jvm.Cond.arrayClass (newarray.typeOf .boolean) ∈ wsA := inA (i := 631) rfl rfl
end
section
set_option maxRecDepth 100000 in
theorem ok_0 : okM 0 = true := by decide +kernel
set_option maxRecDepth 100000 in
theorem ok_1 : okM 1 = true := by decide +kernel
set_option maxRecDepth 100000 in
theorem ok_2 : okM 2 = true := by decide +kernel
set_option maxRecDepth 100000 in
theorem ok_3 : okM 3 = true := by decide +kernel
set_option maxRecDepth 100000 in
theorem ok_4 : okM 4 = true := by decide +kernel
set_option maxRecDepth 100000 in
theorem ok_5 : okM 5 = true := by decide +kernel
set_option maxRecDepth 100000 in
theorem ok_6 : okM 6 = true := by decide +kernel
set_option maxRecDepth 100000 in
theorem ok_7 : okM 7 = true := by decide +kernel
set_option maxRecDepth 100000 in
theorem ok_8 : okM 8 = true := by decide +kernel
set_option maxRecDepth 100000 in
theorem ok_9 : okM 9 = true := by decide +kernel
set_option maxRecDepth 100000 in
theorem ok_10 : okM 10 = true := by decide +kernel
set_option maxRecDepth 100000 in
theorem ok_11 : okM 11 = true := by decide +kernel
set_option maxRecDepth 100000 in
theorem ok_12 : okM 12 = true := by decide +kernel
set_option maxRecDepth 100000 in
theorem ok_13 : okM 13 = true := by decide +kernel
set_option maxRecDepth 100000 in
theorem ok_14 : okM 14 = true := by decide +kernel
set_option maxRecDepth 100000 in
theorem ok_15 : okM 15 = true := by decide +kernel
set_option maxRecDepth 100000 in
theorem ok_16 : okM 16 = true := by decide +kernel
set_option maxRecDepth 100000 in
theorem ok_17 : okM 17 = true := by decide +kernel
set_option maxRecDepth 100000 in
theorem ok_18 : okM 18 = true := by decide +kernel
set_option maxRecDepth 100000 in
theorem ok_19 : okM 19 = true := by decide +kernel
set_option maxRecDepth 100000 in
theorem ok_20 : okM 20 = true := by decide +kernel
set_option maxRecDepth 100000 in
theorem ok_21 : okM 21 = true := by decide +kernel
set_option maxRecDepth 100000 in
theorem ok_22 : okM 22 = true := by decide +kernel
set_option maxRecDepth 100000 in
theorem ok_23 : okM 23 = true := by decide +kernel
set_option maxRecDepth 100000 in
theorem ok_24 : okM 24 = true := by decide +kernel
set_option maxRecDepth 100000 in
theorem ok_25 : okM 25 = true := by decide +kernel
set_option maxRecDepth 100000 in
theorem ok_26 : okM 26 = true := by decide +kernel
set_option maxRecDepth 100000 in
theorem ok_27 : okM 27 = true := by decide +kernel
set_option maxRecDepth 100000 in
theorem ok_28 : okM 28 = true := by decide +kernel
set_option maxRecDepth 100000 in
theorem ok_29 : okM 29 = true := by decide +kernel
set_option maxRecDepth 100000 in
theorem ok_30 : okM 30 = true := by decide +kernel
set_option maxRecDepth 100000 in
theorem ok_31 : okM 31 = true := by decide +kernel
set_option maxRecDepth 100000 in
theorem ok_32 : okM 32 = true := by decide +kernel
set_option maxRecDepth 100000 in
theorem ok_33 : okM 33 = true := by decide +kernel
set_option maxRecDepth 100000 in
theorem ok_34 : okM 34 = true := by decide +kernel
set_option maxRecDepth 100000 in
theorem ok_35 : okM 35 = true := by decide +kernel
set_option maxRecDepth 100000 in
theorem ok_36 : okM 36 = true := by decide +kernel
set_option maxRecDepth 100000 in
theorem ok_37 : okM 37 = true := by decide +kernel
set_option maxRecDepth 100000 in
theorem ok_38 : okM 38 = true := by decide +kernel
set_option maxRecDepth 100000 in
theorem ok_39 : okM 39 = true := by decide +kernel
set_option maxRecDepth 100000 in
theorem ok_40 : okM 40 = true := by decide +kernel
set_option maxRecDepth 100000 in
theorem ok_41 : okM 41 = true := by decide +kernel
set_option maxRecDepth 100000 in
theorem ok_42 : okM 42 = true := by decide +kernel
set_option maxRecDepth 100000 in
theorem ok_43 : okM 43 = true := by decide +kernel
set_option maxRecDepth 100000 in
theorem ok_44 : okM 44 = true := by decide +kernel
set_option maxRecDepth 100000 in
theorem ok_45 : okM 45 = true := by decide +kernel
set_option maxRecDepth 100000 in
theorem ok_46 : okM 46 = true := by decide +kernel
set_option maxRecDepth 100000 in
theorem ok_47 : okM 47 = true := by decide +kernel
set_option maxRecDepth 100000 in
theorem ok_48 : okM 48 = true := by decide +kernel
set_option maxRecDepth 100000 in
theorem ok_49 : okM 49 = true := by decide +kernel
set_option maxRecDepth 100000 in
theorem ok_50 : okM 50 = true := by decide +kernel
set_option maxRecDepth 100000 in
theorem ok_51 : okM 51 = true := by decide +kernel
set_option maxRecDepth 100000 in
theorem ok_52 : okM 52 = true := by decide +kernel
set_option maxRecDepth 100000 in
theorem ok_53 : okM 53 = true := by decide +kernel
set_option maxRecDepth 100000 in
theorem ok_54 : okM 54 = true := by decide +kernel
set_option maxRecDepth 100000 in
theorem ok_55 : okM 55 = true := by decide +kernel
set_option maxRecDepth 100000 in
theorem ok_56 : okM 56 = true := by decide +kernel
set_option maxRecDepth 100000 in
theorem ok_57 : okM 57 = true := by decide +kernel
set_option maxRecDepth 100000 in
theorem ok_58 : okM 58 = true := by decide +kernel
set_option maxRecDepth 100000 in
theorem ok_59 : okM 59 = true := by decide +kernel
set_option maxRecDepth 100000 in
theorem ok_60 : okM 60 = true := by decide +kernel
set_option maxRecDepth 100000 in
theorem ok_61 : okM 61 = true := by decide +kernel
set_option maxRecDepth 100000 in
theorem ok_62 : okM 62 = true := by decide +kernel
set_option maxRecDepth 100000 in
theorem ok_63 : okM 63 = true := by decide +kernel
set_option maxRecDepth 100000 in
theorem ok_64 : okM 64 = true := by decide +kernel
set_option maxRecDepth 100000 in
theorem ok_65 : okM 65 = true := by decide +kernel
set_option maxRecDepth 100000 in
theorem ok_66 : okM 66 = true := by decide +kernel
set_option maxRecDepth 100000 in
theorem ok_67 : okM 67 = true := by decide +kernel
set_option maxRecDepth 100000 in
theorem ok_68 : okM 68 = true := by decide +kernel
set_option maxRecDepth 100000 in
theorem ok_69 : okM 69 = true := by decide +kernel
set_option maxRecDepth 100000 in
theorem ok_70 : okM 70 = true := by decide +kernel
set_option maxRecDepth 100000 in
theorem ok_71 : okM 71 = true := by decide +kernel
set_option maxRecDepth 100000 in
theorem ok_72 : okM 72 = true := by decide +kernel
set_option maxRecDepth 100000 in
theorem ok_73 : okM 73 = true := by decide +kernel
set_option maxRecDepth 100000 in
theorem ok_74 : okM 74 = true := by decide +kernel
set_option maxRecDepth 100000 in
theorem ok_75 : okM 75 = true := by decide +kernel
set_option maxRecDepth 100000 in
theorem ok_76 : okM 76 = true := by decide +kernel
set_option maxRecDepth 100000 in
theorem ok_77 : okM 77 = true := by decide +kernel
set_option maxRecDepth 100000 in
theorem ok_78 : okM 78 = true := by decide +kernel
set_option maxRecDepth 100000 in
theorem ok_79 : okM 79 = true := by decide +kernel
set_option maxRecDepth 100000 in
theorem ok_80 : okM 80 = true := by decide +kernel
set_option maxRecDepth 100000 in
theorem ok_81 : okM 81 = true := by decide +kernel
set_option maxRecDepth 100000 in
theorem ok_82 : okM 82 = true := by decide +kernel
set_option maxRecDepth 100000 in
theorem ok_83 : okM 83 = true := by decide +kernel
set_option maxRecDepth 100000 in
theorem ok_84 : okM 84 = true := by decide +kernel
set_option maxRecDepth 100000 in
theorem ok_85 : okM 85 = true := by decide +kernel
set_option maxRecDepth 100000 in
theorem ok_86 : okM 86 = true := by decide +kernel
set_option maxRecDepth 100000 in
theorem ok_87 : okM 87 = true := by decide +kernel
set_option maxRecDepth 100000 in
theorem ok_88 : okM 88 = true := by decide +kernel
set_option maxRecDepth 100000 in
theorem ok_89 : okM 89 = true := by decide +kernel
set_option maxRecDepth 100000 in
theorem ok_90 : okM 90 = true := by decide +kernel
set_option maxRecDepth 100000 in
theorem ok_91 : okM 91 = true := by decide +kernel
set_option maxRecDepth 100000 in
theorem ok_92 : okM 92 = true := by decide +kernel
set_option maxRecDepth 100000 in
theorem ok_93 : okM 93 = true := by decide +kernel
set_option maxRecDepth 100000 in
theorem ok_94 : okM 94 = true := by decide +kernel
set_option maxRecDepth 100000 in
theorem ok_95 : okM 95 = true := by decide +kernel
set_option maxRecDepth 100000 in
theorem ok_96 : okM 96 = true := by decide +kernel
set_option maxRecDepth 100000 in
theorem ok_97 : okM 97 = true := by decide +kernel
set_option maxRecDepth 100000 in
theorem ok_98 : okM 98 = true := by decide +kernel
set_option maxRecDepth 100000 in
theorem ok_99 : okM 99 = true := by decide +kernel
set_option maxRecDepth 100000 in
theorem ok_100 : okM 100 = true := by decide +kernel
set_option maxRecDepth 100000 in
theorem ok_101 : okM 101 = true := by decide +kernel
set_option maxRecDepth 100000 in
theorem ok_102 : okM 102 = true := by decide +kernel
set_option maxRecDepth 100000 in
theorem ok_103 : okM 103 = true := by decide +kernel
set_option maxRecDepth 100000 in
theorem ok_104 : okM 104 = true := by decide +kernel
set_option maxRecDepth 100000 in
theorem ok_105 : okM 105 = true := by decide +kernel
set_option maxRecDepth 100000 in
theorem ok_106 : okM 106 = true := by decide +kernel
set_option maxRecDepth 100000 in
theorem ok_107 : okM 107 = true := by decide +kernel
set_option maxRecDepth 100000 in
theorem ok_108 : okM 108 = true := by decide +kernel
set_option maxRecDepth 100000 in
theorem ok_109 : okM 109 = true := by decide +kernel
set_option maxRecDepth 100000 in
theorem ok_110 : okM 110 = true := by decide +kernel
set_option maxRecDepth 100000 in
theorem ok_111 : okM 111 = true := by decide +kernel
set_option maxRecDepth 100000 in
theorem ok_112 : okM 112 = true := by decide +kernel
set_option maxRecDepth 100000 in
theorem ok_113 : okM 113 = true := by decide +kernel
set_option maxRecDepth 100000 in
theorem ok_114 : okM 114 = true := by decide +kernel
set_option maxRecDepth 100000 in
theorem ok_115 : okM 115 = true := by decide +kernel
set_option maxRecDepth 100000 in
theorem ok_116 : okM 116 = true := by decide +kernel
set_option maxRecDepth 100000 in
theorem ok_117 : okM 117 = true := by decide +kernel
set_option maxRecDepth 100000 in
theorem ok_118 : okM 118 = true := by decide +kernel
set_option maxRecDepth 100000 in
theorem ok_119 : okM 119 = true := by decide +kernel
set_option maxRecDepth 100000 in
theorem ok_120 : okM 120 = true := by decide +kernel
set_option maxRecDepth 100000 in
theorem ok_121 : okM 121 = true := by decide +kernel
set_option maxRecDepth 100000 in
theorem ok_122 : okM 122 = true := by decide +kernel
set_option maxRecDepth 100000 in
theorem ck_ok {y : Nat} (h : y < nM) : okM y = true := (lt_s (lt_s (lt_s (lt_s (lt_s (lt_s (lt_s (lt_s (lt_s (lt_s (lt_s (lt_s (lt_s (lt_s (lt_s (lt_s (lt_s (lt_s (lt_s (lt_s (lt_s (lt_s (lt_s (lt_s (lt_s (lt_s (lt_s (lt_s (lt_s (lt_s (lt_s (lt_s (lt_s (lt_s (lt_s (lt_s (lt_s (lt_s (lt_s (lt_s (lt_s (lt_s (lt_s (lt_s (lt_s (lt_s (lt_s (lt_s (lt_s (lt_s (lt_s (lt_s (lt_s (lt_s (lt_s (lt_s (lt_s (lt_s (lt_s (lt_s (lt_s (lt_s (lt_s (lt_s (lt_s (lt_s (lt_s (lt_s (lt_s (lt_s (lt_s (lt_s (lt_s (lt_s (lt_s (lt_s (lt_s (lt_s (lt_s (lt_s (lt_s (lt_s (lt_s (lt_s (lt_s (lt_s (lt_s (lt_s (lt_s (lt_s (lt_s (lt_s (lt_s (lt_s (lt_s (lt_s (lt_s (lt_s (lt_s (lt_s (lt_s (lt_s (lt_s (lt_s (lt_s (lt_s (lt_s (lt_s (lt_s (lt_s (lt_s (lt_s (lt_s (lt_s (lt_s (lt_s (lt_s (lt_s (lt_s (lt_s (lt_s (lt_s (lt_s (lt_0 (p := fun y => okM y = true)) ok_0) ok_1) ok_2) ok_3) ok_4) ok_5) ok_6) ok_7) ok_8) ok_9) ok_10) ok_11) ok_12) ok_13) ok_14) ok_15) ok_16) ok_17) ok_18) ok_19) ok_20) ok_21) ok_22) ok_23) ok_24) ok_25) ok_26) ok_27) ok_28) ok_29) ok_30) ok_31) ok_32) ok_33) ok_34) ok_35) ok_36) ok_37) ok_38) ok_39) ok_40) ok_41) ok_42) ok_43) ok_44) ok_45) ok_46) ok_47) ok_48) ok_49) ok_50) ok_51) ok_52) ok_53) ok_54) ok_55) ok_56) ok_57) ok_58) ok_59) ok_60) ok_61) ok_62) ok_63) ok_64) ok_65) ok_66) ok_67) ok_68) ok_69) ok_70) ok_71) ok_72) ok_73) ok_74) ok_75) ok_76) ok_77) ok_78) ok_79) ok_80) ok_81) ok_82) ok_83) ok_84) ok_85) ok_86) ok_87) ok_88) ok_89) ok_90) ok_91) ok_92) ok_93) ok_94) ok_95) ok_96) ok_97) ok_98) ok_99) ok_100) ok_101) ok_102) ok_103) ok_104) ok_105) ok_106) ok_107) ok_108) ok_109) ok_110) ok_111) ok_112) ok_113) ok_114) ok_115) ok_116) ok_117) ok_118) ok_119) ok_120) ok_121) ok_122) y h
theorem ck_tc {y t : Nat} (h : (tc y)[t]? ≠ none) : y < nM := by
  refine Nat.lt_of_not_le fun hge => h ?_
  unfold tc
  rw [List.getElem?_eq_none (l := tcs) (show tcs.length ≤ y from hge)]
  rfl
end
section
/-! The calculus: values, locals, memory, world; V: the method y runs well from pc on. -/
abbrev cv : Type := Int32 ⊕ Nat
abbrev mI : Type := Nat → Nat → Int32
abbrev mP : Type := Nat → Nat → Nat
abbrev XE : Type := Launch × va_G × ClassId × ClassId × ClassId × Nat × Nat × Nat × (Nat → Int32)
abbrev xl (E : XE) : Launch := E.1
abbrev xD (E : XE) : va_G := E.2.1
abbrev xI (E : XE) : ClassId := E.2.2.1
abbrev xB (E : XE) : ClassId := E.2.2.2.1
abbrev xR (E : XE) : ClassId := E.2.2.2.2.1
abbrev xh (E : XE) : Nat := E.2.2.2.2.2.1
abbrev xb (E : XE) : Nat := E.2.2.2.2.2.2.1
abbrev xL (E : XE) : Nat := E.2.2.2.2.2.2.2.1
abbrev xx (E : XE) : Nat → Int32 := E.2.2.2.2.2.2.2.2
def xA (E : XE) : Nat → Prop := fun q => xh E ≤ q
def xad (E : XE) (n : Nat) : Nat := if n = 1 then xb E else xh E + (n - 2)
def xv (E : XE) (v : cv) : Value := match v with
  | .inl x => .int x
  | .inr n => .ref (xad E n)
theorem xv_cat (E : XE) (v : cv) : (xv E v).category = 1 := by cases v <;> rfl
/-- locals -/
def lp (E : XE) (L : List (Option cv)) : List (Nat × Value) := (List.range L.length).filterMap (fun i => match L[i]? with
  | some (some v) => some (i, xv E v)
  | _ => none)
def LH (E : XE) (ls : Array Slot) (n : Nat) (L : List (Option cv)) : Prop := L.length = n ∧ lv_has ls n (lp E L)
theorem mem_lp {E : XE} {L : List (Option cv)} {q : Nat × Value} : q ∈ lp E L ↔ ∃ v, L[q.1]? = some (some v) ∧ q.2 = xv E v := by
  unfold lp
  rw [List.mem_filterMap]
  constructor
  · rintro ⟨i, hi, h⟩
    split at h
    · rename_i v hv
      cases h
      exact ⟨v, hv, rfl⟩
    · cases h
  · rintro ⟨v, hv, h2⟩
    refine ⟨q.1, List.mem_range.mpr (List.getElem?_eq_some_iff.mp hv).1, ?_⟩
    rw [hv]
    simp [← h2]
theorem LH.rd {E : XE} {ls : Array Slot} {n i : Nat} {L : List (Option cv)} {v : cv} (h : LH E ls n L) (hi : L[i]? = some (some v)) : ls[i]? = some (.val (xv E v)) := h.2.2.2 (i, xv E v) (mem_lp.mpr ⟨v, hi, rfl⟩)
theorem LH.set {E : XE} {ls ls' : Array Slot} {n i : Nat} {L : List (Option cv)} {v : cv} (h : LH E ls n L) (hls : lv_has ls' n ((i, xv E v) :: (lp E L).filter (fun q => !(q.1 == i) && !(q.1 + 1 == i && q.2.category == 2)))) : LH E ls' n (L.set i (some v)) := by
  refine ⟨by rw [List.length_set]; exact h.1, hls.1, hls.2.1, fun q hq => hls.2.2 q ?_⟩
  obtain ⟨w, hw, h2⟩ := mem_lp.mp hq
  rw [List.getElem?_set] at hw
  by_cases hi : i = q.1
  · rw [if_pos hi] at hw
    by_cases hl : i < L.length
    · rw [if_pos hl] at hw
      cases hw
      exact List.mem_cons.mpr (Or.inl (Prod.ext hi.symm h2))
    · rw [if_neg hl] at hw
      cases hw
  · rw [if_neg hi] at hw
    refine List.mem_cons_of_mem _ (List.mem_filter.mpr ⟨mem_lp.mpr ⟨w, hw, h2⟩, ?_⟩)
    have h1 : (q.1 == i) = false := beq_eq_false_iff_ne.mpr (fun e => hi e.symm)
    have h3 : (q.2.category == 2) = false := by rw [h2, xv_cat]; rfl
    rw [h1, h3]
    simp
theorem args_mem : ∀ (vs : List Value) (j i : Nat) (v : Value), (∀ v ∈ vs, v.category = 1) → vs[i]? = some v → (j + i, v) ∈ lv_args j vs
  | [], _, _, _, _, h => by simp at h
  | w :: vs, j, 0, v, _, h => by
    simp at h
    subst h
    exact List.mem_cons_self
  | w :: vs, j, i + 1, v, hc, h => by
    have hw : w.category = 1 := hc w List.mem_cons_self
    have := args_mem vs (j + 1) i v (fun x hx => hc x (List.mem_cons_of_mem _ hx)) (by simpa using h)
    refine List.mem_cons_of_mem _ ?_
    rw [if_neg (by omega)]
    rw [show j + (i + 1) = j + 1 + i by omega]
    exact this
theorem sl_len : ∀ (vs : List Value), (∀ v ∈ vs, v.category = 1) → (lg_sl vs).length = vs.length
  | [], _ => rfl
  | w :: vs, hc => by
    have hw : w.category = 1 := hc w List.mem_cons_self
    have := sl_len vs (fun x hx => hc x (List.mem_cons_of_mem _ hx))
    unfold lg_sl at this ⊢
    rw [List.flatMap_cons, if_neg (by omega), List.length_append, this]
    simp [Nat.add_comm]
theorem LH.entry (E : XE) (as : List cv) {n : Nat} (h : as.length ≤ n) : LH E ((lg_sl (as.map (xv E)) ++ List.replicate (n - (lg_sl (as.map (xv E))).length) Slot.unset).toArray) n (as.map some ++ List.replicate (n - as.length) none) := by
  have hc : ∀ v ∈ as.map (xv E), v.category = 1 := fun v hv => by
    obtain ⟨x, -, rfl⟩ := List.mem_map.mp hv
    exact xv_cat E x
  have hl := sl_len _ hc
  have h0 := lv_entry (as.map (xv E)) (n := n) (by rw [hl, List.length_map]; exact h)
  refine ⟨by simp; omega, h0.1, h0.2.1, fun q hq => ?_⟩
  obtain ⟨v, h1, h2⟩ := mem_lp.mp hq
  refine h0.2.2 q ?_
  have hq1 : q.1 < as.length := by
    refine Nat.lt_of_not_le fun hge => ?_
    rw [List.getElem?_append_right (by rw [List.length_map]; exact hge), List.getElem?_replicate] at h1
    split at h1
    · cases h1
    · cases h1
  rw [List.getElem?_append_left (by rw [List.length_map]; exact hq1), List.getElem?_map] at h1
  have h3 : as[q.1]? = some v := by
    cases ha : as[q.1]? with
    | none => rw [ha] at h1; cases h1
    | some w => rw [ha] at h1; simp at h1; rw [h1]
  have := args_mem (as.map (xv E)) 0 q.1 q.2 hc (by rw [List.getElem?_map, h3, h2]; rfl)
  rw [Nat.zero_add] at this
  exact this
theorem cat_sum (E : XE) : ∀ (S : List cv), ((S.map (xv E)).map fun v => v.category).sum = S.length
  | [] => rfl
  | v :: S => by
    rw [List.map_cons, List.map_cons, List.sum_cons, cat_sum E S, xv_cat, List.length_cons, Nat.add_comm]
/-- kinds of cells: (0, class), (1, length) ints, (2, length) booleans, (3, length) rules; (9, 0) none -/
def kk (K a : Nat) : Nat × Nat := if a < K then kd a else (9, 0)
def fv (E : XE) (ci n k : Nat) (I : mI) (P : mP) : Value := if tk ci k = 2 then (if P n k = 0 then .null else .ref (xad E (P n k))) else .int (I n k)
def en (E : XE) (n : Nat) (I : mI) (P : mP) : va_E :=
  if (kd n).1 = 0 then .inr ((kd n).2, (List.range (nf (kd n).2)).map (fun k => fv E (kd n).2 n k I P))
  else if (kd n).1 = 1 then .inl (xI E, (kd n).2, .inl (I n))
  else if (kd n).1 = 2 then .inl (xB E, (kd n).2, .inl (I n))
  else .inl (xR E, (kd n).2, .inr (.inr (.inr (.inr (fun k => if P n k = 0 then none else some (xad E (P n k)))))))
def wl (E : XE) (K : Nat) (I : mI) (P : mP) : va_W := (List.range (K - 2)).map (fun j => (xh E + j, en E (j + 2) I P))
def tys_ (E : XE) : List (ClassId × FieldType) := [(xI E, .int), (xB E, .boolean), (xR E, .object "RecipeRewriter$Rule")]
def Wo (E : XE) (K : Nat) (I : mI) (P : mP) (H : Heap) : Prop := va_P (xD E) cls_ (wl E K I P) H
def Tb (E : XE) (U : State) : Prop := va_K (xD E) cls_ (tys_ E) U ∧ (∀ w ∈ wsN, va_Nw w U) ∧ va_AO "RecipeRewriter$Rule" U
def ce (n : Nat) : Nat := if (kd n).1 = 0 then nf (kd n).2 else (kd n).2
def sl : Nat → Nat
  | 0 => 0
  | n + 1 => sl n + ce n
theorem sl_mono {a b : Nat} (h : a ≤ b) : sl a ≤ sl b := by
  induction h with
  | refl => exact Nat.le_refl _
  | step _ ih => exact Nat.le_trans ih (Nat.le_add_right _ _)
theorem wl_get {E : XE} {K n : Nat} {I : mI} {P : mP} (h2 : 2 ≤ n) (hK : n < K) : (wl E K I P)[n - 2]? = some (xad E n, en E n I P) := by
  unfold wl xad
  rw [List.getElem?_map, List.getElem?_range (by omega), if_neg (by omega)]
  simp only [Option.map_some]
  rw [show n - 2 + 2 = n by omega]
theorem wl_set {E : XE} {K n : Nat} {I I' : mI} {P P' : mP} (h2 : 2 ≤ n) (ho : ∀ m, m ≠ n → en E m I' P' = en E m I P) : (wl E K I P).set (n - 2) (xad E n, en E n I' P') = wl E K I' P' := by
  apply List.ext_getElem?
  intro j
  rw [List.getElem?_set]
  unfold wl xad
  rw [List.length_map, List.length_range, List.getElem?_map, List.getElem?_map]
  by_cases hj : n - 2 = j
  · rw [if_pos hj]
    by_cases hl : n - 2 < K - 2
    · rw [if_pos hl, List.getElem?_range (by omega), if_neg (by omega)]
      subst hj
      simp only [Option.map_some]
      rw [show n - 2 + 2 = n by omega]
    · rw [if_neg hl, List.getElem?_eq_none (by rw [List.length_range]; omega)]
      rfl
  · rw [if_neg hj]
    by_cases hl : j < K - 2
    · rw [List.getElem?_range hl]
      simp only [Option.map_some]
      rw [ho (j + 2) (by omega)]
    · rw [List.getElem?_eq_none (by rw [List.length_range]; omega)]
      rfl
theorem wl_push {E : XE} {K : Nat} {I : mI} {P : mP} (h2 : 2 ≤ K) : wl E (K + 1) I P = wl E K I P ++ [(xh E + (K - 2), en E K I P)] := by
  unfold wl
  rw [show K + 1 - 2 = (K - 2) + 1 by omega, List.range_succ, List.map_append]
  simp only [List.map_cons, List.map_nil]
  rw [show K - 2 + 2 = K by omega]
theorem wl_D (E : XE) (K : Nat) (I : mI) (P : mP) : va_D (xA E) (wl E K I P) := by
  have hg : ∀ (i : Nat) (q : Nat × va_E), (wl E K I P)[i]? = some q → q.1 = xh E + i := by
    intro i q h
    unfold wl at h
    rw [List.getElem?_map] at h
    cases hi : (List.range (K - 2))[i]? with
    | none => rw [hi] at h; cases h
    | some j =>
      rw [hi] at h
      have := (List.getElem?_eq_some_iff.mp hi)
      obtain ⟨h1, h2⟩ := this
      rw [List.getElem_range] at h2
      subst h2
      cases h
      rfl
  refine ⟨fun i j p q hp hq he => ?_, fun k q hq => ?_⟩
  · have h1 := hg i p hp
    have h2 := hg j q hq
    omega
  · have h1 := hg k q hq
    unfold xA
    omega
theorem en_congr {E : XE} {m : Nat} {I I' : mI} {P P' : mP} (hI : I' m = I m) (hP : P' m = P m) : en E m I' P' = en E m I P := by
  unfold en fv
  rw [hI, hP]
def sI (I : mI) (a : Nat) (f : Nat → Int32) : mI := fun m => if m = a then f else I m
def sP (P : mP) (a : Nat) (f : Nat → Nat) : mP := fun m => if m = a then f else P m
def uI (I : mI) (a k : Nat) (v : Int32) : mI := sI I a (upd (I a) k v)
def uP (P : mP) (a k v : Nat) : mP := sP P a (va_up (P a) k v)
theorem sI_s {I : mI} {a : Nat} {f : Nat → Int32} : sI I a f a = f := if_pos rfl
theorem sI_n {I : mI} {a m : Nat} {f : Nat → Int32} (h : m ≠ a) : sI I a f m = I m := if_neg h
theorem sP_s {P : mP} {a : Nat} {f : Nat → Nat} : sP P a f a = f := if_pos rfl
theorem sP_n {P : mP} {a m : Nat} {f : Nat → Nat} (h : m ≠ a) : sP P a f m = P m := if_neg h
theorem kk_in {K a : Nat} (h : (kk K a).1 ≠ 9) : a < K ∧ kk K a = kd a ∧ 2 ≤ a := by
  unfold kk at h ⊢
  by_cases ha : a < K
  · rw [if_pos ha] at h ⊢
    refine ⟨ha, rfl, ?_⟩
    refine Nat.le_of_not_lt fun hl => h ?_
    have h2 : a = 0 ∨ a = 1 := by omega
    rcases h2 with rfl | rfl
    · exact congrArg Prod.fst kd_0
    · exact congrArg Prod.fst kd_1
  · rw [if_neg ha] at h
    exact absurd rfl h
theorem kk_obj {K a ci : Nat} (h : kk K a = (0, ci)) : a < K ∧ kd a = (0, ci) ∧ 2 ≤ a := by
  obtain ⟨h1, h2, h3⟩ := kk_in (K := K) (a := a) (by rw [h]; show (0 : Nat) ≠ 9; decide)
  exact ⟨h1, h2.symm.trans h, h3⟩
theorem en_obj {E : XE} {n ci : Nat} {I : mI} {P : mP} (h : kd n = (0, ci)) : en E n I P = .inr (ci, (List.range (nf ci)).map (fun k => fv E ci n k I P)) := by
  unfold en
  rw [h]
  rfl
theorem en_int {E : XE} {n : Nat} {I : mI} {P : mP} (h : (kd n).1 = 1) : en E n I P = .inl (xI E, (kd n).2, .inl (I n)) := by
  unfold en
  rw [if_neg (by rw [h]; decide), if_pos h]
theorem en_boo {E : XE} {n : Nat} {I : mI} {P : mP} (h : (kd n).1 = 2) : en E n I P = .inl (xB E, (kd n).2, .inl (I n)) := by
  unfold en
  rw [if_neg (by rw [h]; decide), if_neg (by rw [h]; decide), if_pos h]
theorem en_row {E : XE} {n : Nat} {I : mI} {P : mP} (h : (kd n).1 = 3) : en E n I P = .inl (xR E, (kd n).2, .inr (.inr (.inr (.inr (fun k => if P n k = 0 then none else some (xad E (P n k))))))) := by
  unfold en
  rw [if_neg (by rw [h]; decide), if_neg (by rw [h]; decide), if_neg (by rw [h]; decide)]
theorem wl_congr {E : XE} {K : Nat} {I I' : mI} {P P' : mP} (h : ∀ m, m < K → en E m I' P' = en E m I P) : wl E K I' P' = wl E K I P := by
  unfold wl
  apply List.map_congr_left
  intro j hj
  have := List.mem_range.mp hj
  rw [h (j + 2) (by omega)]
theorem fs_get {E : XE} {ci a N f : Nat} {I : mI} {P : mP} (hf : f < N) : ((List.range N).map (fun k => fv E ci a k I P))[f]? = some (fv E ci a f I P) := by
  rw [List.getElem?_map, List.getElem?_range hf]
  rfl
theorem fs_setI {E : XE} {ci a N f : Nat} {I : mI} {P : mP} {v : Int32} (hf : tk ci f ≠ 2) : ((List.range N).map (fun k => fv E ci a k I P)).set f (.int v) = (List.range N).map (fun k => fv E ci a k (uI I a f v) P) := by
  apply List.ext_getElem?
  intro j
  rw [List.getElem?_set, List.length_map, List.length_range, List.getElem?_map, List.getElem?_map]
  by_cases hj : f = j
  · subst hj
    rw [if_pos rfl]
    by_cases hl : f < N
    · rw [if_pos hl, List.getElem?_range hl]
      simp [fv, hf, uI, sI, upd]
    · rw [if_neg hl, List.getElem?_eq_none (by rw [List.length_range]; omega)]
      rfl
  · rw [if_neg hj]
    by_cases hl : j < N
    · rw [List.getElem?_range hl]
      have hj' : ¬ j = f := fun e => hj e.symm
      simp [fv, uI, sI, upd, hj']
    · rw [List.getElem?_eq_none (by rw [List.length_range]; omega)]
      rfl
theorem fs_setP {E : XE} {ci a N f v : Nat} {I : mI} {P : mP} (hf : tk ci f = 2) (hv : v ≠ 0) : ((List.range N).map (fun k => fv E ci a k I P)).set f (.ref (xad E v)) = (List.range N).map (fun k => fv E ci a k I (uP P a f v)) := by
  apply List.ext_getElem?
  intro j
  rw [List.getElem?_set, List.length_map, List.length_range, List.getElem?_map, List.getElem?_map]
  by_cases hj : f = j
  · subst hj
    rw [if_pos rfl]
    by_cases hl : f < N
    · rw [if_pos hl, List.getElem?_range hl]
      simp [fv, hf, uP, sP, va_up, hv]
    · rw [if_neg hl, List.getElem?_eq_none (by rw [List.length_range]; omega)]
      rfl
  · rw [if_neg hj]
    by_cases hl : j < N
    · rw [List.getElem?_range hl]
      have hj' : ¬ j = f := fun e => hj e.symm
      simp [fv, uP, sP, va_up, hj']
    · rw [List.getElem?_eq_none (by rw [List.length_range]; omega)]
      rfl
theorem nf_of {ci : Nat} {q : vw_C} (h : cls_[ci]? = some q) : nf ci = q.2.2 := by
  unfold nf
  rw [h]
def Cx (E : XE) (y K0 : Nat) (p : Program) (s : State) (m : MethodId) (args : Array Value) (meth : Method) (c : Code) : Prop :=
  p.tables.exec = Jvm.exec ∧ c.code = mB y ∧ c.maxLocals = mX y ∧ s.vm.findClass (mN y).cls = some m.cls ∧ (∀ w ∈ wsA, w.before args s = true) ∧ (mK y = 1 → meth.name = (mN y).name) ∧ Tb E s ∧ va_X (xb E) (xL E) (xx E) s s.heap ∧ xb E < xh E ∧ 2 ≤ K0 ∧ s.heap.size = xh E + (K0 - 2)
theorem Cx.x {E : XE} {y K0 : Nat} {p : Program} {s : State} {m : MethodId} {args : Array Value} {meth : Method} {c : Code} (h : Cx E y K0 p s m args meth c) : p.tables.exec = Jvm.exec := h.1
theorem Cx.b {E : XE} {y K0 : Nat} {p : Program} {s : State} {m : MethodId} {args : Array Value} {meth : Method} {c : Code} (h : Cx E y K0 p s m args meth c) : c.code = mB y := h.2.1
theorem Cx.m {E : XE} {y K0 : Nat} {p : Program} {s : State} {m : MethodId} {args : Array Value} {meth : Method} {c : Code} (h : Cx E y K0 p s m args meth c) : c.maxLocals = mX y := h.2.2.1
theorem Cx.o {E : XE} {y K0 : Nat} {p : Program} {s : State} {m : MethodId} {args : Array Value} {meth : Method} {c : Code} (h : Cx E y K0 p s m args meth c) : s.vm.findClass (mN y).cls = some m.cls := h.2.2.2.1
theorem Cx.t {E : XE} {y K0 : Nat} {p : Program} {s : State} {m : MethodId} {args : Array Value} {meth : Method} {c : Code} (h : Cx E y K0 p s m args meth c) : ∀ w ∈ wsA, w.before args s = true := h.2.2.2.2.1
theorem Cx.n {E : XE} {y K0 : Nat} {p : Program} {s : State} {m : MethodId} {args : Array Value} {meth : Method} {c : Code} (h : Cx E y K0 p s m args meth c) : mK y = 1 → meth.name = (mN y).name := h.2.2.2.2.2.1
theorem Cx.T {E : XE} {y K0 : Nat} {p : Program} {s : State} {m : MethodId} {args : Array Value} {meth : Method} {c : Code} (h : Cx E y K0 p s m args meth c) : Tb E s := h.2.2.2.2.2.2.1
theorem Cx.K {E : XE} {y K0 : Nat} {p : Program} {s : State} {m : MethodId} {args : Array Value} {meth : Method} {c : Code} (h : Cx E y K0 p s m args meth c) : va_K (xD E) cls_ (tys_ E) s := h.2.2.2.2.2.2.1.1
theorem Cx.X {E : XE} {y K0 : Nat} {p : Program} {s : State} {m : MethodId} {args : Array Value} {meth : Method} {c : Code} (h : Cx E y K0 p s m args meth c) : va_X (xb E) (xL E) (xx E) s s.heap := h.2.2.2.2.2.2.2.1
theorem Cx.bl {E : XE} {y K0 : Nat} {p : Program} {s : State} {m : MethodId} {args : Array Value} {meth : Method} {c : Code} (h : Cx E y K0 p s m args meth c) : xb E < xh E := h.2.2.2.2.2.2.2.2.1
theorem Cx.k {E : XE} {y K0 : Nat} {p : Program} {s : State} {m : MethodId} {args : Array Value} {meth : Method} {c : Code} (h : Cx E y K0 p s m args meth c) : 2 ≤ K0 := h.2.2.2.2.2.2.2.2.2.1
theorem Cx.s {E : XE} {y K0 : Nat} {p : Program} {s : State} {m : MethodId} {args : Array Value} {meth : Method} {c : Code} (h : Cx E y K0 p s m args meth c) : s.heap.size = xh E + (K0 - 2) := h.2.2.2.2.2.2.2.2.2.2
def Rt (E : XE) (y K0 K1 : Nat) (Q : Int32 → mI → mP → Prop) (p : Program) (e : Env) (R : Room) (s : State) (m : MethodId) (args : Array Value) (below : List Frame) (meth : Method) (c : Code) (Z : State → Prop) : Prop :=
  ∀ (r : Int32) (I : mI) (P : mP) (H : Heap) (ls : Array Slot) (locs : List Loc) (pc : Nat), Q r I P → Wo E K1 I P H → va_S (xA E) s.heap H locs →
    (mR y = none → decode (mB y) pc = .ok (.return_, 1) → W p (xl E) e R s m args below meth c H locs (K1 - K0) (sl K1 - sl K0) Z (F0 m pc ls [])) ∧
    (∀ ty, mR y = some ty → narrow ty (.int r) = .int r → decode (mB y) pc = .ok (.ireturn, 1) → W p (xl E) e R s m args below meth c H locs (K1 - K0) (sl K1 - sl K0) Z (F0 m pc ls [.int r]))
def V (E : XE) (d y K1 : Nat) (Q : Int32 → mI → mP → Prop) (pc : Nat) (L : List (Option cv)) (S : List cv) (K : Nat) (I : mI) (P : mP) : Prop :=
  ∀ (p : Program) (e : Env) (R : Room) (s : State) (m : MethodId) (args : Array Value) (below : List Frame) (meth : Method) (c : Code) (Z : State → Prop) (K0 : Nat),
    Cx E y K0 p s m args meth c → Rt E y K0 K1 Q p e R s m args below meth c Z → d ≤ R.frames → 64 * d ≤ R.locals → K1 - K0 ≤ R.cells → sl K1 - sl K0 ≤ R.slots → K0 ≤ K → K ≤ K1 →
    ∀ (H : Heap) (ls : Array Slot) (locs : List Loc), Wo E K I P H → va_S (xA E) s.heap H locs → LH E ls (mX y) L →
      W p (xl E) e R s m args below meth c H locs (K - K0) (sl K - sl K0) Z (F0 m pc ls (S.map (xv E)))
/-- a smaller demand on what comes back; more room -/
theorem V.mono {E : XE} {d d' y K1 pc K : Nat} {Q Q' : Int32 → mI → mP → Prop} {L : List (Option cv)} {S : List cv} {I : mI} {P : mP} (h : V E d y K1 Q pc L S K I P) (hd : d ≤ d') (hq : ∀ r I P, Q r I P → Q' r I P) : V E d' y K1 Q' pc L S K I P :=
  fun p e R s m args below meth c Z K0 hC hR h1 h2 => h p e R s m args below meth c Z K0 hC (fun r I P H ls locs pc a => hR r I P H ls locs pc (hq r I P a)) (Nat.le_trans hd h1) (Nat.le_trans (Nat.mul_le_mul_left 64 hd) h2)
theorem kc_eq (n : Int) : Int32.ofInt n = kc n := by
  cases n with
  | ofNat k => exact Int32.ofInt_eq_ofNat
  | negSucc k =>
    show Int32.ofInt (Int.negSucc k) = -(nI (k + 1))
    rw [Int.negSucc_eq, Int32.ofInt_neg]
    congr 1
def pI (S : List cv) (k : Int32 → List cv → Prop) : Prop := match S with
  | .inl x :: r => k x r
  | _ => False
def pR (S : List cv) (k : Nat → List cv → Prop) : Prop := match S with
  | .inr x :: r => k x r
  | _ => False
def gI (L : List (Option cv)) (i : Nat) (k : Int32 → Prop) : Prop := match L[i]? with
  | some (some (.inl x)) => k x
  | _ => False
def gR (L : List (Option cv)) (i : Nat) (k : Nat → Prop) : Prop := match L[i]? with
  | some (some (.inr x)) => k x
  | _ => False
theorem pI_e {S : List cv} {k : Int32 → List cv → Prop} (h : pI S k) : ∃ x r, S = .inl x :: r ∧ k x r := by
  unfold pI at h
  split at h
  · exact ⟨_, _, rfl, h⟩
  · exact h.elim
theorem pR_e {S : List cv} {k : Nat → List cv → Prop} (h : pR S k) : ∃ x r, S = .inr x :: r ∧ k x r := by
  unfold pR at h
  split at h
  · exact ⟨_, _, rfl, h⟩
  · exact h.elim
theorem gI_e {L : List (Option cv)} {i : Nat} {k : Int32 → Prop} (h : gI L i k) : ∃ x, L[i]? = some (some (.inl x)) ∧ k x := by
  unfold gI at h
  split at h
  · rename_i x hx
    exact ⟨x, hx, h⟩
  · exact h.elim
theorem gR_e {L : List (Option cv)} {i : Nat} {k : Nat → Prop} (h : gR L i k) : ∃ x, L[i]? = some (some (.inr x)) ∧ k x := by
  unfold gR at h
  split at h
  · rename_i x hx
    exact ⟨x, hx, h⟩
  · exact h.elim
abbrev kont : Type := List (Option cv) → List cv → Nat → mI → mP → Prop
def gtF (inf : List Nat) (L : List (Option cv)) (S : List cv) (K : Nat) (I : mI) (P : mP) (k : kont) : Prop := match inf with
  | [_, ci, f, rf] => pR S fun a r => kk K a = (0, ci) ∧ (match rf with
    | 2 => P a f ≠ 0 ∧ k L (.inr (P a f) :: r) K I P
    | _ => k L (.inl (I a f) :: r) K I P)
  | _ => False
def ptF (inf : List Nat) (L : List (Option cv)) (S : List cv) (K : Nat) (I : mI) (P : mP) (k : kont) : Prop := match inf with
  | [_, ci, f, rf] => (match rf with
    | 2 => pR S fun v r => pR r fun a r => kk K a = (0, ci) ∧ v ≠ 0 ∧ k L r K I (uP P a f v)
    | 1 => pI S fun v r => pR r fun a r => kk K a = (0, ci) ∧ narrow .boolean (.int v) = .int v ∧ fits .boolean (.int v) = true ∧ k L r K (uI I a f v) P
    | _ => pI S fun v r => pR r fun a r => kk K a = (0, ci) ∧ k L r K (uI I a f v) P)
  | _ => False
theorem gtF_e {inf : List Nat} {L : List (Option cv)} {S : List cv} {K : Nat} {I : mI} {P : mP} {k : kont} (h : gtF inf L S K I P k) : ∃ j ci f rf, inf = [j, ci, f, rf] ∧ ∃ a r, S = .inr a :: r ∧ kk K a = (0, ci) ∧ ((rf = 2 ∧ P a f ≠ 0 ∧ k L (.inr (P a f) :: r) K I P) ∨ (rf ≠ 2 ∧ k L (.inl (I a f) :: r) K I P)) := by
  unfold gtF at h
  split at h
  · obtain ⟨a, r, hs, h1, h2⟩ := pR_e h
    refine ⟨_, _, _, _, rfl, a, r, hs, h1, ?_⟩
    split at h2
    · exact Or.inl ⟨rfl, h2⟩
    · rename_i hne
      exact Or.inr ⟨hne, h2⟩
  · exact h.elim
theorem ptF_e {inf : List Nat} {L : List (Option cv)} {S : List cv} {K : Nat} {I : mI} {P : mP} {k : kont} (h : ptF inf L S K I P k) : ∃ j ci f rf, inf = [j, ci, f, rf] ∧ ((rf = 2 ∧ pR S fun v r => pR r fun a r => kk K a = (0, ci) ∧ v ≠ 0 ∧ k L r K I (uP P a f v)) ∨
    (rf = 1 ∧ pI S fun v r => pR r fun a r => kk K a = (0, ci) ∧ narrow .boolean (.int v) = .int v ∧ fits .boolean (.int v) = true ∧ k L r K (uI I a f v) P) ∨ (rf ≠ 2 ∧ rf ≠ 1 ∧ pI S fun v r => pR r fun a r => kk K a = (0, ci) ∧ k L r K (uI I a f v) P)) := by
  unfold ptF at h
  split at h
  · refine ⟨_, _, _, _, rfl, ?_⟩
    split at h
    · exact Or.inl ⟨rfl, h⟩
    · exact Or.inr (Or.inl ⟨rfl, h⟩)
    · rename_i h1 h2
      exact Or.inr (Or.inr ⟨h1, h2, h⟩)
  · exact h.elim
/-- the instructions that go on to the next -/
def sx (E : XE) (K1 : Nat) (i : Jvm.ClassFile.Instr) (inf : List Nat) (L : List (Option cv)) (S : List cv) (K : Nat) (I : mI) (P : mP) (k : kont) : Prop := match i with
  | .iconst n => k L (.inl (kc n) :: S) K I P
  | .bipush n => k L (.inl (kc n) :: S) K I P
  | .sipush n => k L (.inl (kc n) :: S) K I P
  | .iload n => gI L n fun x => k L (.inl x :: S) K I P
  | .iload_n n => gI L n.val fun x => k L (.inl x :: S) K I P
  | .aload n => gR L n fun x => k L (.inr x :: S) K I P
  | .aload_n n => gR L n.val fun x => k L (.inr x :: S) K I P
  | .istore n => pI S fun x r => k (L.set n (some (.inl x))) r K I P
  | .istore_n n => pI S fun x r => k (L.set n.val (some (.inl x))) r K I P
  | .astore n => pR S fun x r => k (L.set n (some (.inr x))) r K I P
  | .astore_n n => pR S fun x r => k (L.set n.val (some (.inr x))) r K I P
  | .iinc n z => gI L n fun x => k (L.set n (some (.inl (x + kc z)))) S K I P
  | .iadd => pI S fun y r => pI r fun x r => k L (.inl (x + y) :: r) K I P
  | .isub => pI S fun y r => pI r fun x r => k L (.inl (x - y) :: r) K I P
  | .imul => pI S fun y r => pI r fun x r => k L (.inl (x * y) :: r) K I P
  | .iand => pI S fun y r => pI r fun x r => k L (.inl (x &&& y) :: r) K I P
  | .ior => pI S fun y r => pI r fun x r => k L (.inl (x ||| y) :: r) K I P
  | .ishl => pI S fun y r => pI r fun x r => k L (.inl (x <<< (y &&& 31)) :: r) K I P
  | .dup => (match S with
    | v :: r => k L (v :: v :: r) K I P
    | [] => False)
  | .getfield _ => gtF inf L S K I P k
  | .putfield _ => ptF inf L S K I P k
  | .iaload => (match inf with
    | [] => pI S fun j r => pR r fun a r => (kk K a).1 = 1 ∧ vp_in j (kk K a).2 ∧ k L (.inl (I a j.toNatClampNeg) :: r) K I P
    | _ => pI S fun j r => pR r fun a r => a = 1 ∧ vp_in j (xL E) ∧ k L (.inl (xx E j.toNatClampNeg) :: r) K I P)
  | .iastore => pI S fun v r => pI r fun j r => pR r fun a r => (kk K a).1 = 1 ∧ vp_in j (kk K a).2 ∧ k L r K (uI I a j.toNatClampNeg v) P
  | .baload => pI S fun j r => pR r fun a r => (kk K a).1 = 2 ∧ vp_in j (kk K a).2 ∧ k L (.inl (I a j.toNatClampNeg) :: r) K I P
  | .bastore => pI S fun v r => pI r fun j r => pR r fun a r => (kk K a).1 = 2 ∧ vp_in j (kk K a).2 ∧ k L r K (uI I a j.toNatClampNeg (vp_nar .boolean v)) P
  | .aaload => pI S fun j r => pR r fun a r => (kk K a).1 = 3 ∧ vp_in j (kk K a).2 ∧ P a j.toNatClampNeg ≠ 0 ∧ k L (.inr (P a j.toNatClampNeg) :: r) K I P
  | .aastore => pR S fun v r => pI r fun j r => pR r fun a r => (kk K a).1 = 3 ∧ vp_in j (kk K a).2 ∧ kk K v = (0, ciRule) ∧ k L r K I (uP P a j.toNatClampNeg v)
  | .arraylength => (match inf with
    | [] => pR S fun a r => 1 ≤ (kk K a).1 ∧ (kk K a).1 ≤ 3 ∧ k L (.inl (nI (kk K a).2) :: r) K I P
    | _ => pR S fun a r => a = 1 ∧ k L (.inl (nI (xL E)) :: r) K I P)
  | .new _ => (match inf with
    | [_, ci] => kd K = (0, ci) ∧ K < K1 ∧ k L (.inr K :: S) (K + 1) (sI I K fun _ => 0) (sP P K fun _ => 0)
    | _ => False)
  | .newarray .int => pI S fun n r => kd K = (1, n.toNatClampNeg) ∧ ¬ n < 0 ∧ K < K1 ∧ k L (.inr K :: r) (K + 1) (sI I K fun _ => 0) (sP P K fun _ => 0)
  | .newarray .boolean => pI S fun n r => kd K = (2, n.toNatClampNeg) ∧ ¬ n < 0 ∧ K < K1 ∧ k L (.inr K :: r) (K + 1) (sI I K fun _ => 0) (sP P K fun _ => 0)
  | .anewarray _ => pI S fun n r => kd K = (3, n.toNatClampNeg) ∧ ¬ n < 0 ∧ K < K1 ∧ k L (.inr K :: r) (K + 1) (sI I K fun _ => 0) (sP P K fun _ => 0)
  | _ => False
def rcv (q ci K : Nat) (T : List cv) (X : Prop) : Prop := match q with
  | 2 => X
  | 1 => (match T with
    | .inr _ :: _ => X
    | _ => False)
  | _ => (match T with
    | .inr a :: _ => kk K a = (0, ci) ∧ X
    | _ => False)
def alk (al K K1 : Nat) (X : Prop) : Prop := match al with
  | 0 => X
  | _ => K + al ≤ K1 ∧ X
theorem rcv_e {q ci K : Nat} {T : List cv} {X : Prop} (h : rcv q ci K T X) : rcv q ci K T True ∧ X := by
  unfold rcv at h ⊢
  split at h
  · exact ⟨trivial, h⟩
  · split at h
    · exact ⟨trivial, h⟩
    · exact h.elim
  · split at h
    · exact ⟨⟨h.1, trivial⟩, h.2⟩
    · exact h.elim
theorem alk_e {al K K1 : Nat} {X : Prop} (h : alk al K K1 X) : (K + al ≤ K1 ∨ al = 0) ∧ X := by
  unfold alk at h
  split at h
  · exact ⟨Or.inr rfl, h⟩
  · exact ⟨Or.inl h.1, h.2⟩
/-- the JDK's methods: Object.<init>, max, min, arraycopy -/
def jx (d w : Nat) (L : List (Option cv)) (S : List cv) (K : Nat) (I : mI) (P : mP) (k : kont) : Prop := match w with
  | 0 => (match Nat.ble S.length 9, d with
    | true, _ + 1 => pR S fun _ r => k L r K I P
    | _, _ => False)
  | 1 => (match Nat.ble S.length 10, d with
    | true, _ + 1 => pI S fun y r => pI r fun x r => k L (.inl (if x < y then y else x) :: r) K I P
    | _, _ => False)
  | 2 => (match Nat.ble S.length 10, d with
    | true, _ + 1 => pI S fun y r => pI r fun x r => k L (.inl (if y < x then y else x) :: r) K I P
    | _, _ => False)
  | _ => (match Nat.ble S.length 13, d with
    | true, _ + 1 => pI S fun n r => pI r fun dp r => pR r fun a1 r => pI r fun sp r => pR r fun a0 r => (kk K a0).1 = 1 ∧ (kk K a1).1 = 1 ∧ ¬ sp < 0 ∧ ¬ dp < 0 ∧ ¬ n < 0 ∧
        sp.toNatClampNeg + n.toNatClampNeg ≤ (kk K a0).2 ∧ dp.toNatClampNeg + n.toNatClampNeg ≤ (kk K a1).2 ∧ k L r K (sI I a1 (va_cpy (I a0) (I a1) sp.toNatClampNeg dp.toNatClampNeg n.toNatClampNeg)) P
    | _, _ => False)
def rtk (rt : Nat) (r : Int32) (T : List cv) : List cv := match rt with
  | 0 => T
  | _ => .inl r :: T
/-- a call: of a method of ours, or of one of the JDK's -/
def cx (E : XE) (d K1 : Nat) (inf : List Nat) (L : List (Option cv)) (S : List cv) (K : Nat) (I : mI) (P : mP) (k : kont) : Prop := match inf with
  | [_, c, n, al, rt, mx, q, ci] => (match Nat.beq (S.take n).length n, Nat.ble (S.drop n).length 8, d with
    | true, true, d' + 1 => rcv q ci K (S.drop (n - 1)) (alk al K K1 (V E d' c (K + al) (fun r I' P' => k L (rtk rt r (S.drop n)) (K + al) I' P') 0 ((S.take n).reverse.map some ++ List.replicate (mx - n) none) [] K I P))
    | _, _, _ => False)
  | [_, w] => jx d w L S K I P k
  | _ => False
def ivk (q ix : Nat) : Jvm.ClassFile.Instr := match q with
  | 0 => .invokevirtual ix
  | 1 => .invokespecial ix
  | _ => .invokestatic ix
theorem jx0_e {d K : Nat} {L : List (Option cv)} {S : List cv} {I : mI} {P : mP} {k : kont} (h : jx d 0 L S K I P k) : ∃ d', d = d' + 1 ∧ S.length ≤ 9 ∧ pR S fun _ r => k L r K I P := by
  have h : (match (generalizing := false) Nat.ble S.length 9, d with
    | true, _ + 1 => pR S fun _ r => k L r K I P
    | _, _ => False) := h
  split at h
  · exact ⟨_, rfl, Nat.le_of_ble_eq_true (by assumption), h⟩
  · exact h.elim
theorem jx1_e {d K : Nat} {L : List (Option cv)} {S : List cv} {I : mI} {P : mP} {k : kont} (h : jx d 1 L S K I P k) : ∃ d', d = d' + 1 ∧ S.length ≤ 10 ∧ pI S fun y r => pI r fun x r => k L (.inl (if x < y then y else x) :: r) K I P := by
  have h : (match (generalizing := false) Nat.ble S.length 10, d with
    | true, _ + 1 => pI S fun y r => pI r fun x r => k L (.inl (if x < y then y else x) :: r) K I P
    | _, _ => False) := h
  split at h
  · exact ⟨_, rfl, Nat.le_of_ble_eq_true (by assumption), h⟩
  · exact h.elim
theorem jx2_e {d K : Nat} {L : List (Option cv)} {S : List cv} {I : mI} {P : mP} {k : kont} (h : jx d 2 L S K I P k) : ∃ d', d = d' + 1 ∧ S.length ≤ 10 ∧ pI S fun y r => pI r fun x r => k L (.inl (if y < x then y else x) :: r) K I P := by
  have h : (match (generalizing := false) Nat.ble S.length 10, d with
    | true, _ + 1 => pI S fun y r => pI r fun x r => k L (.inl (if y < x then y else x) :: r) K I P
    | _, _ => False) := h
  split at h
  · exact ⟨_, rfl, Nat.le_of_ble_eq_true (by assumption), h⟩
  · exact h.elim
theorem jx3_e {d w K : Nat} {L : List (Option cv)} {S : List cv} {I : mI} {P : mP} {k : kont} (h : jx d (w + 3) L S K I P k) : ∃ d', d = d' + 1 ∧ S.length ≤ 13 ∧ pI S fun n r => pI r fun dp r => pR r fun a1 r => pI r fun sp r => pR r fun a0 r => (kk K a0).1 = 1 ∧ (kk K a1).1 = 1 ∧ ¬ sp < 0 ∧ ¬ dp < 0 ∧ ¬ n < 0 ∧
        sp.toNatClampNeg + n.toNatClampNeg ≤ (kk K a0).2 ∧ dp.toNatClampNeg + n.toNatClampNeg ≤ (kk K a1).2 ∧ k L r K (sI I a1 (va_cpy (I a0) (I a1) sp.toNatClampNeg dp.toNatClampNeg n.toNatClampNeg)) P := by
  have h : (match (generalizing := false) Nat.ble S.length 13, d with
    | true, _ + 1 => pI S fun n r => pI r fun dp r => pR r fun a1 r => pI r fun sp r => pR r fun a0 r => (kk K a0).1 = 1 ∧ (kk K a1).1 = 1 ∧ ¬ sp < 0 ∧ ¬ dp < 0 ∧ ¬ n < 0 ∧
        sp.toNatClampNeg + n.toNatClampNeg ≤ (kk K a0).2 ∧ dp.toNatClampNeg + n.toNatClampNeg ≤ (kk K a1).2 ∧ k L r K (sI I a1 (va_cpy (I a0) (I a1) sp.toNatClampNeg dp.toNatClampNeg n.toNatClampNeg)) P
    | _, _ => False) := h
  split at h
  · exact ⟨_, rfl, Nat.le_of_ble_eq_true (by assumption), h⟩
  · exact h.elim
theorem cx8_e {E : XE} {d K1 K j c n al rt mx q ci : Nat} {L : List (Option cv)} {S : List cv} {I : mI} {P : mP} {k : kont} (h : cx E d K1 [j, c, n, al, rt, mx, q, ci] L S K I P k) : ∃ d', d = d' + 1 ∧ (S.take n).length = n ∧ (S.drop n).length ≤ 8 ∧ (K + al ≤ K1 ∨ al = 0) ∧ rcv q ci K (S.drop (n - 1)) True ∧
    V E d' c (K + al) (fun r I' P' => k L (rtk rt r (S.drop n)) (K + al) I' P') 0 ((S.take n).reverse.map some ++ List.replicate (mx - n) none) [] K I P := by
  unfold cx at h
  dsimp only at h
  split at h
  · rename_i hb1 hb2
    obtain ⟨hr, h⟩ := rcv_e h
    obtain ⟨hal, h⟩ := alk_e h
    exact ⟨_, rfl, Nat.eq_of_beq_eq_true hb1, Nat.le_of_ble_eq_true hb2, hal, hr, h⟩
  · exact h.elim
def br1 (c : Jvm.ClassFile.Cond) (x : Int32) (A B : Prop) : Prop := match c with
  | .eq => (x = 0 → A) ∧ (¬ x = 0 → B)
  | .ne => (¬ x = 0 → A) ∧ (x = 0 → B)
  | .lt => (x < 0 → A) ∧ (¬ x < 0 → B)
  | .ge => (0 ≤ x → A) ∧ (¬ 0 ≤ x → B)
  | .gt => (0 < x → A) ∧ (¬ 0 < x → B)
  | .le => (x ≤ 0 → A) ∧ (¬ x ≤ 0 → B)
def br2 (c : Jvm.ClassFile.Cond) (x y : Int32) (A B : Prop) : Prop := match c with
  | .eq => (x = y → A) ∧ (¬ x = y → B)
  | .ne => (¬ x = y → A) ∧ (x = y → B)
  | .lt => (x < y → A) ∧ (¬ x < y → B)
  | .ge => (y ≤ x → A) ∧ (¬ y ≤ x → B)
  | .gt => (y < x → A) ∧ (¬ y < x → B)
  | .le => (x ≤ y → A) ∧ (¬ x ≤ y → B)
def jm (inf : List Nat) (f : Nat → Prop) : Prop := match inf with
  | t :: _ => f t
  | [] => False
/-- a switch: keys in order, their targets, behind them the rest -/
def sw (x : Int32) (D : Prop) (f : Nat → Prop) : List Int → List Nat → Prop
  | k :: ks, t :: ts => (x = kc k → f t) ∧ (¬ x = kc k → sw x D f ks ts)
  | [], _ => D
  | _, [] => False
def retk (a b : Nat) (X : Prop) : Prop := match Nat.beq a b with
  | true => X
  | false => a = b ∧ X
theorem retk_e {a b : Nat} {X : Prop} (h : retk a b X) : a = b ∧ X := by
  unfold retk at h
  split at h
  · rename_i hb
    exact ⟨Nat.eq_of_beq_eq_true hb, h⟩
  · exact h
theorem retk_i {a b : Nat} {X : Prop} (e : a = b) (h : X) : retk a b X := by
  unfold retk
  split
  · exact h
  · exact ⟨e, h⟩
def zb (r : Int32) : Prop := narrow .boolean (.int r) = .int r
theorem zb0 : zb (nI 0) := rfl
theorem zb1 : zb (nI 1) := rfl
def keysT (lo : Int) : Nat → List Int
  | 0 => []
  | n + 1 => lo :: keysT (lo + 1) n
def maskL : Nat → List (Option cv) → List (Option cv)
  | _, [] => []
  | m, v :: r => (match m % 2 with
    | 1 => v
    | _ => none) :: maskL (m / 2) r
theorem mask_len : ∀ (m : Nat) (L : List (Option cv)), (maskL m L).length = L.length
  | _, [] => rfl
  | m, v :: r => by
    show (maskL (m / 2) r).length + 1 = r.length + 1
    rw [mask_len (m / 2) r]
theorem mask_get : ∀ (m : Nat) (L : List (Option cv)) (i : Nat) (v : cv), (maskL m L)[i]? = some (some v) → L[i]? = some (some v)
  | _, [], i, v, h => by simp [maskL] at h
  | m, w :: r, 0, v, h => by
    have h : (match m % 2 with
      | 1 => w
      | _ => none) = some v := by simpa [maskL] using h
    split at h
    · simp [h]
    · cases h
  | m, w :: r, i + 1, v, h => by
    have h : (maskL (m / 2) r)[i]? = some (some v) := by simpa [maskL] using h
    have := mask_get (m / 2) r i v h
    simpa using this
theorem V.lw {E : XE} {d y K1 pc K : Nat} {Q : Int32 → mI → mP → Prop} {L : List (Option cv)} {S : List cv} {I : mI} {P : mP} (m : Nat) (h : V E d y K1 Q pc (maskL m L) S K I P) : V E d y K1 Q pc L S K I P :=
  fun p e R s m' args below meth c Z K0 hC hR a1 a2 a3 a4 a5 a6 H ls locs hW hS hL => h p e R s m' args below meth c Z K0 hC hR a1 a2 a3 a4 a5 a6 H ls locs hW hS
    ⟨(mask_len m L).trans hL.1, hL.2.1, hL.2.2.1, fun q hq => hL.2.2.2 q (by
      obtain ⟨v, h1, h2⟩ := mem_lp.mp hq
      exact mem_lp.mpr ⟨v, mask_get m L q.1 v h1, h2⟩)⟩
def hq (hd : Nat) (fr : Bool) : Option Nat := match hd, fr with
  | m + 1, false => some m
  | _, _ => none
/-- one instruction, with what is said of the rest -/
def wst (E : XE) (d y K1 : Nat) (Q : Int32 → mI → mP → Prop) (rc : List En → kont) (fr : Bool) (pc hd : Nat) (i : Jvm.ClassFile.Instr) (inf : List Nat) (es : List En) (L : List (Option cv)) (S : List cv) (K : Nat) (I : mI) (P : mP) : Prop :=
  match hq hd fr with
  | some m => V E d y K1 Q pc (maskL m L) S K I P
  | none => match i with
    | .goto _ => jm inf fun t => rc ((tc y).drop t) L S K I P
    | .ifCond c _ => pI S fun x r => br1 c x (jm inf fun t => rc ((tc y).drop t) L r K I P) (rc es L r K I P)
    | .if_icmp c _ => pI S fun x2 r => pI r fun x1 r => br2 c x1 x2 (jm inf fun t => rc ((tc y).drop t) L r K I P) (rc es L r K I P)
    | .tableswitch _ lo hi _ => pI S fun x r => sw x (jm inf fun t => rc ((tc y).drop t) L r K I P) (fun t => rc ((tc y).drop t) L r K I P) (keysT lo (hi - lo + 1).toNat) inf.tail
    | .lookupswitch _ ps => pI S fun x r => sw x (jm inf fun t => rc ((tc y).drop t) L r K I P) (fun t => rc ((tc y).drop t) L r K I P) (ps.toList.map Prod.fst) inf.tail
    | .ireturn => (match S with
      | [.inl r] => (match inf with
        | [1] => retk K K1 (zb r ∧ Q r I P)
        | _ => retk K K1 (Q r I P))
      | _ => False)
    | .return_ => (match S with
      | [] => retk K K1 (Q (nI 0) I P)
      | _ => False)
    | .invokevirtual _ => cx E d K1 inf L S K I P (rc es)
    | .invokespecial _ => cx E d K1 inf L S K I P (rc es)
    | .invokestatic _ => cx E d K1 inf L S K I P (rc es)
    | i => sx E K1 i inf L S K I P (rc es)
def wpx (E : XE) (d y K1 : Nat) (Q : Int32 → mI → mP → Prop) : Nat → Bool → List En → kont
  | 0, _, _ => fun _ _ _ _ _ => False
  | n + 1, fr, es => match es with
    | [] => fun _ _ _ _ _ => False
    | (pc, hd, i, inf) :: es' => wst E d y K1 Q (wpx E d y K1 Q n false) fr pc hd i inf es'
end
section
theorem beq_e {a b : Nat} (h : Nat.beq a b = true) : a = b := Nat.eq_of_beq_eq_true h
theorem okF_e {y ix j ci f rf : Nat} (h : okF y ix [j, ci, f, rf] = true) : ∃ C T N, cls_[ci]? = some (C, T, N) ∧ f < N ∧ rf = tk ci f ∧ ((nsF j = 0 ∧ Jvm.Cond.fieldLink (cn (mO y)) ix C (T f).2.1 (T f).2.2.1 ∈ wsA) ∨ (nsF j = 1 ∧ Jvm.Cond.fieldLinkNest (cn (mO y)) ix C (T f).2.1 (T f).2.2.1 hostN ∈ wsN)) := by
  unfold okF at h
  dsimp only at h
  cases hj : flT[j]? with
  | none => rw [hj] at h; cases h
  | some q =>
    obtain ⟨o, ix', ci', f', ns, wi⟩ := q
    rw [hj] at h
    simp only [Bool.and_eq_true] at h
    obtain ⟨⟨⟨⟨h1, h2⟩, h3⟩, h4⟩, h5⟩ := h
    have e1 := beq_e h1
    have e2 := beq_e h2
    have e3 := beq_e h3
    have e4 := beq_e h4
    have e5 := beq_e h5
    subst e1; subst e2; subst e3; subst e4; subst e5
    obtain ⟨C, T, N, g1, g2, g3⟩ := ck_fl hj
    refine ⟨C, T, N, g1, g2, rfl, ?_⟩
    unfold nsF
    rw [hj]
    exact g3
theorem okL_e {y ix j ci : Nat} (h : okL y ix [j, ci] = true) : ∃ C T N, cls_[ci]? = some (C, T, N) ∧ Jvm.Cond.classLink (cn (mO y)) ix C ∈ wsA := by
  unfold okL at h
  dsimp only at h
  cases hj : clT[j]? with
  | none => rw [hj] at h; cases h
  | some q =>
    obtain ⟨o, ix', ci', wi⟩ := q
    rw [hj] at h
    simp only [Bool.and_eq_true] at h
    obtain ⟨⟨h1, h2⟩, h3⟩ := h
    have e1 := beq_e h1
    have e2 := beq_e h2
    have e3 := beq_e h3
    subst e1; subst e2; subst e3
    exact ck_cl hj
theorem Tb.warm {E : XE} {s U : State} (hW : s.WarmedH U.vm) (h : Tb E s) : Tb E U := by
  refine ⟨va_K.moved hW.alike h.1, fun w hw => ?_, va_AO.moved hW.alike h.2.2⟩
  have h1 := h.2.1 w hw
  rcases wsN_two hw with ⟨a, i, b, n, d, h2, rfl⟩ | ⟨a, i, x, h2, rfl⟩
  · exact va_Nw.warmF hW h1
  · exact va_Nw.warmM hW h1
theorem Tb.calling {E : XE} {U : State} {g : JFrame} {mk : MethodId} {a : Array Value} (h : Tb E U) : Tb E (U.calling g mk a) := by
  refine ⟨va_K.moved (u := U) (U := U.calling g mk a) (Vm.Alike.refl U.vm) h.1, fun w hw => ?_, va_AO.moved (u := U) (U := U.calling g mk a) (Vm.Alike.refl U.vm) h.2.2⟩
  have h1 := h.2.1 w hw
  rcases wsN_two hw with ⟨a, i, b, n, d, h2, rfl⟩ | ⟨a, i, x, h2, rfl⟩
  · exact va_Nw.same rfl (u := U) (U := U.calling g mk _) rfl h1
  · exact va_Nw.same rfl (u := U) (U := U.calling g mk _) rfl h1
section SZ
variable {p : Program} {l : Launch} {e : Env} {R : Room} {s : State} {m : MethodId} {args : Array Value} {below : List Frame} {meth : Method} {c : Code} {H : Heap} {locs : List Loc} {cells slots : Nat} {Q : State → Prop}
theorem W.sz {g : JFrame} (k : H.size ≤ s.heap.size + cells → W p l e R s m args below meth c H locs cells slots Q g) : W p l e R s m args below meth c H locs cells slots Q g :=
  fun T hT X => k (by rw [← hT]; exact X.heapSize) T hT X
theorem W.csx {g : JFrame} {c1 s1 : Nat} (h1 : c1 = cells) (h2 : s1 = slots) (k : W p l e R s m args below meth c H locs c1 s1 Q g) : W p l e R s m args below meth c H locs cells slots Q g := by
  subst h1; subst h2; exact k
end SZ
theorem hp_size {E : XE} {y K0 K : Nat} {p : Program} {s : State} {m : MethodId} {args : Array Value} {meth : Method} {c : Code} {I : mI} {P : mP} {H : Heap} {locs : List Loc} (hC : Cx E y K0 p s m args meth c) (hW : Wo E K I P H) (hS : va_S (xA E) s.heap H locs) (hk : K0 ≤ K) (hz : H.size ≤ s.heap.size + (K - K0)) : H.size = xh E + (K - 2) := by
  have h1 := hC.k
  have h2 := hC.s
  have h3 := hS.1
  by_cases hK : K = K0
  · subst hK
    omega
  · have h4 := (hW (K - 1 - 2) _ (wl_get (E := E) (K := K) (n := K - 1) (I := I) (P := P) (by omega) (by omega))).lt
    dsimp only at h4
    unfold xad at h4
    rw [if_neg (by omega)] at h4
    omega
theorem sl_cut {K0 K1 K2 : Nat} (h1 : K0 ≤ K1) (h2 : K1 ≤ K2) : sl K1 - sl K0 + (sl K2 - sl K1) = sl K2 - sl K0 := by
  have := sl_mono h1
  have := sl_mono h2
  omega
/-- a new cell at the heap's end -/
theorem wo_new {E : XE} {y K0 K : Nat} {p : Program} {s : State} {m : MethodId} {args : Array Value} {meth : Method} {c : Code} {I : mI} {P : mP} {H H1 : Heap} {locs : List Loc} (hC : Cx E y K0 p s m args meth c) (hW : Wo E K I P H) (hS : va_S (xA E) s.heap H locs) (h2 : 2 ≤ K) (hh : H.size = xh E + (K - 2)) (z1 : H1.size = H.size + 1) (o1 : ∀ q, q < H.size → H1[q]? = H[q]?)
    (hn : va_at (xD E) cls_ (xh E + (K - 2), en E K (sI I K fun _ => 0) (sP P K fun _ => 0)) H1) : Wo E (K + 1) (sI I K fun _ => 0) (sP P K fun _ => 0) H1 ∧ va_S (xA E) s.heap H1 locs := by
  constructor
  · unfold Wo
    rw [wl_push h2, wl_congr (I := I) (P := P) (fun m hm => en_congr (sI_n (by omega)) (sP_n (by omega)))]
    refine va_P.app (va_P.kept hW (fun k q hq => o1 q.1 ((hW k q hq).lt))) (fun k x hx => ?_)
    have hz : k < 1 := (List.getElem?_eq_some_iff.mp hx).1
    rw [show k = 0 by omega] at hx
    cases hx
    exact hn
  · exact ⟨Nat.le_trans hS.1 (by omega), fun x h1 h2 => (o1 x (Nat.lt_of_lt_of_le h1 hS.1)).trans (hS.2.1 x h1 h2), hS.2.2⟩
theorem tk2 {ci k : Nat} (h : tk ci k = 2) (a : Nat) : narrow (tyF ci k) (.ref a) = .ref a ∧ fits (tyF ci k) (.ref a) = true ∧ defaultValue (tyF ci k) = .null := by
  unfold tk at h
  split at h <;> first | (rename_i he; rw [he]; exact ⟨rfl, rfl, rfl⟩) | cases h
theorem tk0 {ci k : Nat} (h : tk ci k = 0) (v : Int32) : tyF ci k = .int := by
  unfold tk at h
  split at h <;> first | assumption | cases h
theorem tk1 {ci k : Nat} (h : tk ci k = 1) : tyF ci k = .boolean := by
  unfold tk at h
  split at h <;> first | assumption | cases h
theorem tk_le {ci k : Nat} (h : tk ci k ≠ 2) (h3 : tk ci k ≤ 2) : defaultValue (tyF ci k) = .int 0 := by
  unfold tk at h h3
  split at h <;> first | (rename_i he; rw [he]; rfl) | exact absurd rfl h | (exfalso; simp_all)
theorem xv_n {E : XE} {K : Nat} (h2 : 2 ≤ K) : xv E (.inr K) = .ref (xh E + (K - 2)) := by
  show Value.ref (xad E K) = _
  unfold xad
  rw [if_neg (by omega)]
end
section
set_option maxHeartbeats 4000000 in
theorem sx_sound {E : XE} {d y K1 pc K : Nat} {Q : Int32 → mI → mP → Prop} {i : Jvm.ClassFile.Instr} {inf : List Nat} {L : List (Option cv)} {S : List cv} {I : mI} {P : mP} {k : kont} (hy : y < nM) (hd : decode (mB y) pc = .ok (i, il i)) (ho : okI y pc i inf = true) (h : sx E K1 i inf L S K I P k)
    (hk : ∀ L S K I P, k L S K I P → V E d y K1 Q (pc + il i) L S K I P) : V E d y K1 Q pc L S K I P := by
  cases i
  case iconst n =>
    exact fun p e R s m args below meth c Z K0 hC hR a1 a2 a3 a4 a5 a6 H ls locs hW hS hL => lv_iconst hC.x hC.b hd (kc_eq n) (hk _ _ _ _ _ h p e R s m args below meth c Z K0 hC hR a1 a2 a3 a4 a5 a6 H ls locs hW hS hL)
  case bipush n =>
    exact fun p e R s m args below meth c Z K0 hC hR a1 a2 a3 a4 a5 a6 H ls locs hW hS hL => lv_bipush hC.x hC.b hd (of_decide_eq_true ho) (hk _ _ _ _ _ h p e R s m args below meth c Z K0 hC hR a1 a2 a3 a4 a5 a6 H ls locs hW hS hL)
  case sipush n =>
    exact fun p e R s m args below meth c Z K0 hC hR a1 a2 a3 a4 a5 a6 H ls locs hW hS hL => lv_sipush hC.x hC.b hd (of_decide_eq_true ho) (hk _ _ _ _ _ h p e R s m args below meth c Z K0 hC hR a1 a2 a3 a4 a5 a6 H ls locs hW hS hL)
  case iload n =>
    obtain ⟨x, hx, h⟩ := gI_e h
    exact fun p e R s m args below meth c Z K0 hC hR a1 a2 a3 a4 a5 a6 H ls locs hW hS hL => lv_iload hC.x hC.b hd (hL.rd hx) (hk _ _ _ _ _ h p e R s m args below meth c Z K0 hC hR a1 a2 a3 a4 a5 a6 H ls locs hW hS hL)
  case iload_n n =>
    obtain ⟨x, hx, h⟩ := gI_e h
    exact fun p e R s m args below meth c Z K0 hC hR a1 a2 a3 a4 a5 a6 H ls locs hW hS hL => lv_iload_n hC.x hC.b hd rfl (hL.rd hx) (hk _ _ _ _ _ h p e R s m args below meth c Z K0 hC hR a1 a2 a3 a4 a5 a6 H ls locs hW hS hL)
  case aload n =>
    obtain ⟨x, hx, h⟩ := gR_e h
    exact fun p e R s m args below meth c Z K0 hC hR a1 a2 a3 a4 a5 a6 H ls locs hW hS hL => lv_aload hC.x hC.b hd (hL.rd hx) (hk _ _ _ _ _ h p e R s m args below meth c Z K0 hC hR a1 a2 a3 a4 a5 a6 H ls locs hW hS hL)
  case aload_n n =>
    obtain ⟨x, hx, h⟩ := gR_e h
    exact fun p e R s m args below meth c Z K0 hC hR a1 a2 a3 a4 a5 a6 H ls locs hW hS hL => lv_aload_n hC.x hC.b hd rfl (hL.rd hx) (hk _ _ _ _ _ h p e R s m args below meth c Z K0 hC hR a1 a2 a3 a4 a5 a6 H ls locs hW hS hL)
  case istore n =>
    obtain ⟨x, r, rfl, h⟩ := pI_e h
    exact fun p e R s m args below meth c Z K0 hC hR a1 a2 a3 a4 a5 a6 H ls locs hW hS hL => lv_istore hC.x hC.b hd hL.2 (Nat.le_of_ble_eq_true ho) rfl (fun ls' hls => hk _ _ _ _ _ h p e R s m args below meth c Z K0 hC hR a1 a2 a3 a4 a5 a6 H ls' locs hW hS (LH.set (v := .inl x) hL hls))
  case istore_n n =>
    obtain ⟨x, r, rfl, h⟩ := pI_e h
    exact fun p e R s m args below meth c Z K0 hC hR a1 a2 a3 a4 a5 a6 H ls locs hW hS hL => lv_istore_n hC.x hC.b hd rfl hL.2 (Nat.le_of_ble_eq_true ho) rfl (fun ls' hls => hk _ _ _ _ _ h p e R s m args below meth c Z K0 hC hR a1 a2 a3 a4 a5 a6 H ls' locs hW hS (LH.set (v := .inl x) hL hls))
  case astore n =>
    obtain ⟨x, r, rfl, h⟩ := pR_e h
    exact fun p e R s m args below meth c Z K0 hC hR a1 a2 a3 a4 a5 a6 H ls locs hW hS hL => lv_astore hC.x hC.b hd hL.2 (Nat.le_of_ble_eq_true ho) rfl (fun ls' hls => hk _ _ _ _ _ h p e R s m args below meth c Z K0 hC hR a1 a2 a3 a4 a5 a6 H ls' locs hW hS (LH.set (v := .inr x) hL hls))
  case astore_n n =>
    obtain ⟨x, r, rfl, h⟩ := pR_e h
    exact fun p e R s m args below meth c Z K0 hC hR a1 a2 a3 a4 a5 a6 H ls locs hW hS hL => lv_astore_n hC.x hC.b hd rfl hL.2 (Nat.le_of_ble_eq_true ho) rfl (fun ls' hls => hk _ _ _ _ _ h p e R s m args below meth c Z K0 hC hR a1 a2 a3 a4 a5 a6 H ls' locs hW hS (LH.set (v := .inr x) hL hls))
  case iinc n z =>
    obtain ⟨x, hx, h⟩ := gI_e h
    obtain ⟨j, hj⟩ := List.getElem?_of_mem (mem_lp.mpr ⟨.inl x, hx, rfl⟩ : (n, xv E (.inl x)) ∈ lp E L)
    exact fun p e R s m args below meth c Z K0 hC hR a1 a2 a3 a4 a5 a6 H ls locs hW hS hL => lv_iinc hC.x hC.b hd hL.2 hj (congrArg (x + ·) (kc_eq z)) (Nat.le_of_ble_eq_true ho) rfl (fun ls' hls => hk _ _ _ _ _ h p e R s m args below meth c Z K0 hC hR a1 a2 a3 a4 a5 a6 H ls' locs hW hS (LH.set (v := .inl (x + kc z)) hL hls))
  case iadd =>
    obtain ⟨y', r, rfl, h⟩ := pI_e h
    obtain ⟨x', r', rfl, h⟩ := pI_e h
    exact fun p e R s m args below meth c Z K0 hC hR a1 a2 a3 a4 a5 a6 H ls locs hW hS hL => lv_iadd hC.x hC.b hd (hk _ _ _ _ _ h p e R s m args below meth c Z K0 hC hR a1 a2 a3 a4 a5 a6 H ls locs hW hS hL)
  case isub =>
    obtain ⟨y', r, rfl, h⟩ := pI_e h
    obtain ⟨x', r', rfl, h⟩ := pI_e h
    exact fun p e R s m args below meth c Z K0 hC hR a1 a2 a3 a4 a5 a6 H ls locs hW hS hL => lv_isub hC.x hC.b hd (hk _ _ _ _ _ h p e R s m args below meth c Z K0 hC hR a1 a2 a3 a4 a5 a6 H ls locs hW hS hL)
  case imul =>
    obtain ⟨y', r, rfl, h⟩ := pI_e h
    obtain ⟨x', r', rfl, h⟩ := pI_e h
    exact fun p e R s m args below meth c Z K0 hC hR a1 a2 a3 a4 a5 a6 H ls locs hW hS hL => lv_imul hC.x hC.b hd (hk _ _ _ _ _ h p e R s m args below meth c Z K0 hC hR a1 a2 a3 a4 a5 a6 H ls locs hW hS hL)
  case iand =>
    obtain ⟨y', r, rfl, h⟩ := pI_e h
    obtain ⟨x', r', rfl, h⟩ := pI_e h
    exact fun p e R s m args below meth c Z K0 hC hR a1 a2 a3 a4 a5 a6 H ls locs hW hS hL => lv_iand hC.x hC.b hd (hk _ _ _ _ _ h p e R s m args below meth c Z K0 hC hR a1 a2 a3 a4 a5 a6 H ls locs hW hS hL)
  case ior =>
    obtain ⟨y', r, rfl, h⟩ := pI_e h
    obtain ⟨x', r', rfl, h⟩ := pI_e h
    exact fun p e R s m args below meth c Z K0 hC hR a1 a2 a3 a4 a5 a6 H ls locs hW hS hL => lv_ior hC.x hC.b hd (hk _ _ _ _ _ h p e R s m args below meth c Z K0 hC hR a1 a2 a3 a4 a5 a6 H ls locs hW hS hL)
  case ishl =>
    obtain ⟨y', r, rfl, h⟩ := pI_e h
    obtain ⟨x', r', rfl, h⟩ := pI_e h
    exact fun p e R s m args below meth c Z K0 hC hR a1 a2 a3 a4 a5 a6 H ls locs hW hS hL => lv_ishl hC.x hC.b hd (hk _ _ _ _ _ h p e R s m args below meth c Z K0 hC hR a1 a2 a3 a4 a5 a6 H ls locs hW hS hL)
  case dup =>
    cases S with
    | nil => exact False.elim h
    | cons v r => exact fun p e R s m args below meth c Z K0 hC hR a1 a2 a3 a4 a5 a6 H ls locs hW hS hL => lv_dup hC.x hC.b hd (xv_cat E v) (hk _ _ _ _ _ h p e R s m args below meth c Z K0 hC hR a1 a2 a3 a4 a5 a6 H ls locs hW hS hL)
  case getfield ix =>
    have h : gtF inf L S K I P k := h
    have ho : okF y ix inf = true := ho
    obtain ⟨j, ci, f, rf, rfl, a, r, rfl, hka, h⟩ := gtF_e h
    obtain ⟨C, T, N, hc, hf, hrf, hlk⟩ := okF_e ho
    obtain ⟨hcw, -, -, hdc, -⟩ := ck_cls hc
    obtain ⟨haK, hkd, ha2⟩ := kk_obj hka
    have hnf : nf ci = N := nf_of hc
    have he : (wl E K I P)[a - 2]? = some (xad E a, .inr (ci, (List.range N).map (fun k => fv E ci a k I P))) := by
      rw [wl_get ha2 haK, en_obj hkd, hnf]
    have hown := ck_own hy
    have go : ∀ v : cv, fv E ci a f I P = xv E v → k L (v :: r) K I P → V E d y K1 Q pc L (.inr a :: r) K I P := by
      intro v hv h
      have hv : ((List.range N).map (fun k => fv E ci a k I P))[f]? = some (xv E v) := by rw [fs_get hf, hv]
      rcases hlk with ⟨-, hlk⟩ | ⟨-, hlk⟩
      · exact fun p e R s m args below meth c Z K0 hC hR a1 a2 a3 a4 a5 a6 H ls locs hW hS hL => va_get hC.x hC.b hC.t hcw (by rw [hown]; exact hC.o) hC.K hW (a - 2) he hc f hf (hC.t _ hlk) (fun x hx => by rw [hdc f hf] at hx; exact hx) hv hd (hk _ _ _ _ _ h p e R s m args below meth c Z K0 hC hR a1 a2 a3 a4 a5 a6 H ls locs hW hS hL)
      · exact fun p e R s m args below meth c Z K0 hC hR a1 a2 a3 a4 a5 a6 H ls locs hW hS hL => va_getN hC.x hC.b hC.t hcw (by rw [hown]; exact hC.o) hC.K hW (a - 2) he hc f hf (va_Nw.use rfl (hC.T.2.1 _ hlk)) (fun x hx => by rw [hdc f hf] at hx; exact hx) hv hd (hk _ _ _ _ _ h p e R s m args below meth c Z K0 hC hR a1 a2 a3 a4 a5 a6 H ls locs hW hS hL)
    rcases h with ⟨hr2, hp, h⟩ | ⟨hne, h⟩
    · exact go (.inr (P a f)) (by unfold fv; rw [if_pos (hrf.symm.trans hr2), if_neg hp]; rfl) h
    · exact go (.inl (I a f)) (by unfold fv; rw [if_neg (fun q => hne (hrf.trans q))]; rfl) h
  case putfield ix =>
    have h : ptF inf L S K I P k := h
    have ho : (okF y ix inf && okW y inf) = true := ho
    rw [Bool.and_eq_true] at ho
    obtain ⟨ho, how⟩ := ho
    obtain ⟨j, ci, f, rf, rfl, h2⟩ := ptF_e h
    clear h
    obtain ⟨C, T, N, hc, hf, hrf, hlk⟩ := okF_e ho
    obtain ⟨hcw, hty, hnm, hdc, -, -, htk⟩ := ck_cls hc
    have hnf : nf ci = N := nf_of hc
    have hown := ck_own hy
    have go : ∀ (a : Nat) (v : cv) (r : List cv) (I' : mI) (P' : mP), kk K a = (0, ci) → narrow (tyF ci f) (xv E v) = xv E v → fits (tyF ci f) (xv E v) = true → (∀ m, m ≠ a → I' m = I m) → (∀ m, m ≠ a → P' m = P m) →
        ((List.range N).map (fun k => fv E ci a k I P)).set f (xv E v) = (List.range N).map (fun k => fv E ci a k I' P') → k L r K I' P' → V E d y K1 Q pc L (v :: .inr a :: r) K I P := by
      intro a v r I' P' hka hn1 hn2 hI hP hfs h
      obtain ⟨haK, hkd, ha2⟩ := kk_obj hka
      have he : (wl E K I P)[a - 2]? = some (xad E a, .inr (ci, (List.range N).map (fun k => fv E ci a k I P))) := by
        rw [wl_get ha2 haK, en_obj hkd, hnf]
      have hset : (wl E K I P).set (a - 2) (xad E a, .inr (ci, ((List.range N).map (fun k => fv E ci a k I P)).set f (xv E v))) = wl E K I' P' := by
        rw [hfs, ← hnf, ← en_obj hkd]
        exact wl_set ha2 (fun m hm => en_congr (hI m hm) (hP m hm))
      have hlen : f < ((List.range N).map (fun k => fv E ci a k I P)).length := by rw [List.length_map, List.length_range]; exact hf
      rcases hlk with ⟨-, hlk⟩ | ⟨hns, hlk⟩
      · cases hfin : (T f).2.2.2 with
        | false => exact fun p e R s m args below meth c Z K0 hC hR a1 a2 a3 a4 a5 a6 H ls locs hW hS hL => va_put hC.x hC.b hC.t hcw (tyF ci) hty hnm (by rw [hown]; exact hC.o) hC.K hW (wl_D E K I P) hS (a - 2) he hc f hf (hC.t _ hlk) (fun x hx => by rw [hdc f hf] at hx; exact hx) hfin (hty f hf) hn1 hn2 hlen hd (fun H1 locs1 hP1 _ hS1 => hk _ _ _ _ _ h p e R s m args below meth c Z K0 hC hR a1 a2 a3 a4 a5 a6 H1 ls locs1 (by rw [hset] at hP1; exact hP1) hS1 hL)
        | true =>
          have hw : fin ci f = true := by unfold fin; rw [hc]; exact hfin
          unfold okW at how
          dsimp only at how
          rw [hw] at how
          simp only [Bool.not_true, Bool.false_or, Bool.and_eq_true] at how
          have hmk := ck_ini hy (beq_e how.1.1)
          have hoc := beq_e how.1.2
          exact fun p e R s m args below meth c Z K0 hC hR a1 a2 a3 a4 a5 a6 H ls locs hW hS hL => va_putF hC.x hC.b hC.t hcw (tyF ci) hty hnm (by rw [hown]; exact hC.o) hC.K hW (wl_D E K I P) hS (a - 2) he hc f hf (hC.t _ hlk) (fun x hx => by rw [hdc f hf] at hx; exact hx) hfin ((hC.n (beq_e how.1.1)).trans hmk) (by rw [hdc f hf, hoc]; exact (ck_cn hc).symm) (hty f hf) hn1 hn2 hlen hd (fun H1 locs1 hP1 _ hS1 => hk _ _ _ _ _ h p e R s m args below meth c Z K0 hC hR a1 a2 a3 a4 a5 a6 H1 ls locs1 (by rw [hset] at hP1; exact hP1) hS1 hL)
      · have hfin : (T f).2.2.2 = false := by
          cases hfin : (T f).2.2.2 with
          | false => rfl
          | true =>
            have hw : fin ci f = true := by unfold fin; rw [hc]; exact hfin
            unfold okW at how
            dsimp only at how
            rw [hw] at how
            simp only [Bool.not_true, Bool.false_or, Bool.and_eq_true] at how
            have := beq_e how.2
            omega
        exact fun p e R s m args below meth c Z K0 hC hR a1 a2 a3 a4 a5 a6 H ls locs hW hS hL => va_putN hC.x hC.b hC.t hcw (tyF ci) hty hnm (by rw [hown]; exact hC.o) hC.K hW (wl_D E K I P) hS (a - 2) he hc f hf (va_Nw.use rfl (hC.T.2.1 _ hlk)) (fun x hx => by rw [hdc f hf] at hx; exact hx) hfin (hty f hf) hn1 hn2 hlen hd (fun H1 locs1 hP1 _ hS1 => hk _ _ _ _ _ h p e R s m args below meth c Z K0 hC hR a1 a2 a3 a4 a5 a6 H1 ls locs1 (by rw [hset] at hP1; exact hP1) hS1 hL)
    rcases h2 with ⟨hr2, g⟩ | ⟨hr1, g⟩ | ⟨hn2, hn1, g⟩
    · obtain ⟨v, r, rfl, g2⟩ := pR_e g
      obtain ⟨a, r, rfl, hka, hv, g3⟩ := pR_e g2
      have h2 := tk2 (hrf.symm.trans hr2) (xad E v)
      exact go a (.inr v) r I (uP P a f v) hka h2.1 h2.2.1 (fun _ _ => rfl) (fun m hm => sP_n hm) (fs_setP (hrf.symm.trans hr2) hv) g3
    · obtain ⟨v, r, rfl, g2⟩ := pI_e g
      obtain ⟨a, r, rfl, hka, hv1, hv2, g3⟩ := pR_e g2
      have h2 := tk1 (hrf.symm.trans hr1)
      exact go a (.inl v) r (uI I a f v) P hka (by rw [h2]; exact hv1) (by rw [h2]; exact hv2) (fun m hm => sI_n hm) (fun _ _ => rfl) (fs_setI (by rw [← hrf, hr1]; decide)) g3
    · obtain ⟨v, r, rfl, g2⟩ := pI_e g
      obtain ⟨a, r, rfl, hka, g3⟩ := pR_e g2
      have h0 : tk ci f = 0 := by
        have := htk f hf
        omega
      have h2 := tk0 h0 v
      exact go a (.inl v) r (uI I a f v) P hka (by rw [h2]; rfl) (by rw [h2]; rfl) (fun m hm => sI_n hm) (fun _ _ => rfl) (fs_setI (by rw [h0]; decide)) g3
  case iaload =>
    cases inf with
    | nil =>
      obtain ⟨j, r, rfl, h⟩ := pI_e h
      obtain ⟨a, r, rfl, hka, hin, h⟩ := pR_e h
      obtain ⟨haK, hkd, ha2⟩ := kk_in (K := K) (a := a) (by rw [hka]; decide)
      rw [hkd] at hka hin
      have he : (wl E K I P)[a - 2]? = some (xad E a, .inl (xI E, (kd a).2, .inl (I a))) := by rw [wl_get ha2 haK, en_int hka]
      exact fun p e R s m args below meth c Z K0 hC hR a1 a2 a3 a4 a5 a6 H ls locs hW hS hL => va_iald hC.x hC.b hC.K hW (a - 2) 0 he rfl hin hd (hk _ _ _ _ _ h p e R s m args below meth c Z K0 hC hR a1 a2 a3 a4 a5 a6 H ls locs hW hS hL)
    | cons _ _ =>
      obtain ⟨j, r, rfl, h⟩ := pI_e h
      obtain ⟨a, r, hs, ha, hin, h2⟩ := pR_e h
      subst hs
      subst ha
      exact fun p e R s m args below meth c Z K0 hC hR a1 a2 a3 a4 a5 a6 H ls locs hW hS hL => va_sld (b := xb E) hC.x hC.b hC.X (by have := hC.bl; have := hC.s; omega) (fun q => absurd hC.bl (Nat.not_lt.mpr q)) hS hin hd (hk _ _ _ _ _ h2 p e R s m args below meth c Z K0 hC hR a1 a2 a3 a4 a5 a6 H ls locs hW hS hL)
  case arraylength =>
    cases inf with
    | nil =>
      obtain ⟨a, r, rfl, hka, hka3, h⟩ := pR_e h
      obtain ⟨haK, hkd, ha2⟩ := kk_in (K := K) (a := a) (by omega)
      rw [hkd] at hka hka3 h
      have hw := wl_get (E := E) (I := I) (P := P) ha2 haK
      have h3 : (kd a).1 = 1 ∨ (kd a).1 = 2 ∨ (kd a).1 = 3 := by omega
      rcases h3 with h3 | h3 | h3
      · rw [en_int h3] at hw
        exact fun p e R s m args below meth c Z K0 hC hR a1 a2 a3 a4 a5 a6 H ls locs hW hS hL => va_alen hC.x hC.b hC.K hW (a - 2) 0 hw rfl rfl hd (hk _ _ _ _ _ h p e R s m args below meth c Z K0 hC hR a1 a2 a3 a4 a5 a6 H ls locs hW hS hL)
      · rw [en_boo h3] at hw
        exact fun p e R s m args below meth c Z K0 hC hR a1 a2 a3 a4 a5 a6 H ls locs hW hS hL => va_alen hC.x hC.b hC.K hW (a - 2) 1 hw rfl rfl hd (hk _ _ _ _ _ h p e R s m args below meth c Z K0 hC hR a1 a2 a3 a4 a5 a6 H ls locs hW hS hL)
      · rw [en_row h3] at hw
        exact fun p e R s m args below meth c Z K0 hC hR a1 a2 a3 a4 a5 a6 H ls locs hW hS hL => va_alen hC.x hC.b hC.K hW (a - 2) 2 hw rfl rfl hd (hk _ _ _ _ _ h p e R s m args below meth c Z K0 hC hR a1 a2 a3 a4 a5 a6 H ls locs hW hS hL)
    | cons _ _ =>
      obtain ⟨a, r, hs, ha, h2⟩ := pR_e h
      subst hs
      subst ha
      exact fun p e R s m args below meth c Z K0 hC hR a1 a2 a3 a4 a5 a6 H ls locs hW hS hL => va_slen (b := xb E) hC.x hC.b hC.X (by have := hC.bl; have := hC.s; omega) (fun q => absurd hC.bl (Nat.not_lt.mpr q)) hS hd (hk _ _ _ _ _ h2 p e R s m args below meth c Z K0 hC hR a1 a2 a3 a4 a5 a6 H ls locs hW hS hL)
  case iastore =>
    obtain ⟨v, r, rfl, h⟩ := pI_e h
    obtain ⟨j, r, rfl, h⟩ := pI_e h
    obtain ⟨a, r, rfl, hka, hin, h⟩ := pR_e h
    obtain ⟨haK, hkd, ha2⟩ := kk_in (K := K) (a := a) (by rw [hka]; decide)
    rw [hkd] at hka hin
    have he : (wl E K I P)[a - 2]? = some (xad E a, .inl (xI E, (kd a).2, .inl (I a))) := by rw [wl_get ha2 haK, en_int hka]
    have hset : (wl E K I P).set (a - 2) (xad E a, .inl (xI E, (kd a).2, .inl (upd (I a) j.toNatClampNeg v))) = wl E K (uI I a j.toNatClampNeg v) P := by
      have h1 : en E a (uI I a j.toNatClampNeg v) P = .inl (xI E, (kd a).2, .inl (upd (I a) j.toNatClampNeg v)) := by rw [en_int hka]; unfold uI; rw [sI_s]
      rw [← h1]
      exact wl_set ha2 (fun m hm => en_congr (sI_n hm) rfl)
    exact fun p e R s m args below meth c Z K0 hC hR a1 a2 a3 a4 a5 a6 H ls locs hW hS hL => va_iast hC.x hC.b hC.K hW (wl_D E K I P) hS (a - 2) 0 he rfl hin hd (fun H1 locs1 hP1 _ hS1 => hk _ _ _ _ _ h p e R s m args below meth c Z K0 hC hR a1 a2 a3 a4 a5 a6 H1 ls locs1 (by rw [hset] at hP1; exact hP1) hS1 hL)
  case bastore =>
    obtain ⟨v, r, rfl, h⟩ := pI_e h
    obtain ⟨j, r, rfl, h⟩ := pI_e h
    obtain ⟨a, r, rfl, hka, hin, h⟩ := pR_e h
    obtain ⟨haK, hkd, ha2⟩ := kk_in (K := K) (a := a) (by rw [hka]; decide)
    rw [hkd] at hka hin
    have he : (wl E K I P)[a - 2]? = some (xad E a, .inl (xB E, (kd a).2, .inl (I a))) := by rw [wl_get ha2 haK, en_boo hka]
    have hset : (wl E K I P).set (a - 2) (xad E a, .inl (xB E, (kd a).2, .inl (upd (I a) j.toNatClampNeg (vp_nar .boolean v)))) = wl E K (uI I a j.toNatClampNeg (vp_nar .boolean v)) P := by
      have h1 : en E a (uI I a j.toNatClampNeg (vp_nar .boolean v)) P = .inl (xB E, (kd a).2, .inl (upd (I a) j.toNatClampNeg (vp_nar .boolean v))) := by rw [en_boo hka]; unfold uI; rw [sI_s]
      rw [← h1]
      exact wl_set ha2 (fun m hm => en_congr (sI_n hm) rfl)
    exact fun p e R s m args below meth c Z K0 hC hR a1 a2 a3 a4 a5 a6 H ls locs hW hS hL => va_zast hC.x hC.b hC.K hW (wl_D E K I P) hS (a - 2) 1 he rfl hin hd (fun H1 locs1 hP1 _ hS1 => hk _ _ _ _ _ h p e R s m args below meth c Z K0 hC hR a1 a2 a3 a4 a5 a6 H1 ls locs1 (by rw [hset] at hP1; exact hP1) hS1 hL)
  case baload =>
    obtain ⟨j, r, rfl, h⟩ := pI_e h
    obtain ⟨a, r, rfl, hka, hin, h⟩ := pR_e h
    obtain ⟨haK, hkd, ha2⟩ := kk_in (K := K) (a := a) (by rw [hka]; decide)
    rw [hkd] at hka hin
    have he : (wl E K I P)[a - 2]? = some (xad E a, .inl (xB E, (kd a).2, .inl (I a))) := by rw [wl_get ha2 haK, en_boo hka]
    exact fun p e R s m args below meth c Z K0 hC hR a1 a2 a3 a4 a5 a6 H ls locs hW hS hL => va_zald hC.x hC.b hC.K hW (a - 2) 1 he rfl hin hd (hk _ _ _ _ _ h p e R s m args below meth c Z K0 hC hR a1 a2 a3 a4 a5 a6 H ls locs hW hS hL)
  case aaload =>
    obtain ⟨j, r, rfl, h⟩ := pI_e h
    obtain ⟨a, r, rfl, hka, hin, hne, h⟩ := pR_e h
    obtain ⟨haK, hkd, ha2⟩ := kk_in (K := K) (a := a) (by rw [hka]; decide)
    rw [hkd] at hka hin
    have he := wl_get (E := E) (I := I) (P := P) ha2 haK
    rw [en_row hka] at he
    exact fun p e R s m args below meth c Z K0 hC hR a1 a2 a3 a4 a5 a6 H ls locs hW hS hL => va_aldq hC.x hC.b hC.K hW (a - 2) 2 he rfl hin hd (by
      have hw := hk _ _ _ _ _ h p e R s m args below meth c Z K0 hC hR a1 a2 a3 a4 a5 a6 H ls locs hW hS hL
      rw [if_neg hne]
      exact hw)
  case aastore =>
    obtain ⟨v, r, rfl, h⟩ := pR_e h
    obtain ⟨j, r, rfl, h⟩ := pI_e h
    obtain ⟨a, r, rfl, hka, hin, hkv, h⟩ := pR_e h
    obtain ⟨haK, hkd, ha2⟩ := kk_in (K := K) (a := a) (by rw [hka]; decide)
    obtain ⟨hvK, hvd, hv2⟩ := kk_obj hkv
    rw [hkd] at hka hin
    have he := wl_get (E := E) (I := I) (P := P) ha2 haK
    rw [en_row hka] at he
    have hv := wl_get (E := E) (I := I) (P := P) hv2 hvK
    rw [en_obj hvd] at hv
    have hset : (wl E K I P).set (a - 2) (xad E a, .inl (xR E, (kd a).2, .inr (.inr (.inr (.inr (va_up (fun k => if P a k = 0 then none else some (xad E (P a k))) j.toNatClampNeg (some (xad E v)))))))) = wl E K I (uP P a j.toNatClampNeg v) := by
      have h1 : en E a I (uP P a j.toNatClampNeg v) = .inl (xR E, (kd a).2, .inr (.inr (.inr (.inr (va_up (fun k => if P a k = 0 then none else some (xad E (P a k))) j.toNatClampNeg (some (xad E v))))))) := by
        rw [en_row hka]
        have h2 : (fun k => if uP P a j.toNatClampNeg v a k = 0 then none else some (xad E (uP P a j.toNatClampNeg v a k))) = va_up (fun k => if P a k = 0 then none else some (xad E (P a k))) j.toNatClampNeg (some (xad E v)) := by
          funext q
          unfold uP
          rw [sP_s]
          unfold va_up
          by_cases hq : q = j.toNatClampNeg
          · rw [if_pos hq, if_pos hq, if_neg (by omega)]
          · rw [if_neg hq, if_neg hq]
        rw [h2]
      rw [← h1]
      exact wl_set ha2 (fun m hm => en_congr rfl (sP_n hm))
    obtain ⟨C, T, N, hc, hcC⟩ := ck_rule
    exact fun p e R s m args below meth c Z K0 hC hR a1 a2 a3 a4 a5 a6 H ls locs hW hS hL => va_astq (r := (C, T, N)) hC.x hC.b hC.K hW (wl_D E K I P) hS (a - 2) 2 (v - 2) ciRule he (by subst hcC; rfl) hv hc hin hd (fun H1 locs1 hP1 _ hS1 => hk _ _ _ _ _ h p e R s m args below meth c Z K0 hC hR a1 a2 a3 a4 a5 a6 H1 ls locs1 (by rw [hset] at hP1; exact hP1) hS1 hL)
  case new ix =>
    match inf, h, ho with
    | [j, ci], h, ho =>
      obtain ⟨hkd, hK1, h⟩ := h
      obtain ⟨C, T, N, hc, hlk⟩ := okL_e ho
      obtain ⟨hcw, hty, hnm, hdc, hins, hini, htk⟩ := ck_cls hc
      have hnf : nf ci = N := nf_of hc
      have hown := ck_own hy
      have h2 : 2 ≤ K := (kk_obj (K := K + 1) (a := K) (ci := ci) (by unfold kk; rw [if_pos (by omega)]; exact hkd)).2.2
      have hce : sl (K + 1) = sl K + N := by
        show sl K + ce K = _
        unfold ce
        rw [hkd, ← hnf]
        rfl
      have hm1 := sl_mono (show K + 1 ≤ K1 by omega)
      exact fun p e R s m args below meth c Z K0 hC hR a1 a2 a3 a4 a5 a6 H ls locs hW hS hL => W.sz fun hz => by
        have hh := hp_size hC hW hS a5 hz
        have hm0 := sl_mono a5
        refine W.newcK hC.x hC.b (by rw [hown]; exact hC.o) (hC.t _ hlk) (hC.t _ hins) (hC.t _ hini) rfl hd (by omega) (by omega) (hC.K.1 ci _ hc).2.1 hh fun H1 kC hkC e1 z1 o1 => ?_
        rw [← hh] at e1 z1 o1
        have hn : va_at (xD E) cls_ (xh E + (K - 2), en E K (sI I K fun _ => 0) (sP P K fun _ => 0)) H1 := by
          rw [en_obj hkd, hnf]
          refine ⟨_, hc, (u_born (tyF ci) hC.t hcw (hC.K.1 ci _ hc) hkC (by rw [← hh]; exact e1) hty).to (fun j hj => ?_)⟩
          have hj2 : ((List.range N).map (fun k => fv E ci K k (sI I K fun _ => 0) (sP P K fun _ => 0)))[j]? = some (fv E ci K j (sI I K fun _ => 0) (sP P K fun _ => 0)) := fs_get hj
          unfold vp_V
          rw [List.getD_eq_getElem?_getD, hj2]
          unfold fv
          rw [sI_s, sP_s]
          by_cases ht : tk ci j = 2
          · rw [if_pos ht]
            exact (tk2 ht 0).2.2
          · rw [if_neg ht]
            exact tk_le ht (htk j hj)
        obtain ⟨hW1, hS1⟩ := wo_new hC hW hS h2 hh z1 o1 hn
        have hw := hk _ _ _ _ _ h p e R s m args below meth c Z K0 hC hR a1 a2 a3 a4 (Nat.le_succ_of_le a5) hK1 H1 ls locs hW1 hS1 hL
        have hx : xv E (.inr K) = .ref (xh E + (K - 2)) := xv_n h2
        rw [List.map_cons, hx] at hw
        exact W.csx (by omega) (by omega) hw
    | [], h, _ => exact False.elim h
    | [_], h, _ => exact False.elim h
    | _ :: _ :: _ :: _, h, _ => exact False.elim h
  case newarray ty =>
    cases ty
    case int =>
      obtain ⟨n, r, rfl, hkd, hn0, hK1, h⟩ := pI_e h
      have h2 : 2 ≤ K := (kk_in (K := K + 1) (a := K) (by unfold kk; rw [if_pos (by omega), hkd]; show (1 : Nat) ≠ 9; decide)).2.2
      have hce : sl (K + 1) = sl K + n.toNatClampNeg := by
        show sl K + ce K = _
        unfold ce
        rw [hkd]
        rfl
      have hm1 := sl_mono (show K + 1 ≤ K1 by omega)
      have hby : n.toNatClampNeg ≤ 10000 := by have := kd_le K; rw [hkd] at this; exact this
      exact fun p e R s m args below meth c Z K0 hC hR a1 a2 a3 a4 a5 a6 H ls locs hW hS hL => W.sz fun hz => by
        have hh := hp_size hC hW hS a5 hz
        have hm0 := sl_mono a5
        refine va_newaK hC.x hC.b (hC.t _ ck_int) rfl hd rfl hn0 rfl (by show _ * 4 ≤ _; omega) (by omega) (by omega) hh fun H1 cA e1 z1 o1 hAr hNm => ?_
        rw [← hh] at e1 z1 o1
        have hcA : cA = xI E := Option.some.inj (hNm.symm.trans (hC.K.2 0 _ rfl).2)
        have hn : va_at (xD E) cls_ (xh E + (K - 2), en E K (sI I K fun _ => 0) (sP P K fun _ => 0)) H1 := by
          rw [en_int (by rw [hkd]), sI_s, hkd, ← hh]
          show H1[H.size]? = some (vp_cell _ _)
          rw [e1, hcA]
          rfl
        obtain ⟨hW1, hS1⟩ := wo_new hC hW hS h2 hh z1 o1 hn
        have hw := hk _ _ _ _ _ h p e R s m args below meth c Z K0 hC hR a1 a2 a3 a4 (Nat.le_succ_of_le a5) hK1 H1 ls locs hW1 hS1 hL
        have hx : xv E (.inr K) = .ref (xh E + (K - 2)) := xv_n h2
        rw [List.map_cons, hx] at hw
        exact W.csx (by omega) (by omega) hw
    case boolean =>
      obtain ⟨n, r, rfl, hkd, hn0, hK1, h⟩ := pI_e h
      have h2 : 2 ≤ K := (kk_in (K := K + 1) (a := K) (by unfold kk; rw [if_pos (by omega), hkd]; show (2 : Nat) ≠ 9; decide)).2.2
      have hce : sl (K + 1) = sl K + n.toNatClampNeg := by
        show sl K + ce K = _
        unfold ce
        rw [hkd]
        rfl
      have hm1 := sl_mono (show K + 1 ≤ K1 by omega)
      have hby : n.toNatClampNeg ≤ 10000 := by have := kd_le K; rw [hkd] at this; exact this
      exact fun p e R s m args below meth c Z K0 hC hR a1 a2 a3 a4 a5 a6 H ls locs hW hS hL => W.sz fun hz => by
        have hh := hp_size hC hW hS a5 hz
        have hm0 := sl_mono a5
        refine va_newaK hC.x hC.b (hC.t _ ck_boo) rfl hd rfl hn0 rfl (by show _ * 1 ≤ _; omega) (by omega) (by omega) hh fun H1 cA e1 z1 o1 hAr hNm => ?_
        rw [← hh] at e1 z1 o1
        have hcA : cA = xB E := Option.some.inj (hNm.symm.trans (hC.K.2 1 _ rfl).2)
        have hn : va_at (xD E) cls_ (xh E + (K - 2), en E K (sI I K fun _ => 0) (sP P K fun _ => 0)) H1 := by
          rw [en_boo (by rw [hkd]), sI_s, hkd, ← hh]
          show H1[H.size]? = some (vp_cell _ _)
          rw [e1, hcA]
          rfl
        obtain ⟨hW1, hS1⟩ := wo_new hC hW hS h2 hh z1 o1 hn
        have hw := hk _ _ _ _ _ h p e R s m args below meth c Z K0 hC hR a1 a2 a3 a4 (Nat.le_succ_of_le a5) hK1 H1 ls locs hW1 hS1 hL
        have hx : xv E (.inr K) = .ref (xh E + (K - 2)) := xv_n h2
        rw [List.map_cons, hx] at hw
        exact W.csx (by omega) (by omega) hw
    all_goals exact False.elim h
  case anewarray ix =>
    obtain ⟨n, r, rfl, hkd, hn0, hK1, g⟩ := pI_e h
    have ho := (Bool.and_eq_true _ _).mp ho
    obtain ⟨ho, ho2⟩ := ho
    match inf, ho, ho2 with
    | [j, ci], ho, ho2 =>
      have hci : ci = ciRule := beq_e ho2
      rw [hci] at ho
      obtain ⟨C, T, N, hc, hlk⟩ := okL_e ho
      obtain ⟨C', T', N', hc', hcC⟩ := ck_rule
      have hCC : C = "RecipeRewriter$Rule" := by
        have := hc.symm.trans hc'
        cases this
        exact hcC
      subst hCC
      have hown := ck_own hy
      have h2 : 2 ≤ K := (kk_in (K := K + 1) (a := K) (by unfold kk; rw [if_pos (by omega), hkd]; show (3 : Nat) ≠ 9; decide)).2.2
      have hce : sl (K + 1) = sl K + n.toNatClampNeg := by
        show sl K + ce K = _
        unfold ce
        rw [hkd]
        rfl
      have hm1 := sl_mono (show K + 1 ≤ K1 by omega)
      have hby : n.toNatClampNeg ≤ 10000 := by have := kd_le K; rw [hkd] at this; exact this
      exact fun p e R s m args below meth c Z K0 hC hR a1 a2 a3 a4 a5 a6 H ls locs hW hS hL => W.sz fun hz => by
        have hh := hp_size hC hW hS a5 hz
        have hm0 := sl_mono a5
        refine W.anew hC.x hC.b (by rw [hown]; exact hC.o) (hC.t _ hlk) (va_AO.use hC.T.2.2) rfl hd rfl hn0 (by omega) (by omega) (by omega) fun cA kA comp f1 f2 f3 f4 => ?_
        generalize hH1 : H.push ({ cls := cA, slots := Array.replicate n.toNatClampNeg .null, vm := .none } : Cell) = H1
        have z1 : H1.size = H.size + 1 := by rw [← hH1, Array.size_push]
        have e1 : H1[H.size]? = some (arrV cA n.toNatClampNeg (fun _ => .null)) := by rw [← hH1, Array.getElem?_push_size, ← arrV_new]
        have o1 : ∀ q, q < H.size → H1[q]? = H[q]? := fun q hq => by rw [← hH1, Array.getElem?_push, if_neg (Nat.ne_of_lt hq)]
        obtain ⟨kA', comp', g1, g2, g3, g4⟩ := (hC.K.2 2 _ rfl).2
        have hcA : cA = xR E := Option.some.inj (f1.symm.trans g4)
        have hn : va_at (xD E) cls_ (xh E + (K - 2), en E K (sI I K fun _ => 0) (sP P K fun _ => 0)) H1 := by
          rw [en_row (by rw [hkd]), sP_s, hkd, ← hh]
          show H1[H.size]? = some (vp_cell _ _)
          rw [e1, hcA]
          rfl
        obtain ⟨hW1, hS1⟩ := wo_new hC hW hS h2 hh z1 o1 hn
        have hw := hk _ _ _ _ _ g p e R s m args below meth c Z K0 hC hR a1 a2 a3 a4 (Nat.le_succ_of_le a5) hK1 H1 ls locs hW1 hS1 hL
        have hx : xv E (.inr K) = .ref H.size := by rw [hh]; exact xv_n h2
        rw [List.map_cons, hx] at hw
        exact W.csx (by omega) (by omega) hw
    | [], _, ho2 => cases ho2
    | [_], _, ho2 => cases ho2
    | _ :: _ :: _ :: _, _, ho2 => cases ho2
  all_goals exact False.elim h
end
section
def wsM (c : Nat) : List Jvm.Cond := Jvm.Cond.code (mN c) (mB c) (mX c) (mR c) :: wsA
def rv (ret : Option FieldType) (r : Int32) : Option Value := match ret with
  | none => none
  | some _ => some (.int r)
def Qm (E : XE) (c K1 : Nat) (Q : Int32 → mI → mP → Prop) : Array Value → State → Outcome → State → Prop := fun _ st o t => (∃ r I P, o = .returned (rv (mR c) r) ∧ Q r I P ∧ Wo E K1 I P t.heap) ∧ va_F (xA E) st t
def Pm (E : XE) (as : List cv) (K : Nat) (I : mI) (P : mP) : Array Value → State → Prop := fun v U => v = (as.map (xv E)).toArray ∧ Tb E U ∧ Wo E K I P U.heap ∧ va_X (xb E) (xL E) (xx E) U U.heap ∧ xb E < xh E ∧ 2 ≤ K ∧ U.heap.size = xh E + (K - 2)
def rmM (d K K1 : Nat) : Room := { frames := d, cells := K1 - K, slots := sl K1 - sl K, locals := 64 * d }
theorem call_Met {E : XE} {d c K K1 : Nat} {Q : Int32 → mI → mP → Prop} {as : List cv} {I : mI} {P : mP} (hc : c < nC) (hlen : as.length ≤ mX c) (hK : K ≤ K1) (hV : V E d c K1 Q 0 (as.map some ++ List.replicate (mX c - as.length) none) [] K I P) :
    Met (xl E) (mN c) (wsM c) (rmM d K K1) (Pm E as K I P) (Qm E c K1 Q) (K1 - K) (sl K1 - sl K) (xA E) := by
  refine Met.ofW (cc := mB c) (maxL := mX c) (ret := mR c) (ws' := wsA) (ck_m hc).1 rfl ?_
  intro p e s m args below meth cc s₁ B hml hv
  obtain ⟨rfl, hT, hW, hX, hb1, hk2, hz⟩ := hv
  have hts := atoms_spec (ws := wsM c) B.pre
  rw [lg_entry_eq]
  have hL := LH.entry E as hlen
  have hw := hV p e (headSpec (wsM c) (rmM d K K1)).room s m _ below meth cc (MQ below (Qm E c K1 Q) (as.map (xv E)).toArray s (K1 - K) (sl K1 - sl K) (xA E)) K
    ⟨B.exec, B.bytes, hml, findClass_of_methodNamed B.named, fun w hw => hts w (List.mem_cons_of_mem _ hw), fun _ => (name_of_methodNamed B.named B.method).1, hT, hX, hb1, hk2, hz⟩
    (fun r I P H ls locs pc hq hWo hS => ⟨fun hr hd => W.vret B.exec B.bytes (B.returns.trans hr) (fun t ht _ => ⟨⟨r, I, P, by rw [hr]; rfl, hq, by rw [ht]; exact hWo⟩, hS.F ht⟩) hS.2.2 hd B.notSynchronized,
      fun ty hr hn hd => W.zret B.exec B.bytes (B.returns.trans hr) hn (fun t ht _ => ⟨⟨r, I, P, by rw [hr]; rfl, hq, by rw [ht]; exact hWo⟩, hS.F ht⟩) hS.2.2 hd B.notSynchronized⟩)
    (Nat.le_refl _) (Nat.le_refl _) (Nat.le_refl _) (Nat.le_refl _) (Nat.le_refl _) hK s.heap _ [] hW va_S.rf hL
  exact W.csx (Nat.sub_self K) (Nat.sub_self (sl K)) hw
theorem Pm.blind {E : XE} {as : List cv} {K : Nat} {I : mI} {P : mP} : FrameBlind (Pm E as K I P) := by
  intro a U g mk h
  obtain ⟨h1, h2, h3, h4, h5, h6, h7⟩ := h
  exact ⟨h1, h2.calling, h3, va_X.moved (u := U) (U := U.calling g mk a) (Vm.Alike.refl U.vm) h4, h5, h6, h7⟩
section BACK
variable {p : Program} {l : Launch} {e : Env} {R : Room} {s : State} {m : MethodId} {args : Array Value} {below : List Frame} {meth : Method} {c : Code} {H : Heap} {locs : List Loc} {cells slots : Nat} {Z : State → Prop}
variable {pc : Nat} {ls : Array Slot} {rest st0 : List Value} {a : Array Value} {H0 : Heap} {mc ms : Nat}
theorem x_back {E : XE} {y K1 : Nat} {Q : Int32 → mI → mP → Prop} (hr : va_Run p l e R s m args below meth c H locs cells slots mc ms (F0 m pc ls st0) rest (Qm E y K1 Q a) (xA E)) (hS : va_S (xA E) H0 H locs)
    (kk : ∀ (r : Int32) (I : mI) (P : mP) (H1 : Heap) (locs1 : List Loc), Q r I P → Wo E K1 I P H1 → va_S (xA E) H0 H1 locs1 → W p l e R s m args below meth c H1 locs1 (cells + mc) (slots + ms) Z (F0 m (pc + 3) ls ((rv (mR y) r).toList ++ rest))) : W p l e R s m args below meth c H locs cells slots Z (F0 m pc ls st0) := by
  intro T hT X
  obtain ⟨v, st₀, t, T', L, h0, X', hL, e1, e2, ⟨⟨r, I, P, hv, hp, hb⟩, hz, hk⟩, st⟩ := hr T hT X
  cases hv
  rw [h0] at hz hk
  obtain ⟨t2, a1, b1⟩ := kk r I P T'.heap (locs ++ L) hp (by rw [e1]; exact hb)
    ⟨Nat.le_trans hS.1 (by rw [e1]; exact hz), fun q h1 h2 => by rw [e1, hk q (Nat.lt_of_lt_of_le h1 hS.1) h2]; exact hS.2.1 q h1 h2, fun q hq => by
      rcases List.mem_append.mp hq with h | h
      · exact hS.2.2 q h
      · exact hL q h⟩ T' rfl X'
  exact ⟨t2, st t2 a1, b1⟩
end BACK
theorem rcv0_e {ci K : Nat} {T : List cv} {X : Prop} (h : rcv 0 ci K T X) : ∃ a T', T = .inr a :: T' ∧ kk K a = (0, ci) ∧ X := by
  cases T with
  | nil => exact False.elim h
  | cons v T' =>
    cases v with
    | inl x => exact False.elim h
    | inr a => exact ⟨a, T', rfl, h⟩
theorem rcv1_e {ci K : Nat} {T : List cv} {X : Prop} (h : rcv 1 ci K T X) : ∃ a T', T = .inr a :: T' ∧ X := by
  cases T with
  | nil => exact False.elim h
  | cons v T' =>
    cases v with
    | inl x => exact False.elim h
    | inr a => exact ⟨a, T', rfl, h⟩
theorem stk {S T : List cv} {n : Nat} {v : cv} (h : S.drop (n - 1) = v :: T) (hn : 1 ≤ n) : S = S.take (n - 1) ++ v :: T ∧ S.drop n = T ∧ (S.take n).reverse = v :: (S.take (n - 1)).reverse := by
  obtain ⟨k, rfl⟩ : ∃ k, n = k + 1 := ⟨n - 1, by omega⟩
  rw [Nat.add_sub_cancel] at h ⊢
  refine ⟨by rw [← h, List.take_append_drop], ?_, ?_⟩
  · rw [← List.drop_drop, h]
    rfl
  · have h1 : S[k]? = some v := by
      have := List.getElem?_drop (xs := S) (i := k) (j := 0)
      rw [h] at this
      simpa using this.symm
    rw [List.take_succ, h1]
    simp
theorem good_M {c : Nat} (hc : c < nC) : GoodIn wsA (wsM c) := by
  intro w hw
  have h1 : w ∈ wsA := by
    rcases List.mem_cons.mp hw with rfl | h
    · exact (ck_m hc).2.1
    · exact h
  exact ⟨h1, wsA_good h1⟩
theorem okC_e {y ix q0 j c n al rt mx q ci : Nat} (h : okC y ix q0 [j, c, n, al, rt, mx, q, ci] = true) : (∃ ns wi, mlT[j]? = some (mO y, ix, c, ns, wi)) ∧ c < nC ∧ q = mK c ∧ q = q0 ∧ n = (if q = 2 then mA c else mA c + 1) ∧ mx = mX c ∧ n ≤ mx ∧ ci = mO c ∧ ((mR c = none ∧ rt = 0) ∨ (∃ ty, mR c = some ty) ∧ rt = 1) := by
  unfold okC at h
  dsimp only at h
  simp only [Bool.and_eq_true] at h
  obtain ⟨⟨⟨⟨⟨⟨⟨⟨h0, h1⟩, h2⟩, h3⟩, h4⟩, h5⟩, h6⟩, h7⟩, h8⟩ := h
  refine ⟨?_, Nat.le_of_ble_eq_true h1, beq_e h2, beq_e h3, beq_e h4, beq_e h5, Nat.le_of_ble_eq_true h6, beq_e h7, ?_⟩
  · cases hj : mlT[j]? with
    | none => rw [hj] at h0; cases h0
    | some x =>
      obtain ⟨o, ix', c', ns, wi⟩ := x
      rw [hj] at h0
      simp only [Bool.and_eq_true] at h0
      obtain ⟨⟨g1, g2⟩, g3⟩ := h0
      have e1 := beq_e g1
      have e2 := beq_e g2
      have e3 := beq_e g3
      subst e1; subst e2; subst e3
      exact ⟨ns, wi, rfl⟩
  · cases hr : mR c with
    | none => rw [hr] at h8; exact Or.inl ⟨rfl, beq_e h8⟩
    | some ty => rw [hr] at h8; exact Or.inr ⟨⟨ty, rfl⟩, beq_e h8⟩
theorem okJ_e {y ix q0 j w : Nat} (h : okC y ix q0 [j, w] = true) : Jvm.Cond.methodLink (cn (mO y)) ix (jN w) ∈ wsA ∧ q0 = (if w = 0 then 1 else 2) := by
  unfold okC at h
  dsimp only at h
  cases hj : jlT[j]? with
  | none => rw [hj] at h; cases h
  | some x =>
    obtain ⟨o, ix', w', wi⟩ := x
    rw [hj] at h
    simp only [Bool.and_eq_true] at h
    obtain ⟨⟨⟨g1, g2⟩, g3⟩, g4⟩ := h
    have e1 := beq_e g1
    have e2 := beq_e g2
    have e3 := beq_e g3
    subst e1; subst e2; subst e3
    exact ⟨ck_jl hj, beq_e g4⟩
set_option maxHeartbeats 4000000 in
theorem call_go {E : XE} {d y K1 pc K ix q0 : Nat} {Q : Int32 → mI → mP → Prop} {j c0 n al rt mx q ci : Nat} {L : List (Option cv)} {S : List cv} {I : mI} {P : mP} {k : kont} (hy : y < nM) (ho : okC y ix q0 [j, c0, n, al, rt, mx, q, ci] = true)
    (hd : decode (mB y) pc = .ok (ivk q0 ix, 3))
    (hlen : (S.take n).length = n) (h8 : (S.drop n).length ≤ 8) (hal : K + al ≤ K1 ∨ al = 0) (hrc : rcv q ci K (S.drop (n - 1)) True)
    (hV : V E d c0 (K + al) (fun r I' P' => k L (rtk rt r (S.drop n)) (K + al) I' P') 0 ((S.take n).reverse.map some ++ List.replicate (mx - n) none) [] K I P)
    (hk : ∀ L S K I P, k L S K I P → V E (d + 1) y K1 Q (pc + 3) L S K I P) : V E (d + 1) y K1 Q pc L S K I P := by
  obtain ⟨⟨ns, wi, hj⟩, hc, hq, hq0, hn, hmx, hnm, hci, hrt⟩ := okC_e ho
  obtain ⟨hpl, hcode, hini, hcls, hnp, hmX, hkind⟩ := ck_m hc
  have hown := ck_own hy
  subst hmx
  have hlen' : (S.take n).reverse.length = n := by rw [List.length_reverse, hlen]
  have hM := call_Met (E := E) (as := (S.take n).reverse) hc (by rw [hlen']; exact hnm) (Nat.le_add_right K al) (by rw [hlen']; exact hV)
  exact fun p e R s m args below meth c Z K0 hC hR a1 a2 a3 a4 a5 a6 H ls locs hW hS hL => W.sz fun hz => by
    have hh := hp_size hC hW hS a5 hz
    have hk0 := hC.k
    have hal' : K + al ≤ K1 := by omega
    have hm0 := sl_mono a5
    have hm1 := sl_mono (Nat.le_add_right K al)
    have hm2 := sl_mono hal'
    have hRm : (rmM d K (K + al)).frames + 1 ≤ R.frames ∧ 8 + (mX c0 + 11) + (rmM d K (K + al)).locals ≤ R.locals := ⟨a1, by show 8 + (mX c0 + 11) + 64 * d ≤ _; omega⟩
    have hf : K - K0 + (K + al - K) ≤ R.cells ∧ sl K - sl K0 + (sl (K + al) - sl K) ≤ R.slots := by omega
    have hpre : ∀ U : State, U.heap = H → s.WarmedH U.vm → Pm E (S.take n).reverse K I P (((S.take n).reverse.map (xv E)).toArray) U := fun U hU hWm =>
      ⟨rfl, hC.T.warm hWm, by rw [hU]; exact hW, va_X.moved hWm.alike (va_X.kept hC.X (by rw [hU]; exact hS.2.1 (xb E) (by have := hC.bl; have := hC.s; omega) (fun q => absurd hC.bl (Nat.not_lt.mpr q)))), hC.bl, by omega, by rw [hU]; exact hh⟩
    have fin : ∀ (g0 : List Value), g0 = S.map (xv E) → ∀ {a : Array Value}, va_Run p (xl E) e R s m args below meth c H locs (K - K0) (sl K - sl K0) (K + al - K) (sl (K + al) - sl K) (F0 m pc ls g0) ((S.drop n).map (xv E)) (Qm E c0 (K + al) (fun r I' P' => k L (rtk rt r (S.drop n)) (K + al) I' P') a) (xA E) → W p (xl E) e R s m args below meth c H locs (K - K0) (sl K - sl K0) Z (F0 m pc ls (S.map (xv E))) := by
      intro g0 hg0 a hr
      subst hg0
      refine x_back hr hS fun r I' P' H1 locs1 hq1 hW1 hS1 => ?_
      refine W.csx (c1 := K + al - K0) (s1 := sl (K + al) - sl K0) (by omega) (by omega) ?_
      rcases hrt with ⟨hr0, rfl⟩ | ⟨⟨ty, hr0⟩, rfl⟩
      · rw [hr0]
        exact hk _ _ _ _ _ hq1 p e R s m args below meth c Z K0 hC hR a1 a2 a3 a4 (Nat.le_trans a5 (Nat.le_add_right K al)) hal' H1 ls locs1 hW1 hS1 hL
      · rw [hr0]
        exact hk _ _ _ _ _ hq1 p e R s m args below meth c Z K0 hC hR a1 a2 a3 a4 (Nat.le_trans a5 (Nat.le_add_right K al)) hal' H1 ls locs1 hW1 hS1 hL
    have hrest : 2 * (F0 m pc ls (S.map (xv E))).monitorRoom + (((S.drop n).map (xv E)).map fun v => v.category).sum ≤ 8 := lv_room (by rw [cat_sum]; exact h8)
    have hfix : CallFix p m c (mB y) (mX y) s args wsA (mN y).cls := ⟨hC.x, hC.b, hC.m, hC.o, hC.t⟩
    have hsz : ls.size = mX y := hL.2.1
    have hq3 : q = 0 ∨ q = 1 ∨ q = 2 := by
      rcases hkind with ⟨h, -⟩ | ⟨h, -⟩ | ⟨h, -⟩ <;> omega
    subst hq0
    rcases hq3 with rfl | rfl | rfl
    · -- virtual
      rw [if_neg (by decide)] at hn
      obtain ⟨a, T, hT, hka, -⟩ := rcv0_e hrc
      · skip
        obtain ⟨hS0, hSd, hSr⟩ := stk hT (by omega)
        obtain ⟨haK, hkd, ha2⟩ := kk_obj hka
        rcases hkind with ⟨-, hin, hsel⟩ | ⟨h, -⟩ | ⟨h, -⟩
        · obtain ⟨C, Tt, N, hcl, hcC⟩ := ck_cls_of hc (by omega)
          have he : (wl E K I P)[a - 2]? = some (xad E a, .inr (mO c0, (List.range (nf (mO c0))).map (fun k => fv E (mO c0) a k I P))) := by rw [wl_get ha2 haK, en_obj (hkd.trans (by rw [hci]))]
          have hrecv := va_recv hC.K hW hcl he
          have hnb : ((S.take (n - 1)).map (xv E)).reverse.length = mA c0 := by rw [List.length_reverse, List.length_map, List.length_take]; have := hlen; rw [List.length_take] at this; omega
          have hst : S.map (xv E) = (((S.take (n - 1)).map (xv E)).reverse).reverse ++ .ref (xad E a) :: (S.drop n).map (xv E) := by
            rw [List.reverse_reverse, hSd]
            conv => lhs; rw [hS0, List.map_append]
            rfl
          have hargs : (Value.ref (xad E a) :: ((S.take (n - 1)).map (xv E)).reverse) = (S.take n).reverse.map (xv E) := by
            rw [hSr, List.map_cons, List.map_reverse]
            rfl
          have hp : PreV s H (mN c0).cls (xad E a) (Pm E (S.take n).reverse K I P) (((S.take (n - 1)).map (xv E)).reverse) := ⟨Pm.blind, by rw [← hcC]; exact hrecv, fun U hU hWm => by rw [hargs]; exact hpre U hU hWm⟩
          rcases ck_ml hj with ⟨-, hlk⟩ | ⟨-, hlk⟩
          · rw [hown] at hlk
            exact fin _ rfl (va_runV hfix hM ⟨callB_of (mA c0) hC.t (good_M hc) rfl rfl rfl (hC.t _ hini) (hC.t _ hlk) ⟨hcls.1, hcls.2, hnp⟩ hRm, hC.t _ hin, hC.t _ hsel⟩ hp rfl hnb hsz hst hrest hd hf)
          · rw [hown] at hlk
            exact fin _ rfl (va_runVN hfix hM ⟨va_cnB (mA c0) hC.t (good_M hc) rfl rfl rfl (hC.T.2.1 _ hlk) (hC.t _ hini) ⟨hcls.1, hcls.2, hnp⟩ hRm, hC.t _ hin, hC.t _ hsel⟩ hp rfl hnb hsz hst hrest hd hf)
        · omega
        · omega
    · -- constructor
      rw [if_neg (by decide)] at hn
      obtain ⟨a, T, hT, -⟩ := rcv1_e hrc
      · skip
        obtain ⟨hS0, hSd, hSr⟩ := stk hT (by omega)
        rcases hkind with ⟨h, -⟩ | ⟨-, hin, hnm1, hrn⟩ | ⟨h, -⟩
        · omega
        · have hnb : ((S.take (n - 1)).map (xv E)).reverse.length = mA c0 := by rw [List.length_reverse, List.length_map, List.length_take]; have := hlen; rw [List.length_take] at this; omega
          have hst : S.map (xv E) = (((S.take (n - 1)).map (xv E)).reverse).reverse ++ .ref (xad E a) :: (S.drop n).map (xv E) := by
            rw [List.reverse_reverse, hSd]
            conv => lhs; rw [hS0, List.map_append]
            rfl
          have hargs : (Value.ref (xad E a) :: ((S.take (n - 1)).map (xv E)).reverse) = (S.take n).reverse.map (xv E) := by
            rw [hSr, List.map_cons, List.map_reverse]
            rfl
          have hp : PreS s H (Pm E (S.take n).reverse K I P) (Value.ref (xad E a) :: ((S.take (n - 1)).map (xv E)).reverse) := ⟨Pm.blind, fun U hU hWm => by rw [hargs]; exact hpre U hU hWm⟩
          rcases ck_ml hj with ⟨-, hlk⟩ | ⟨-, hlk⟩
          · rw [hown] at hlk
            have cb := callB_of (R := R) (rm := rmM d K (K + al)) (mc := K + al - K) (ms := sl (K + al) - sl K) (ret := mR c0) (bytes := mB c0) (maxL := mX c0) (ws := wsM c0) (mA c0) hC.t (good_M hc) rfl rfl rfl (hC.t _ hini) (hC.t _ hlk) ⟨hcls.1, hcls.2, hnp⟩ hRm
            rw [hrn] at cb
            exact fin _ rfl (va_runI hfix hM ⟨cb, hnm1, hC.t _ hin⟩ hp rfl hnb hsz hst hrest hd hf)
          · rw [hown] at hlk
            have cb := va_cnB (R := R) (rm := rmM d K (K + al)) (mc := K + al - K) (ms := sl (K + al) - sl K) (ret := mR c0) (bytes := mB c0) (maxL := mX c0) (ws := wsM c0) (mA c0) hC.t (good_M hc) rfl rfl rfl (hC.T.2.1 _ hlk) (hC.t _ hini) ⟨hcls.1, hcls.2, hnp⟩ hRm
            rw [hrn] at cb
            exact fin _ rfl (va_runIN hfix hM ⟨cb, hnm1, hC.t _ hin⟩ hp rfl hnb hsz hst hrest hd hf)
        · omega
    · -- static
      rw [if_pos rfl] at hn
      rcases hkind with ⟨h, -⟩ | ⟨h, -⟩ | ⟨-, hstt⟩
      · omega
      · omega
      · have hnb : ((S.take n).reverse.map (xv E)).length = mA c0 := by rw [List.length_map, List.length_reverse, hlen]; exact hn
        have hst : S.map (xv E) = ((S.take n).reverse.map (xv E)).reverse ++ (S.drop n).map (xv E) := by
          rw [← List.map_reverse, List.reverse_reverse, ← List.map_append, List.take_append_drop]
        have hp : PreS s H (Pm E (S.take n).reverse K I P) ((S.take n).reverse.map (xv E)) := ⟨Pm.blind, hpre⟩
        rcases ck_ml hj with ⟨-, hlk⟩ | ⟨-, hlk⟩
        · rw [hown] at hlk
          exact fin _ rfl (va_runS hfix hM ⟨callB_of (mA c0) hC.t (good_M hc) rfl rfl rfl (hC.t _ hini) (hC.t _ hlk) ⟨hcls.1, hcls.2, hnp⟩ hRm, hC.t _ hstt⟩ hp rfl hnb hsz hst hrest hd hf)
        · rw [hown] at hlk
          exact fin _ rfl (va_runSN hfix hM ⟨va_cnB (mA c0) hC.t (good_M hc) rfl rfl rfl (hC.T.2.1 _ hlk) (hC.t _ hini) ⟨hcls.1, hcls.2, hnp⟩ hRm, hC.t _ hstt, trivial⟩ hp rfl hnb hsz hst hrest hd hf)
end
section
set_option maxHeartbeats 4000000 in
theorem jdk_go {E : XE} {d y K1 pc K ix j w q0 : Nat} {Q : Int32 → mI → mP → Prop} {L : List (Option cv)} {S : List cv} {I : mI} {P : mP} {k : kont} (hy : y < nM) (ho : okC y ix q0 [j, w] = true)
    (hd : decode (mB y) pc = .ok (ivk q0 ix, 3))
    (h : jx d w L S K I P k) (hk : ∀ L S K I P, k L S K I P → V E d y K1 Q (pc + 3) L S K I P) : V E d y K1 Q pc L S K I P := by
  obtain ⟨hlk, hq⟩ := okJ_e ho
  have hown := ck_own hy
  rw [hown] at hlk
  have hcase : w = 0 ∨ w = 1 ∨ w = 2 ∨ ∃ w', w = w' + 3 := by
    by_cases h3 : w < 3
    · omega
    · exact Or.inr (Or.inr (Or.inr ⟨w - 3, by omega⟩))
  rcases hcase with rfl | rfl | rfl | ⟨w', rfl⟩
  · obtain ⟨d', rfl, hb, g⟩ := jx0_e h
    clear h
    · skip
      · skip
        obtain ⟨a, r, rfl, g2⟩ := pR_e g
        have hlen : (r.length) ≤ 8 := by rw [List.length_cons] at hb; omega
        rw [if_pos rfl] at hq
        subst hq
        exact fun p e R s m args below meth c Z K0 hC hR a1 a2 a3 a4 a5 a6 H ls locs hW hS hL => by
          have hrm := lv_room (m := m) (pc := pc) (ls := ls) (rest := (Sum.inr a :: r : List cv).map (xv E)) (st := r.map (xv E)) (by rw [cat_sum]; exact hlen)
          refine W.objInit hC.x hC.b hC.o (hC.t _ hlk) (hC.t _ ck_oi) (hC.t _ ck_oc) rfl (by rw [hC.m]; exact hL.2.1) rfl hd (by omega) (by omega) ?_
          exact hk _ _ _ _ _ g2 p e R s m args below meth c Z K0 hC hR a1 a2 a3 a4 a5 a6 H ls locs hW hS hL
  · obtain ⟨d', rfl, hb, g⟩ := jx1_e h
    clear h
    · skip
      · skip
        obtain ⟨y', r, rfl, g2⟩ := pI_e g
        obtain ⟨x', r, rfl, g3⟩ := pI_e g2
        have hlen : (r.length) ≤ 8 := by rw [List.length_cons, List.length_cons] at hb; omega
        rw [if_neg (by omega)] at hq
        subst hq
        exact fun p e R s m args below meth c Z K0 hC hR a1 a2 a3 a4 a5 a6 H ls locs hW hS hL => va_mmax hC.x hC.b (hC.m.trans hL.2.1.symm) hC.o (hC.t _ hlk) (hC.t _ ck_xs) (hC.t _ ck_mi) (hC.t _ ck_xc) (by omega) (by rw [cat_sum]; omega) (by omega) (by have := sl_mono a6; omega) hd (hk _ _ _ _ _ g3 p e R s m args below meth c Z K0 hC hR a1 a2 a3 a4 a5 a6 H ls locs hW hS hL)
  · obtain ⟨d', rfl, hb, g⟩ := jx2_e h
    clear h
    · skip
      · skip
        obtain ⟨y', r, rfl, g2⟩ := pI_e g
        obtain ⟨x', r, rfl, g3⟩ := pI_e g2
        have hlen : (r.length) ≤ 8 := by rw [List.length_cons, List.length_cons] at hb; omega
        rw [if_neg (by omega)] at hq
        subst hq
        exact fun p e R s m args below meth c Z K0 hC hR a1 a2 a3 a4 a5 a6 H ls locs hW hS hL => va_mmin hC.x hC.b (hC.m.trans hL.2.1.symm) hC.o (hC.t _ hlk) (hC.t _ ck_ns) (hC.t _ ck_mi) (hC.t _ ck_nc) (by omega) (by rw [cat_sum]; omega) (by omega) (by have := sl_mono a6; omega) hd (hk _ _ _ _ _ g3 p e R s m args below meth c Z K0 hC hR a1 a2 a3 a4 a5 a6 H ls locs hW hS hL)
  · obtain ⟨d', rfl, hb, g⟩ := jx3_e h
    clear h
    · skip
      · skip
        obtain ⟨n, r, rfl, g2⟩ := pI_e g
        obtain ⟨dp, r, rfl, g3⟩ := pI_e g2
        obtain ⟨b1, r, rfl, g4⟩ := pR_e g3
        obtain ⟨sp, r, rfl, g5⟩ := pI_e g4
        obtain ⟨b0, r, rfl, hk0, hk1, h1, h2, h3, h4, h5, g6⟩ := pR_e g5
        have hlen : (r.length) ≤ 8 := by simp only [List.length_cons] at hb; omega
        obtain ⟨g0K, g0d, g02⟩ := kk_in (K := K) (a := b0) (by rw [hk0]; decide)
        obtain ⟨g1K, g1d, g12⟩ := kk_in (K := K) (a := b1) (by rw [hk1]; decide)
        rw [g0d] at hk0 h4
        rw [g1d] at hk1 h5
        have he0 := wl_get (E := E) (I := I) (P := P) g02 g0K
        rw [en_int hk0] at he0
        have he1 := wl_get (E := E) (I := I) (P := P) g12 g1K
        rw [en_int hk1] at he1
        have hset : (wl E K I P).set (b1 - 2) (xad E b1, .inl (xI E, (kd b1).2, .inl (va_cpy (I b0) (I b1) sp.toNatClampNeg dp.toNatClampNeg n.toNatClampNeg))) = wl E K (sI I b1 (va_cpy (I b0) (I b1) sp.toNatClampNeg dp.toNatClampNeg n.toNatClampNeg)) P := by
          have h1 : en E b1 (sI I b1 (va_cpy (I b0) (I b1) sp.toNatClampNeg dp.toNatClampNeg n.toNatClampNeg)) P = .inl (xI E, (kd b1).2, .inl (va_cpy (I b0) (I b1) sp.toNatClampNeg dp.toNatClampNeg n.toNatClampNeg)) := by rw [en_int hk1, sI_s]
          rw [← h1]
          exact wl_set g12 (fun m hm => en_congr (sI_n hm) rfl)
        rw [if_neg (by omega)] at hq
        subst hq
        have hnw : nativeFrameWords "java/lang/System" "arraycopy" 5 ≤ 16 := by decide +kernel
        exact fun p e R s m args below meth c Z K0 hC hR a1 a2 a3 a4 a5 a6 H ls locs hW hS hL => va_copyi (ty := .int) hC.x hC.b (hC.m.trans hL.2.1.symm) hC.o (hC.t _ hlk) (hC.t _ ck_an) (hC.t _ ck_as) (hC.t _ ck_ai) hC.K hW (wl_D E K I P) hS (b0 - 2) (b1 - 2) 0 0 he0 he1 rfl rfl rfl h1 h2 h3 h4 h5 (fun _ _ => rfl) (by omega) (by rw [cat_sum]; omega) hd (fun H1 locs1 hP1 _ hS1 => hk _ _ _ _ _ g6 p e R s m args below meth c Z K0 hC hR a1 a2 a3 a4 a5 a6 H1 ls locs1 (by rw [hset] at hP1; exact hP1) hS1 hL)
set_option maxHeartbeats 4000000 in
theorem cx_sound {E : XE} {d y K1 pc K ix q0 : Nat} {Q : Int32 → mI → mP → Prop} {inf : List Nat} {L : List (Option cv)} {S : List cv} {I : mI} {P : mP} {k : kont} (hy : y < nM) (ho : okC y ix q0 inf = true)
    (hd : decode (mB y) pc = .ok (ivk q0 ix, 3))
    (h : cx E d K1 inf L S K I P k) (hk : ∀ L S K I P, k L S K I P → V E d y K1 Q (pc + 3) L S K I P) : V E d y K1 Q pc L S K I P := by
  match inf, h, ho with
  | [j, c, n, al, rt, mx, q, ci], h, ho =>
    obtain ⟨d', rfl, h1, h2, hal, hr, g⟩ := cx8_e h
    exact call_go hy ho hd h1 h2 hal hr g hk
  | [j, w], h, ho => exact jdk_go hy ho hd h hk
  | [], h, _ => exact False.elim h
  | [_], h, _ => exact False.elim h
  | [_, _, _], h, _ => exact False.elim h
  | [_, _, _, _], h, _ => exact False.elim h
  | [_, _, _, _, _], h, _ => exact False.elim h
  | [_, _, _, _, _, _], h, _ => exact False.elim h
  | [_, _, _, _, _, _, _], h, _ => exact False.elim h
  | _ :: _ :: _ :: _ :: _ :: _ :: _ :: _ :: _ :: _, h, _ => exact False.elim h
theorem sw_look {y pc : Nat} {x : Int32} {D : Prop} {f : Nat → Prop} {df : Int} : ∀ (ps : List (Int × Int)) (ts : List Nat), okTs y pc (ps.map Prod.snd) ts = true → (∀ q ∈ ps, (kc q.1).toInt = q.1) → sw x D f (ps.map Prod.fst) ts →
    (∃ t, f t ∧ okT y pc (Op.lookupswitch.offset ps df x.toInt) t = true) ∨ (D ∧ Op.lookupswitch.offset ps df x.toInt = df)
  | [], ts, _, _, h => Or.inr ⟨by cases ts <;> exact h, rfl⟩
  | (a, o) :: ps, [], h1, _, _ => by cases h1
  | (a, o) :: ps, t :: ts, h1, h2, h => by
    have h1' : (okT y pc o t && okTs y pc (ps.map Prod.snd) ts) = true := h1
    rw [Bool.and_eq_true] at h1'
    have h' : (x = kc a → f t) ∧ (¬ x = kc a → sw x D f (ps.map Prod.fst) ts) := h
    have ha : (kc a).toInt = a := h2 (a, o) List.mem_cons_self
    by_cases hx : x = kc a
    · have e : Op.lookupswitch.offset ((a, o) :: ps) df x.toInt = o := by
        rw [Op.lookupswitch.offset_cons, if_pos (by rw [hx, ha])]
      exact Or.inl ⟨t, h'.1 hx, by rw [e]; exact h1'.1⟩
    · have e : Op.lookupswitch.offset ((a, o) :: ps) df x.toInt = Op.lookupswitch.offset ps df x.toInt := lv_osw hx ha
      rw [e]
      exact sw_look ps ts h1'.2 (fun q hq => h2 q (List.mem_cons_of_mem _ hq)) (h'.2 hx)
theorem kc_toInt {z : Int} (h1 : -1000 ≤ z) (h2 : z ≤ 3000) : (kc z).toInt = z := by
  rw [← kc_eq]
  exact Int32.toInt_ofInt_of_le (by omega) (by omega)
theorem sw_tab {y pc : Nat} {x : Int32} {D : Prop} {f : Nat → Prop} : ∀ (os : List Int) (ts : List Nat) (lo : Int), -1000 ≤ lo → lo + os.length ≤ 3000 → okTs y pc os ts = true → sw x D f (keysT lo os.length) ts →
    (∃ (t : Nat) (off : Int) (k : Nat), f t ∧ os[k]? = some off ∧ x.toInt = lo + k ∧ okT y pc off t = true) ∨ (D ∧ (x.toInt < lo ∨ lo + os.length ≤ x.toInt))
  | [], ts, lo, _, _, _, h => Or.inr ⟨by cases ts <;> exact h, by simp only [List.length_nil]; omega⟩
  | o :: os, [], lo, _, _, h1, _ => by cases h1
  | o :: os, t :: ts, lo, b1, b2, h1, h => by
    have h1' : (okT y pc o t && okTs y pc os ts) = true := h1
    rw [Bool.and_eq_true] at h1'
    rw [List.length_cons] at b2
    have h' : (x = kc lo → f t) ∧ (¬ x = kc lo → sw x D f (keysT (lo + 1) os.length) ts) := h
    have ha : (kc lo).toInt = lo := kc_toInt b1 (by omega)
    by_cases hx : x = kc lo
    · exact Or.inl ⟨t, o, 0, h'.1 hx, rfl, by rw [hx, ha]; simp, h1'.1⟩
    · have hne : ¬ x.toInt = lo := lv_neT hx ha
      rcases sw_tab os ts (lo + 1) (by omega) (by omega) h1'.2 (h'.2 hx) with ⟨t', off, k, g1, g2, g3, g4⟩ | ⟨g1, g2⟩
      · exact Or.inl ⟨t', off, k + 1, g1, g2, by rw [g3]; omega, g4⟩
      · exact Or.inr ⟨g1, by rw [List.length_cons]; omega⟩
theorem okM_e {y t : Nat} {e : En} (h : okM y = true) (ht : (tc y)[t]? = some e) : okE y t e = true := by
  have hl := (List.getElem?_eq_some_iff.mp ht).1
  have h1 := List.all_eq_true.mp h t (List.mem_range.mpr hl)
  rw [ht] at h1
  exact h1
theorem okT_e {y pc t : Nat} {off : Int} (h : okT y pc off t = true) : ∃ e, (tc y)[t]? = some e ∧ (pc : Int) + off = (e.1 : Int) := by
  unfold okT at h
  cases ht : (tc y)[t]? with
  | none => rw [ht] at h; cases h
  | some e => rw [ht] at h; exact ⟨e, rfl, of_decide_eq_true h⟩
set_option maxHeartbeats 8000000 in
theorem wpx_sound {E : XE} {d y K1 : Nat} {Q : Int32 → mI → mP → Prop} (hy : y < nM) (hM : okM y = true) : ∀ (n : Nat) (fr : Bool) (t : Nat) (L : List (Option cv)) (S : List cv) (K : Nat) (I : mI) (P : mP), wpx E d y K1 Q n fr ((tc y).drop t) L S K I P → ∃ e, (tc y)[t]? = some e ∧ V E d y K1 Q e.1 L S K I P := by
  intro n
  induction n with
  | zero => intro fr t L S K I P h; exact False.elim h
  | succ n ih =>
    intro fr t L S K I P h
    cases ht : (tc y)[t]? with
    | none =>
      rw [List.drop_eq_nil_of_le (List.getElem?_eq_none_iff.mp ht)] at h
      exact False.elim h
    | some e =>
      obtain ⟨pc, hdd, i, inf⟩ := e
      refine ⟨_, rfl, ?_⟩
      have hdr : (tc y).drop t = (pc, hdd, i, inf) :: (tc y).drop (t + 1) := by
        obtain ⟨hl, he⟩ := List.getElem?_eq_some_iff.mp ht
        rw [List.drop_eq_getElem_cons hl, he]
      rw [hdr] at h
      replace h : wst E d y K1 Q (wpx E d y K1 Q n false) fr pc hdd i inf ((tc y).drop (t + 1)) L S K I P := h
      have hok := okM_e hM ht
      unfold okE at hok
      dsimp only at hok
      rw [Bool.and_eq_true, Bool.and_eq_true] at hok
      obtain ⟨⟨hde, hoI⟩, hnx⟩ := hok
      have hde2 : ∃ ln, decode (mB y) pc = .ok (i, ln) ∧ (isSw i = false → ln = il i) := by
        split at hde
        · rename_i i' ln hdc
          rw [Bool.and_eq_true] at hde
          have e1 := of_decide_eq_true hde.1
          subst e1
          exact ⟨ln, hdc, fun hs => by have h2 := hde.2; rw [hs, Bool.false_or] at h2; exact beq_e h2⟩
        · cases hde
      obtain ⟨ln, hdec, hln⟩ := hde2
      have hnext : isSw i = false → ∀ L S K I P, wpx E d y K1 Q n false ((tc y).drop (t + 1)) L S K I P → V E d y K1 Q (pc + il i) L S K I P := by
        intro hs L S K I P hw
        obtain ⟨e', he', hV⟩ := ih false (t + 1) L S K I P hw
        rw [hs, Bool.false_or, he'] at hnx
        have := beq_e hnx
        rw [← this]
        exact hV
      have jmp : ∀ off : Int, tg1 y pc off inf = true → ∃ tgt : Nat, (pc : Int) + off = (tgt : Int) ∧ ∀ L S K I P, jm inf (fun t => wpx E d y K1 Q n false ((tc y).drop t) L S K I P) → V E d y K1 Q tgt L S K I P := by
        intro off hj
        cases inf with
        | nil => cases hj
        | cons t' _ =>
          obtain ⟨e', he', hpc⟩ := okT_e hj
          refine ⟨e'.1, hpc, fun L S K I P hw => ?_⟩
          obtain ⟨e2, he2, hV⟩ := ih false t' L S K I P hw
          cases he'.symm.trans he2
          exact hV
      cases hb : hq hdd fr with
      | some mm =>
        unfold wst at h
        rw [hb] at h
        exact V.lw mm h
      | none =>
        unfold wst at h
        rw [hb] at h
        dsimp only at h
        cases i
        case goto off =>
          obtain ⟨tgt, h1, h2⟩ := jmp off hoI
          have hd := hdec
          rw [hln rfl] at hd
          have hV := h2 _ _ _ _ _ h
          exact fun p e R s m args below meth c Z K0 hC hR a1 a2 a3 a4 a5 a6 H ls locs hW hS hL => lv_goto hC.x hC.b hd h1 (hV p e R s m args below meth c Z K0 hC hR a1 a2 a3 a4 a5 a6 H ls locs hW hS hL)
        case ifCond c off =>
          obtain ⟨tgt, h1, h2⟩ := jmp off hoI
          have hd := hdec
          rw [hln rfl] at hd
          obtain ⟨x, r, rfl, g⟩ := pI_e h
          clear h
          have hn := hnext rfl
          cases c
          case eq => exact fun p e R s m args below meth c Z K0 hC hR a1 a2 a3 a4 a5 a6 H ls locs hW hS hL => lv_if_eq hC.x hC.b hd h1 (fun q => h2 _ _ _ _ _ (g.1 q) p e R s m args below meth c Z K0 hC hR a1 a2 a3 a4 a5 a6 H ls locs hW hS hL) (fun q => hn _ _ _ _ _ (g.2 q) p e R s m args below meth c Z K0 hC hR a1 a2 a3 a4 a5 a6 H ls locs hW hS hL)
          case ne => exact fun p e R s m args below meth c Z K0 hC hR a1 a2 a3 a4 a5 a6 H ls locs hW hS hL => lv_if_ne hC.x hC.b hd h1 (fun q => h2 _ _ _ _ _ (g.1 q) p e R s m args below meth c Z K0 hC hR a1 a2 a3 a4 a5 a6 H ls locs hW hS hL) (fun q => hn _ _ _ _ _ (g.2 q) p e R s m args below meth c Z K0 hC hR a1 a2 a3 a4 a5 a6 H ls locs hW hS hL)
          case lt => exact fun p e R s m args below meth c Z K0 hC hR a1 a2 a3 a4 a5 a6 H ls locs hW hS hL => lv_if_lt hC.x hC.b hd h1 (fun q => h2 _ _ _ _ _ (g.1 q) p e R s m args below meth c Z K0 hC hR a1 a2 a3 a4 a5 a6 H ls locs hW hS hL) (fun q => hn _ _ _ _ _ (g.2 q) p e R s m args below meth c Z K0 hC hR a1 a2 a3 a4 a5 a6 H ls locs hW hS hL)
          case ge => exact fun p e R s m args below meth c Z K0 hC hR a1 a2 a3 a4 a5 a6 H ls locs hW hS hL => lv_if_ge hC.x hC.b hd h1 (fun q => h2 _ _ _ _ _ (g.1 q) p e R s m args below meth c Z K0 hC hR a1 a2 a3 a4 a5 a6 H ls locs hW hS hL) (fun q => hn _ _ _ _ _ (g.2 q) p e R s m args below meth c Z K0 hC hR a1 a2 a3 a4 a5 a6 H ls locs hW hS hL)
          case gt => exact fun p e R s m args below meth c Z K0 hC hR a1 a2 a3 a4 a5 a6 H ls locs hW hS hL => lv_if_gt hC.x hC.b hd h1 (fun q => h2 _ _ _ _ _ (g.1 q) p e R s m args below meth c Z K0 hC hR a1 a2 a3 a4 a5 a6 H ls locs hW hS hL) (fun q => hn _ _ _ _ _ (g.2 q) p e R s m args below meth c Z K0 hC hR a1 a2 a3 a4 a5 a6 H ls locs hW hS hL)
          case le => exact fun p e R s m args below meth c Z K0 hC hR a1 a2 a3 a4 a5 a6 H ls locs hW hS hL => lv_if_le hC.x hC.b hd h1 (fun q => h2 _ _ _ _ _ (g.1 q) p e R s m args below meth c Z K0 hC hR a1 a2 a3 a4 a5 a6 H ls locs hW hS hL) (fun q => hn _ _ _ _ _ (g.2 q) p e R s m args below meth c Z K0 hC hR a1 a2 a3 a4 a5 a6 H ls locs hW hS hL)
        case if_icmp c off =>
          obtain ⟨tgt, h1, h2⟩ := jmp off hoI
          have hd := hdec
          rw [hln rfl] at hd
          obtain ⟨x2, r, rfl, g0⟩ := pI_e h
          clear h
          obtain ⟨x1, r, rfl, g⟩ := pI_e g0
          have hn := hnext rfl
          cases c
          case eq => exact fun p e R s m args below meth c Z K0 hC hR a1 a2 a3 a4 a5 a6 H ls locs hW hS hL => lv_icmp_eq hC.x hC.b hd h1 (fun q => h2 _ _ _ _ _ (g.1 q) p e R s m args below meth c Z K0 hC hR a1 a2 a3 a4 a5 a6 H ls locs hW hS hL) (fun q => hn _ _ _ _ _ (g.2 q) p e R s m args below meth c Z K0 hC hR a1 a2 a3 a4 a5 a6 H ls locs hW hS hL)
          case ne => exact fun p e R s m args below meth c Z K0 hC hR a1 a2 a3 a4 a5 a6 H ls locs hW hS hL => lv_icmp_ne hC.x hC.b hd h1 (fun q => h2 _ _ _ _ _ (g.1 q) p e R s m args below meth c Z K0 hC hR a1 a2 a3 a4 a5 a6 H ls locs hW hS hL) (fun q => hn _ _ _ _ _ (g.2 q) p e R s m args below meth c Z K0 hC hR a1 a2 a3 a4 a5 a6 H ls locs hW hS hL)
          case lt => exact fun p e R s m args below meth c Z K0 hC hR a1 a2 a3 a4 a5 a6 H ls locs hW hS hL => lv_icmp_lt hC.x hC.b hd h1 (fun q => h2 _ _ _ _ _ (g.1 q) p e R s m args below meth c Z K0 hC hR a1 a2 a3 a4 a5 a6 H ls locs hW hS hL) (fun q => hn _ _ _ _ _ (g.2 q) p e R s m args below meth c Z K0 hC hR a1 a2 a3 a4 a5 a6 H ls locs hW hS hL)
          case ge => exact fun p e R s m args below meth c Z K0 hC hR a1 a2 a3 a4 a5 a6 H ls locs hW hS hL => lv_icmp_ge hC.x hC.b hd h1 (fun q => h2 _ _ _ _ _ (g.1 q) p e R s m args below meth c Z K0 hC hR a1 a2 a3 a4 a5 a6 H ls locs hW hS hL) (fun q => hn _ _ _ _ _ (g.2 q) p e R s m args below meth c Z K0 hC hR a1 a2 a3 a4 a5 a6 H ls locs hW hS hL)
          case gt => exact fun p e R s m args below meth c Z K0 hC hR a1 a2 a3 a4 a5 a6 H ls locs hW hS hL => lv_icmp_gt hC.x hC.b hd h1 (fun q => h2 _ _ _ _ _ (g.1 q) p e R s m args below meth c Z K0 hC hR a1 a2 a3 a4 a5 a6 H ls locs hW hS hL) (fun q => hn _ _ _ _ _ (g.2 q) p e R s m args below meth c Z K0 hC hR a1 a2 a3 a4 a5 a6 H ls locs hW hS hL)
          case le => exact fun p e R s m args below meth c Z K0 hC hR a1 a2 a3 a4 a5 a6 H ls locs hW hS hL => lv_icmp_le hC.x hC.b hd h1 (fun q => h2 _ _ _ _ _ (g.1 q) p e R s m args below meth c Z K0 hC hR a1 a2 a3 a4 a5 a6 H ls locs hW hS hL) (fun q => hn _ _ _ _ _ (g.2 q) p e R s m args below meth c Z K0 hC hR a1 a2 a3 a4 a5 a6 H ls locs hW hS hL)
        case tableswitch df lo hi offs =>
          obtain ⟨x, r, rfl, g⟩ := pI_e h
          clear h
          cases inf with
          | nil => cases hoI
          | cons t0 ts =>
            have hoI : (okT y pc df t0 && okTs y pc offs.toList ts && decide (offs.size = (hi - lo + 1).toNat) && decide (-100 ≤ lo) && decide (hi ≤ 1000) && decide (lo ≤ hi)) = true := hoI
            simp only [Bool.and_eq_true, decide_eq_true_eq] at hoI
            obtain ⟨⟨⟨⟨⟨g1, g2⟩, g3⟩, g4⟩, g5⟩, g6⟩ := hoI
            have hlen : offs.toList.length = (hi - lo + 1).toNat := by rw [Array.length_toList]; exact g3
            rw [← hlen] at g
            rcases sw_tab offs.toList ts lo (by omega) (by omega) g2 g with ⟨t', off, k, q1, q2, q3, q4⟩ | ⟨q1, q2⟩
            · obtain ⟨e', he', hpc⟩ := okT_e q4
              obtain ⟨e2, he2, hV⟩ := ih false t' _ _ _ _ _ q1
              cases he'.symm.trans he2
              have hkl : k < offs.toList.length := (List.getElem?_eq_some_iff.mp q2).1
              exact fun p e R s m args below meth c Z K0 hC hR a1 a2 a3 a4 a5 a6 H ls locs hW hS hL => lv_tableIn hC.x hC.b hdec (by omega) (by omega) (by rw [show (x.toInt - lo).toNat = k by omega, ← Array.getElem?_toList]; exact q2) hpc (hV p e R s m args below meth c Z K0 hC hR a1 a2 a3 a4 a5 a6 H ls locs hW hS hL)
            · obtain ⟨e', he', hpc⟩ := okT_e g1
              obtain ⟨e2, he2, hV⟩ := ih false t0 _ _ _ _ _ q1
              cases he'.symm.trans he2
              exact fun p e R s m args below meth c Z K0 hC hR a1 a2 a3 a4 a5 a6 H ls locs hW hS hL => lv_tableOut hC.x hC.b hdec (by omega) hpc (hV p e R s m args below meth c Z K0 hC hR a1 a2 a3 a4 a5 a6 H ls locs hW hS hL)
        case lookupswitch df ps =>
          obtain ⟨x, r, rfl, g⟩ := pI_e h
          clear h
          cases inf with
          | nil => cases hoI
          | cons t0 ts =>
            have hoI : (okT y pc df t0 && okTs y pc (ps.toList.map Prod.snd) ts && (ps.toList.zip (ps.toList.drop 1)).all (fun (a, next) => a.1 < next.1) && ps.toList.all (fun q => decide ((kc q.1).toInt = q.1))) = true := hoI
            simp only [Bool.and_eq_true] at hoI
            obtain ⟨⟨⟨g1, g2⟩, g3⟩, g4⟩ := hoI
            have g5 : ∀ q ∈ ps.toList, (kc q.1).toInt = q.1 := fun q hq => of_decide_eq_true (List.all_eq_true.mp g4 q hq)
            rcases sw_look (df := df) ps.toList ts g2 g5 g with ⟨t', q1, q2⟩ | ⟨q1, q2⟩
            · obtain ⟨e', he', hpc⟩ := okT_e q2
              obtain ⟨e2, he2, hV⟩ := ih false t' _ _ _ _ _ q1
              cases he'.symm.trans he2
              exact fun p e R s m args below meth c Z K0 hC hR a1 a2 a3 a4 a5 a6 H ls locs hW hS hL => lv_lookup hC.x hC.b hdec g3 rfl hpc (hV p e R s m args below meth c Z K0 hC hR a1 a2 a3 a4 a5 a6 H ls locs hW hS hL)
            · obtain ⟨e', he', hpc⟩ := okT_e g1
              obtain ⟨e2, he2, hV⟩ := ih false t0 _ _ _ _ _ q1
              cases he'.symm.trans he2
              exact fun p e R s m args below meth c Z K0 hC hR a1 a2 a3 a4 a5 a6 H ls locs hW hS hL => lv_lookup hC.x hC.b hdec g3 q2 hpc (hV p e R s m args below meth c Z K0 hC hR a1 a2 a3 a4 a5 a6 H ls locs hW hS hL)
        case ireturn =>
          have hd := hdec
          rw [hln rfl] at hd
          dsimp only at h
          split at h
          · rename_i r
            unfold okI at hoI
            dsimp only at hoI
            split at hoI
            · rename_i hr
              split at hoI
              · obtain ⟨hK, hz, hq⟩ := retk_e h
                subst hK
                exact fun p e R s m args below meth c Z K0 hC hR a1 a2 a3 a4 a5 a6 H ls locs hW hS hL => (hR r I P H ls locs pc hq hW hS).2 _ hr hz hd
              · cases hoI
            · rename_i hr
              split at hoI
              · obtain ⟨hK, hq⟩ := retk_e h
                subst hK
                exact fun p e R s m args below meth c Z K0 hC hR a1 a2 a3 a4 a5 a6 H ls locs hW hS hL => (hR r I P H ls locs pc hq hW hS).2 _ hr rfl hd
              · cases hoI
            · cases hoI
          · exact False.elim h
        case return_ =>
          have hd := hdec
          rw [hln rfl] at hd
          dsimp only at h
          split at h
          · unfold okI at hoI
            dsimp only at hoI
            split at hoI
            · rename_i hr
              obtain ⟨hK, hq⟩ := retk_e h
              subst hK
              exact fun p e R s m args below meth c Z K0 hC hR a1 a2 a3 a4 a5 a6 H ls locs hW hS hL => (hR (nI 0) I P H ls locs pc hq hW hS).1 hr hd
            · cases hoI
          · exact False.elim h
        case invokevirtual ix =>
          have hd := hdec
          rw [hln rfl] at hd
          exact cx_sound (q0 := 0) hy hoI hd h (hnext rfl)
        case invokespecial ix =>
          have hd := hdec
          rw [hln rfl] at hd
          exact cx_sound (q0 := 1) hy hoI hd h (hnext rfl)
        case invokestatic ix =>
          have hd := hdec
          rw [hln rfl] at hd
          exact cx_sound (q0 := 2) hy hoI hd h (hnext rfl)
        all_goals exact sx_sound hy (by rw [hdec, hln rfl]) hoI h (hnext rfl)
/-- the way in: at entry t of the method, which stands at pc -/
theorem V_run {E : XE} {d y K1 pc K : Nat} {Q : Int32 → mI → mP → Prop} {L : List (Option cv)} {S : List cv} {I : mI} {P : mP} (n t : Nat) (hp : ((tc y)[t]?.map Prod.fst) = some pc) (h : wpx E d y K1 Q n true ((tc y).drop t) L S K I P) : V E d y K1 Q pc L S K I P := by
  have hy : y < nM := ck_tc (by
    intro he
    rw [he] at hp
    cases hp)
  obtain ⟨e, he, hV⟩ := wpx_sound hy (ck_ok hy) n true t L S K I P h
  rw [he] at hp
  cases hp
  exact hV
end
section
set_option maxRecDepth 20000 in
theorem x_RR_init_0 {E : XE} {d : Nat} {K K1 : Nat} {Q : Int32 → mI → mP → Prop} {I : mI} {P : mP} (x0 : Nat) (h : kd K = (1, (nI 60).toNatClampNeg) ∧ ¬ (nI 60) < 0 ∧ K < K1 ∧ kk (K + 1) x0 = (0, 0) ∧ K ≠ 0 ∧ V E (d + 1) m_RR_init K1 Q 12 [some (.inr x0), none] [] (K + 1) (sI I K fun _ => 0) (uP (sP P K fun _ => 0) x0 0 K)) : V E (d + 1) m_RR_init K1 Q 0 [some (.inr x0), none] [] K I P := V_run 9 0 rfl h
set_option maxRecDepth 20000 in
theorem x_RR_init_12 {E : XE} {d : Nat} {K K1 : Nat} {Q : Int32 → mI → mP → Prop} {I : mI} {P : mP} (x0 : Nat) (h : kk K x0 = (0, 0) ∧ V E (d + 1) m_RR_init K1 Q 17 [some (.inr x0), none] [] K (uI I x0 1 (nI 0)) P) : V E (d + 1) m_RR_init K1 Q 12 [some (.inr x0), none] [] K I P := V_run 6 6 rfl h
set_option maxRecDepth 20000 in
theorem x_RR_init_17 {E : XE} {d : Nat} {K K1 : Nat} {Q : Int32 → mI → mP → Prop} {I : mI} {P : mP} (x0 : Nat) (h : kd K = (1, (nI 60).toNatClampNeg) ∧ ¬ (nI 60) < 0 ∧ K < K1 ∧ kk (K + 1) x0 = (0, 0) ∧ K ≠ 0 ∧ V E (d + 1) m_RR_init K1 Q 25 [some (.inr x0), none] [] (K + 1) (sI I K fun _ => 0) (uP (sP P K fun _ => 0) x0 2 K)) : V E (d + 1) m_RR_init K1 Q 17 [some (.inr x0), none] [] K I P := V_run 7 9 rfl h
set_option maxRecDepth 20000 in
theorem x_RR_init_25 {E : XE} {d : Nat} {K K1 : Nat} {Q : Int32 → mI → mP → Prop} {I : mI} {P : mP} (x0 : Nat) (h : kk K x0 = (0, 0) ∧ V E (d + 1) m_RR_init K1 Q 30 [some (.inr x0), none] [] K (uI I x0 3 (nI 0)) P) : V E (d + 1) m_RR_init K1 Q 25 [some (.inr x0), none] [] K I P := V_run 6 13 rfl h
set_option maxRecDepth 20000 in
theorem x_RR_init_30 {E : XE} {d : Nat} {K K1 : Nat} {Q : Int32 → mI → mP → Prop} {I : mI} {P : mP} (x0 : Nat) (h : kd K = (3, (nI 6).toNatClampNeg) ∧ ¬ (nI 6) < 0 ∧ K < K1 ∧ kk (K + 1) x0 = (0, 0) ∧ K ≠ 0 ∧ V E (d + 1) m_RR_init K1 Q 39 [some (.inr x0), none] [] (K + 1) (sI I K fun _ => 0) (uP (sP P K fun _ => 0) x0 4 K)) : V E (d + 1) m_RR_init K1 Q 30 [some (.inr x0), none] [] K I P := V_run 7 16 rfl h
set_option maxRecDepth 20000 in
theorem x_RR_init_39 {E : XE} {d : Nat} {K K1 : Nat} {Q : Int32 → mI → mP → Prop} {I : mI} {P : mP} (x0 : Nat) (h : V E (d + 1) m_RR_init K1 Q 41 [some (.inr x0), some (.inl (nI 0))] [] K I P) : V E (d + 1) m_RR_init K1 Q 39 [some (.inr x0), none] [] K I P := V_run 5 20 rfl h
set_option maxRecDepth 20000 in
theorem x_RR_init_41 {E : XE} {d : Nat} {K K1 : Nat} {Q : Int32 → mI → mP → Prop} {I : mI} {P : mP} (x0 : Nat) (x1 : Int32) (h : ((nI 6) ≤ x1 → kk K x0 = (0, 0) ∧ V E (d + 1) m_RR_init K1 Q 71 [some (.inr x0), none] [] K (uI I x0 5 (nI 0)) P) ∧ (¬ (nI 6) ≤ x1 → kk K x0 = (0, 0) ∧ P x0 4 ≠ 0 ∧ kd K = (0, 1) ∧ K < K1 ∧ K + 1 + 8 ≤ K1 ∧ V E d m_Rule_init (K + 1 + 8) (fun _ I1 P1 => (kk (K + 1 + 8) (P x0 4)).1 = 3 ∧ vp_in x1 (kk (K + 1 + 8) (P x0 4)).2 ∧ kk (K + 1 + 8) K = (0, ciRule) ∧ V E (d + 1) m_RR_init K1 Q 41 [some (.inr x0), some (.inl (x1 + (nI 1)))] [] (K + 1 + 8) I1 (uP P1 (P x0 4) x1.toNatClampNeg K)) 0 [some (.inr K)] [] (K + 1) (sI I K fun _ => 0) (sP P K fun _ => 0))) : V E (d + 1) m_RR_init K1 Q 41 [some (.inr x0), some (.inl x1)] [] K I P := V_run 15 22 rfl h
set_option maxRecDepth 20000 in
theorem x_RR_init_71 {E : XE} {d : Nat} {K K1 : Nat} {Q : Int32 → mI → mP → Prop} {I : mI} {P : mP} (x0 : Nat) (h : kd K = (0, 2) ∧ K < K1 ∧ K + 1 + 31 ≤ K1 ∧ V E d m_Program_init (K + 1 + 31) (fun _ I1 P1 => kk (K + 1 + 31) x0 = (0, 0) ∧ K ≠ 0 ∧ V E (d + 1) m_RR_init K1 Q 82 [some (.inr x0), none] [] (K + 1 + 31) I1 (uP P1 x0 6 K)) 0 [some (.inr K)] [] (K + 1) (sI I K fun _ => 0) (sP P K fun _ => 0)) : V E (d + 1) m_RR_init K1 Q 71 [some (.inr x0), none] [] K I P := V_run 8 37 rfl h
set_option maxRecDepth 20000 in
theorem x_RR_init_82 {E : XE} {d : Nat} {K K1 : Nat} {Q : Int32 → mI → mP → Prop} {I : mI} {P : mP} (x0 : Nat) (h : kk K x0 = (0, 0) ∧ V E (d + 1) m_RR_init K1 Q 87 [some (.inr x0), none] [] K (uI I x0 7 (nI 0)) P) : V E (d + 1) m_RR_init K1 Q 82 [some (.inr x0), none] [] K I P := V_run 6 42 rfl h
set_option maxRecDepth 20000 in
theorem x_RR_init_87 {E : XE} {d : Nat} {K K1 : Nat} {Q : Int32 → mI → mP → Prop} {I : mI} {P : mP} (x0 : Nat) (h : kd K = (0, 5) ∧ K < K1 ∧ K + 1 + 2 ≤ K1 ∧ V E d m_Patch_init (K + 1 + 2) (fun _ I1 P1 => kk (K + 1 + 2) x0 = (0, 0) ∧ K ≠ 0 ∧ retk (K + 1 + 2) K1 (Q (nI 0) I1 (uP P1 x0 8 K))) 0 [some (.inr K)] [] (K + 1) (sI I K fun _ => 0) (sP P K fun _ => 0)) : V E (d + 1) m_RR_init K1 Q 87 [some (.inr x0), none] [] K I P := V_run 8 45 rfl h
set_option maxRecDepth 20000 in
theorem x_Rule_init_0 {E : XE} {d : Nat} {K K1 : Nat} {Q : Int32 → mI → mP → Prop} {I : mI} {P : mP} (x0 : Nat) (h : kd K = (0, 3) ∧ K < K1 ∧ K + 1 + 5 ≤ K1 ∧ V E d m_Text_init (K + 1 + 5) (fun _ I1 P1 => kk (K + 1 + 5) x0 = (0, 1) ∧ K ≠ 0 ∧ V E (d + 1) m_Rule_init K1 Q 17 [some (.inr x0)] [] (K + 1 + 5) I1 (uP P1 x0 0 K)) 0 [some (.inr K), some (.inl (nI 60))] [] (K + 1) (sI I K fun _ => 0) (sP P K fun _ => 0)) : V E (d + 1) m_Rule_init K1 Q 0 [some (.inr x0)] [] K I P := V_run 11 0 rfl h
set_option maxRecDepth 20000 in
theorem x_Rule_init_17 {E : XE} {d : Nat} {K K1 : Nat} {Q : Int32 → mI → mP → Prop} {I : mI} {P : mP} (x0 : Nat) (h : kk K x0 = (0, 1) ∧ V E (d + 1) m_Rule_init K1 Q 22 [some (.inr x0)] [] K (uI I x0 1 (nI 0)) P) : V E (d + 1) m_Rule_init K1 Q 17 [some (.inr x0)] [] K I P := V_run 6 8 rfl h
set_option maxRecDepth 20000 in
theorem x_Rule_init_22 {E : XE} {d : Nat} {K K1 : Nat} {Q : Int32 → mI → mP → Prop} {I : mI} {P : mP} (x0 : Nat) (h : kd K = (1, (nI 10).toNatClampNeg) ∧ ¬ (nI 10) < 0 ∧ K < K1 ∧ kk (K + 1) x0 = (0, 1) ∧ K ≠ 0 ∧ V E (d + 1) m_Rule_init K1 Q 30 [some (.inr x0)] [] (K + 1) (sI I K fun _ => 0) (uP (sP P K fun _ => 0) x0 2 K)) : V E (d + 1) m_Rule_init K1 Q 22 [some (.inr x0)] [] K I P := V_run 7 11 rfl h
set_option maxRecDepth 20000 in
theorem x_Rule_init_30 {E : XE} {d : Nat} {K K1 : Nat} {Q : Int32 → mI → mP → Prop} {I : mI} {P : mP} (x0 : Nat) (h : kd K = (1, (nI 10).toNatClampNeg) ∧ ¬ (nI 10) < 0 ∧ K < K1 ∧ kk (K + 1) x0 = (0, 1) ∧ K ≠ 0 ∧ retk (K + 1) K1 (Q (nI 0) (sI I K fun _ => 0) (uP (sP P K fun _ => 0) x0 3 K))) : V E (d + 1) m_Rule_init K1 Q 30 [some (.inr x0)] [] K I P := V_run 7 15 rfl h
set_option maxRecDepth 20000 in
theorem x_Text_init_0 {E : XE} {d : Nat} {K K1 : Nat} {Q : Int32 → mI → mP → Prop} {I : mI} {P : mP} (x0 : Nat) (x1 : Int32) (h : kd K = (1, x1.toNatClampNeg) ∧ ¬ x1 < 0 ∧ K < K1 ∧ kk (K + 1) x0 = (0, 3) ∧ K ≠ 0 ∧ V E (d + 1) m_Text_init K1 Q 11 [some (.inr x0), some (.inl x1)] [] (K + 1) (sI I K fun _ => 0) (uP (sP P K fun _ => 0) x0 0 K)) : V E (d + 1) m_Text_init K1 Q 0 [some (.inr x0), some (.inl x1)] [] K I P := V_run 9 0 rfl h
set_option maxRecDepth 20000 in
theorem x_Text_init_11 {E : XE} {d : Nat} {K K1 : Nat} {Q : Int32 → mI → mP → Prop} {I : mI} {P : mP} (x0 : Nat) (x1 : Int32) (h : kd K = (1, x1.toNatClampNeg) ∧ ¬ x1 < 0 ∧ K < K1 ∧ kk (K + 1) x0 = (0, 3) ∧ K ≠ 0 ∧ V E (d + 1) m_Text_init K1 Q 18 [some (.inr x0), some (.inl x1)] [] (K + 1) (sI I K fun _ => 0) (uP (sP P K fun _ => 0) x0 1 K)) : V E (d + 1) m_Text_init K1 Q 11 [some (.inr x0), some (.inl x1)] [] K I P := V_run 7 6 rfl h
set_option maxRecDepth 20000 in
theorem x_Text_init_18 {E : XE} {d : Nat} {K K1 : Nat} {Q : Int32 → mI → mP → Prop} {I : mI} {P : mP} (x0 : Nat) (x1 : Int32) (h : kd K = (1, x1.toNatClampNeg) ∧ ¬ x1 < 0 ∧ K < K1 ∧ kk (K + 1) x0 = (0, 3) ∧ K ≠ 0 ∧ V E (d + 1) m_Text_init K1 Q 25 [some (.inr x0), some (.inl x1)] [] (K + 1) (sI I K fun _ => 0) (uP (sP P K fun _ => 0) x0 2 K)) : V E (d + 1) m_Text_init K1 Q 18 [some (.inr x0), some (.inl x1)] [] K I P := V_run 7 10 rfl h
set_option maxRecDepth 20000 in
theorem x_Text_init_25 {E : XE} {d : Nat} {K K1 : Nat} {Q : Int32 → mI → mP → Prop} {I : mI} {P : mP} (x0 : Nat) (x1 : Int32) (h : kd K = (1, x1.toNatClampNeg) ∧ ¬ x1 < 0 ∧ K < K1 ∧ kk (K + 1) x0 = (0, 3) ∧ K ≠ 0 ∧ V E (d + 1) m_Text_init K1 Q 32 [some (.inr x0), some (.inl x1)] [] (K + 1) (sI I K fun _ => 0) (uP (sP P K fun _ => 0) x0 3 K)) : V E (d + 1) m_Text_init K1 Q 25 [some (.inr x0), some (.inl x1)] [] K I P := V_run 7 14 rfl h
set_option maxRecDepth 20000 in
theorem x_Text_init_32 {E : XE} {d : Nat} {K K1 : Nat} {Q : Int32 → mI → mP → Prop} {I : mI} {P : mP} (x0 : Nat) (x1 : Int32) (h : kd K = (1, x1.toNatClampNeg) ∧ ¬ x1 < 0 ∧ K < K1 ∧ kk (K + 1) x0 = (0, 3) ∧ K ≠ 0 ∧ V E (d + 1) m_Text_init K1 Q 39 [some (.inr x0), none] [] (K + 1) (sI I K fun _ => 0) (uP (sP P K fun _ => 0) x0 4 K)) : V E (d + 1) m_Text_init K1 Q 32 [some (.inr x0), some (.inl x1)] [] K I P := V_run 7 18 rfl h
set_option maxRecDepth 20000 in
theorem x_Text_init_39 {E : XE} {d : Nat} {K K1 : Nat} {Q : Int32 → mI → mP → Prop} {I : mI} {P : mP} (x0 : Nat) (h : kk K x0 = (0, 3) ∧ V E (d + 1) m_Text_init K1 Q 44 [some (.inr x0), none] [] K (uI I x0 5 (nI 0)) P) : V E (d + 1) m_Text_init K1 Q 39 [some (.inr x0), none] [] K I P := V_run 6 22 rfl h
set_option maxRecDepth 20000 in
theorem x_Text_init_44 {E : XE} {d : Nat} {K K1 : Nat} {Q : Int32 → mI → mP → Prop} {I : mI} {P : mP} (x0 : Nat) (h : kk K x0 = (0, 3) ∧ retk K K1 (Q (nI 0) (uI I x0 6 (nI 0)) P)) : V E (d + 1) m_Text_init K1 Q 44 [some (.inr x0), none] [] K I P := V_run 6 25 rfl h
set_option maxRecDepth 20000 in
theorem x_Program_init_0 {E : XE} {d : Nat} {K K1 : Nat} {Q : Int32 → mI → mP → Prop} {I : mI} {P : mP} (x0 : Nat) (h : kd K = (0, 3) ∧ K < K1 ∧ K + 1 + 5 ≤ K1 ∧ V E d m_Text_init (K + 1 + 5) (fun _ I1 P1 => kk (K + 1 + 5) x0 = (0, 2) ∧ K ≠ 0 ∧ V E (d + 1) m_Program_init K1 Q 17 [some (.inr x0)] [] (K + 1 + 5) I1 (uP P1 x0 0 K)) 0 [some (.inr K), some (.inl (nI 120))] [] (K + 1) (sI I K fun _ => 0) (sP P K fun _ => 0)) : V E (d + 1) m_Program_init K1 Q 0 [some (.inr x0)] [] K I P := V_run 11 0 rfl h
set_option maxRecDepth 20000 in
theorem x_Program_init_17 {E : XE} {d : Nat} {K K1 : Nat} {Q : Int32 → mI → mP → Prop} {I : mI} {P : mP} (x0 : Nat) (h : kd K = (0, 3) ∧ K < K1 ∧ K + 1 + 5 ≤ K1 ∧ V E d m_Text_init (K + 1 + 5) (fun _ I1 P1 => kk (K + 1 + 5) x0 = (0, 2) ∧ K ≠ 0 ∧ V E (d + 1) m_Program_init K1 Q 30 [some (.inr x0)] [] (K + 1 + 5) I1 (uP P1 x0 1 K)) 0 [some (.inr K), some (.inl (nI 120))] [] (K + 1) (sI I K fun _ => 0) (sP P K fun _ => 0)) : V E (d + 1) m_Program_init K1 Q 17 [some (.inr x0)] [] K I P := V_run 9 8 rfl h
set_option maxRecDepth 20000 in
theorem x_Program_init_30 {E : XE} {d : Nat} {K K1 : Nat} {Q : Int32 → mI → mP → Prop} {I : mI} {P : mP} (x0 : Nat) (h : kd K = (0, 3) ∧ K < K1 ∧ K + 1 + 5 ≤ K1 ∧ V E d m_Text_init (K + 1 + 5) (fun _ I1 P1 => kk (K + 1 + 5) x0 = (0, 2) ∧ K ≠ 0 ∧ V E (d + 1) m_Program_init K1 Q 43 [some (.inr x0)] [] (K + 1 + 5) I1 (uP P1 x0 2 K)) 0 [some (.inr K), some (.inl (nI 120))] [] (K + 1) (sI I K fun _ => 0) (sP P K fun _ => 0)) : V E (d + 1) m_Program_init K1 Q 30 [some (.inr x0)] [] K I P := V_run 9 14 rfl h
set_option maxRecDepth 20000 in
theorem x_Program_init_43 {E : XE} {d : Nat} {K K1 : Nat} {Q : Int32 → mI → mP → Prop} {I : mI} {P : mP} (x0 : Nat) (h : kd K = (0, 3) ∧ K < K1 ∧ K + 1 + 5 ≤ K1 ∧ V E d m_Text_init (K + 1 + 5) (fun _ I1 P1 => kk (K + 1 + 5) x0 = (0, 2) ∧ K ≠ 0 ∧ V E (d + 1) m_Program_init K1 Q 56 [some (.inr x0)] [] (K + 1 + 5) I1 (uP P1 x0 3 K)) 0 [some (.inr K), some (.inl (nI 120))] [] (K + 1) (sI I K fun _ => 0) (sP P K fun _ => 0)) : V E (d + 1) m_Program_init K1 Q 43 [some (.inr x0)] [] K I P := V_run 9 20 rfl h
set_option maxRecDepth 20000 in
theorem x_Program_init_56 {E : XE} {d : Nat} {K K1 : Nat} {Q : Int32 → mI → mP → Prop} {I : mI} {P : mP} (x0 : Nat) (h : kd K = (0, 4) ∧ K < K1 ∧ K + 1 + 5 ≤ K1 ∧ V E d m_Outline_init (K + 1 + 5) (fun _ I1 P1 => kk (K + 1 + 5) x0 = (0, 2) ∧ K ≠ 0 ∧ V E (d + 1) m_Program_init K1 Q 69 [some (.inr x0)] [] (K + 1 + 5) I1 (uP P1 x0 4 K)) 0 [some (.inr K), some (.inl (nI 120))] [] (K + 1) (sI I K fun _ => 0) (sP P K fun _ => 0)) : V E (d + 1) m_Program_init K1 Q 56 [some (.inr x0)] [] K I P := V_run 9 26 rfl h
set_option maxRecDepth 20000 in
theorem x_Program_init_69 {E : XE} {d : Nat} {K K1 : Nat} {Q : Int32 → mI → mP → Prop} {I : mI} {P : mP} (x0 : Nat) (h : kd K = (1, (nI 120).toNatClampNeg) ∧ ¬ (nI 120) < 0 ∧ K < K1 ∧ kk (K + 1) x0 = (0, 2) ∧ K ≠ 0 ∧ V E (d + 1) m_Program_init K1 Q 77 [some (.inr x0)] [] (K + 1) (sI I K fun _ => 0) (uP (sP P K fun _ => 0) x0 5 K)) : V E (d + 1) m_Program_init K1 Q 69 [some (.inr x0)] [] K I P := V_run 7 32 rfl h
set_option maxRecDepth 20000 in
theorem x_Program_init_77 {E : XE} {d : Nat} {K K1 : Nat} {Q : Int32 → mI → mP → Prop} {I : mI} {P : mP} (x0 : Nat) (h : kk K x0 = (0, 2) ∧ retk K K1 (Q (nI 0) (uI I x0 6 (nI 0)) P)) : V E (d + 1) m_Program_init K1 Q 77 [some (.inr x0)] [] K I P := V_run 6 36 rfl h
set_option maxRecDepth 20000 in
theorem x_Outline_init_0 {E : XE} {d : Nat} {K K1 : Nat} {Q : Int32 → mI → mP → Prop} {I : mI} {P : mP} (x0 : Nat) (x1 : Int32) (h : kd K = (1, x1.toNatClampNeg) ∧ ¬ x1 < 0 ∧ K < K1 ∧ kk (K + 1) x0 = (0, 4) ∧ K ≠ 0 ∧ V E (d + 1) m_Outline_init K1 Q 11 [some (.inr x0), some (.inl x1)] [] (K + 1) (sI I K fun _ => 0) (uP (sP P K fun _ => 0) x0 0 K)) : V E (d + 1) m_Outline_init K1 Q 0 [some (.inr x0), some (.inl x1)] [] K I P := V_run 9 0 rfl h
set_option maxRecDepth 20000 in
theorem x_Outline_init_11 {E : XE} {d : Nat} {K K1 : Nat} {Q : Int32 → mI → mP → Prop} {I : mI} {P : mP} (x0 : Nat) (x1 : Int32) (h : kk K x0 = (0, 4) ∧ V E (d + 1) m_Outline_init K1 Q 16 [some (.inr x0), some (.inl x1)] [] K (uI I x0 1 (nI 0)) P) : V E (d + 1) m_Outline_init K1 Q 11 [some (.inr x0), some (.inl x1)] [] K I P := V_run 6 6 rfl h
set_option maxRecDepth 20000 in
theorem x_Outline_init_16 {E : XE} {d : Nat} {K K1 : Nat} {Q : Int32 → mI → mP → Prop} {I : mI} {P : mP} (x0 : Nat) (x1 : Int32) (h : kd K = (1, x1.toNatClampNeg) ∧ ¬ x1 < 0 ∧ K < K1 ∧ kk (K + 1) x0 = (0, 4) ∧ K ≠ 0 ∧ V E (d + 1) m_Outline_init K1 Q 23 [some (.inr x0), some (.inl x1)] [] (K + 1) (sI I K fun _ => 0) (uP (sP P K fun _ => 0) x0 2 K)) : V E (d + 1) m_Outline_init K1 Q 16 [some (.inr x0), some (.inl x1)] [] K I P := V_run 7 9 rfl h
set_option maxRecDepth 20000 in
theorem x_Outline_init_23 {E : XE} {d : Nat} {K K1 : Nat} {Q : Int32 → mI → mP → Prop} {I : mI} {P : mP} (x0 : Nat) (x1 : Int32) (h : kd K = (1, x1.toNatClampNeg) ∧ ¬ x1 < 0 ∧ K < K1 ∧ kk (K + 1) x0 = (0, 4) ∧ K ≠ 0 ∧ V E (d + 1) m_Outline_init K1 Q 30 [some (.inr x0), some (.inl x1)] [] (K + 1) (sI I K fun _ => 0) (uP (sP P K fun _ => 0) x0 3 K)) : V E (d + 1) m_Outline_init K1 Q 23 [some (.inr x0), some (.inl x1)] [] K I P := V_run 7 13 rfl h
set_option maxRecDepth 20000 in
theorem x_Outline_init_30 {E : XE} {d : Nat} {K K1 : Nat} {Q : Int32 → mI → mP → Prop} {I : mI} {P : mP} (x0 : Nat) (x1 : Int32) (h : kd K = (1, x1.toNatClampNeg) ∧ ¬ x1 < 0 ∧ K < K1 ∧ kk (K + 1) x0 = (0, 4) ∧ K ≠ 0 ∧ V E (d + 1) m_Outline_init K1 Q 37 [some (.inr x0), none] [] (K + 1) (sI I K fun _ => 0) (uP (sP P K fun _ => 0) x0 4 K)) : V E (d + 1) m_Outline_init K1 Q 30 [some (.inr x0), some (.inl x1)] [] K I P := V_run 7 17 rfl h
set_option maxRecDepth 20000 in
theorem x_Outline_init_37 {E : XE} {d : Nat} {K K1 : Nat} {Q : Int32 → mI → mP → Prop} {I : mI} {P : mP} (x0 : Nat) (h : kk K x0 = (0, 4) ∧ V E (d + 1) m_Outline_init K1 Q 42 [some (.inr x0), none] [] K (uI I x0 5 (nI 0)) P) : V E (d + 1) m_Outline_init K1 Q 37 [some (.inr x0), none] [] K I P := V_run 6 21 rfl h
set_option maxRecDepth 20000 in
theorem x_Outline_init_42 {E : XE} {d : Nat} {K K1 : Nat} {Q : Int32 → mI → mP → Prop} {I : mI} {P : mP} (x0 : Nat) (h : kd K = (1, (nI 12).toNatClampNeg) ∧ ¬ (nI 12) < 0 ∧ K < K1 ∧ kk (K + 1) x0 = (0, 4) ∧ K ≠ 0 ∧ retk (K + 1) K1 (Q (nI 0) (sI I K fun _ => 0) (uP (sP P K fun _ => 0) x0 6 K))) : V E (d + 1) m_Outline_init K1 Q 42 [some (.inr x0), none] [] K I P := V_run 7 24 rfl h
set_option maxRecDepth 20000 in
theorem x_Patch_init_0 {E : XE} {d : Nat} {K K1 : Nat} {Q : Int32 → mI → mP → Prop} {I : mI} {P : mP} (x0 : Nat) (h : kd K = (1, (nI 7381).toNatClampNeg) ∧ ¬ (nI 7381) < 0 ∧ K < K1 ∧ kk (K + 1) x0 = (0, 5) ∧ K ≠ 0 ∧ V E (d + 1) m_Patch_init K1 Q 13 [some (.inr x0)] [] (K + 1) (sI I K fun _ => 0) (uP (sP P K fun _ => 0) x0 0 K)) : V E (d + 1) m_Patch_init K1 Q 0 [some (.inr x0)] [] K I P := V_run 9 0 rfl h
set_option maxRecDepth 20000 in
theorem x_Patch_init_13 {E : XE} {d : Nat} {K K1 : Nat} {Q : Int32 → mI → mP → Prop} {I : mI} {P : mP} (x0 : Nat) (h : kd K = (1, (nI 180).toNatClampNeg) ∧ ¬ (nI 180) < 0 ∧ K < K1 ∧ kk (K + 1) x0 = (0, 5) ∧ K ≠ 0 ∧ V E (d + 1) m_Patch_init K1 Q 22 [some (.inr x0)] [] (K + 1) (sI I K fun _ => 0) (uP (sP P K fun _ => 0) x0 1 K)) : V E (d + 1) m_Patch_init K1 Q 13 [some (.inr x0)] [] K I P := V_run 7 6 rfl h
set_option maxRecDepth 20000 in
theorem x_Patch_init_22 {E : XE} {d : Nat} {K K1 : Nat} {Q : Int32 → mI → mP → Prop} {I : mI} {P : mP} (x0 : Nat) (h : kk K x0 = (0, 5) ∧ V E (d + 1) m_Patch_init K1 Q 27 [some (.inr x0)] [] K (uI I x0 2 (nI 0)) P) : V E (d + 1) m_Patch_init K1 Q 22 [some (.inr x0)] [] K I P := V_run 6 10 rfl h
set_option maxRecDepth 20000 in
theorem x_Patch_init_27 {E : XE} {d : Nat} {K K1 : Nat} {Q : Int32 → mI → mP → Prop} {I : mI} {P : mP} (x0 : Nat) (h : kk K x0 = (0, 5) ∧ V E (d + 1) m_Patch_init K1 Q 32 [some (.inr x0)] [] K (uI I x0 3 (nI 0)) P) : V E (d + 1) m_Patch_init K1 Q 27 [some (.inr x0)] [] K I P := V_run 6 13 rfl h
set_option maxRecDepth 20000 in
theorem x_Patch_init_32 {E : XE} {d : Nat} {K K1 : Nat} {Q : Int32 → mI → mP → Prop} {I : mI} {P : mP} (x0 : Nat) (h : kk K x0 = (0, 5) ∧ narrow .boolean (.int (nI 0)) = .int (nI 0) ∧ fits .boolean (.int (nI 0)) = true ∧ retk K K1 (Q (nI 0) (uI I x0 4 (nI 0)) P)) : V E (d + 1) m_Patch_init K1 Q 32 [some (.inr x0)] [] K I P := V_run 6 16 rfl h
set_option maxRecDepth 20000 in
theorem x_RR_type_0 {E : XE} {d : Nat} {Q : Int32 → mI → mP → Prop} {I : mI} {P : mP} (x0 : Nat) (x1 : Int32) (h : (x1 = (nI 10) → V E d m_RR_type 112 Q 24 [some (.inr x0), some (.inl x1), some (.inl (nI 1))] [] 112 I P) ∧ (¬ x1 = (nI 10) → (x1 < (nI 32) → V E d m_RR_type 112 Q 24 [some (.inr x0), some (.inl x1), some (.inl (nI 0))] [] 112 I P) ∧ (¬ x1 < (nI 32) → ((nI 126) < x1 → V E d m_RR_type 112 Q 24 [some (.inr x0), some (.inl x1), some (.inl (nI 0))] [] 112 I P) ∧ (¬ (nI 126) < x1 → V E d m_RR_type 112 Q 24 [some (.inr x0), some (.inl x1), some (.inl (nI 1))] [] 112 I P)))) : V E d m_RR_type 112 Q 0 [some (.inr x0), some (.inl x1), none] [] 112 I P := V_run 15 0 rfl h
set_option maxRecDepth 20000 in
theorem x_RR_type_24 {E : XE} {d : Nat} {Q : Int32 → mI → mP → Prop} {I : mI} {P : mP} (x0 : Nat) (x1 : Int32) (x2 : Int32) (h : (x2 = 0 → zb (nI 0) ∧ Q (nI 0) I P) ∧ (¬ x2 = 0 → kk 112 x0 = (0, 0) ∧ ((I x0 1) < (nI 60) → kk 112 x0 = (0, 0) ∧ P x0 0 ≠ 0 ∧ kk 112 x0 = (0, 0) ∧ (kk 112 (P x0 0)).1 = 1 ∧ vp_in (I x0 1) (kk 112 (P x0 0)).2 ∧ kk 112 x0 = (0, 0) ∧ kk 112 x0 = (0, 0) ∧ zb (nI 1) ∧ Q (nI 1) (uI (uI I (P x0 0) (I x0 1).toNatClampNeg x1) x0 1 (((uI I (P x0 0) (I x0 1).toNatClampNeg x1) x0 1) + (nI 1))) P) ∧ (¬ (I x0 1) < (nI 60) → zb (nI 0) ∧ Q (nI 0) I P))) : V E d m_RR_type 112 Q 24 [some (.inr x0), some (.inl x1), some (.inl x2)] [] 112 I P := V_run 22 13 rfl h
set_option maxRecDepth 20000 in
theorem x_RR_clear_0 {E : XE} {d : Nat} {Q : Int32 → mI → mP → Prop} {I : mI} {P : mP} (x0 : Nat) (h : kk 112 x0 = (0, 0) ∧ Q (nI 0) (uI I x0 1 (nI 0)) P) : V E d m_RR_clear 112 Q 0 [some (.inr x0)] [] 112 I P := V_run 6 0 rfl h
set_option maxRecDepth 20000 in
theorem x_RR_buffered_0 {E : XE} {d : Nat} {Q : Int32 → mI → mP → Prop} {I : mI} {P : mP} (x0 : Nat) (h : kk 112 x0 = (0, 0) ∧ Q (I x0 1) I P) : V E d m_RR_buffered 112 Q 0 [some (.inr x0)] [] 112 I P := V_run 5 0 rfl h
set_option maxRecDepth 20000 in
theorem x_RR_load_0 {E : XE} {d : Nat} {Q : Int32 → mI → mP → Prop} {I : mI} {P : mP} (x0 : Nat) (h : kk 112 x0 = (0, 0) ∧ P x0 0 ≠ 0 ∧ kk 112 x0 = (0, 0) ∧ P x0 2 ≠ 0 ∧ kk 112 x0 = (0, 0) ∧ (kk 112 (P x0 0)).1 = 1 ∧ (kk 112 (P x0 2)).1 = 1 ∧ ¬ (nI 0) < 0 ∧ ¬ (nI 0) < 0 ∧ ¬ (I x0 1) < 0 ∧ (nI 0).toNatClampNeg + (I x0 1).toNatClampNeg ≤ (kk 112 (P x0 0)).2 ∧ (nI 0).toNatClampNeg + (I x0 1).toNatClampNeg ≤ (kk 112 (P x0 2)).2 ∧ kk 112 x0 = (0, 0) ∧ kk 112 x0 = (0, 0) ∧ kk 112 x0 = (0, 0) ∧ kk 112 x0 = (0, 0) ∧ kk 112 x0 = (0, 0) ∧ P x0 6 ≠ 0 ∧ kk 112 x0 = (0, 0) ∧ P x0 2 ≠ 0 ∧ kk 112 x0 = (0, 0) ∧ kk 112 (P x0 6) = (0, 2) ∧ V E d m_Program_become 112 (fun _ I1 P1 => kk 112 x0 = (0, 0) ∧ P1 x0 8 ≠ 0 ∧ kk 112 (P1 x0 8) = (0, 5) ∧ V E d m_Patch_forget 112 (fun _ I2 P2 => kk 112 x0 = (0, 0) ∧ P2 x0 6 ≠ 0 ∧ kk 112 (P2 x0 6) = (0, 2) ∧ P2 (P2 x0 6) 4 ≠ 0 ∧ kk 112 (P2 (P2 x0 6) 4) = (0, 4) ∧ Q (I2 (P2 (P2 x0 6) 4) 1) I2 P2) 0 [some (.inr (P1 x0 8))] [] 112 I1 P1) 0 [some (.inr (P x0 6)), some (.inr (P x0 2)), some (.inl ((uI (uI (uI (sI I (P x0 2) (va_cpy (I (P x0 0)) (I (P x0 2)) (nI 0).toNatClampNeg (nI 0).toNatClampNeg (I x0 1).toNatClampNeg)) x0 3 ((sI I (P x0 2) (va_cpy (I (P x0 0)) (I (P x0 2)) (nI 0).toNatClampNeg (nI 0).toNatClampNeg (I x0 1).toNatClampNeg)) x0 1)) x0 1 (nI 0)) x0 7 (nI 0)) x0 3)), none] [] 112 (uI (uI (uI (sI I (P x0 2) (va_cpy (I (P x0 0)) (I (P x0 2)) (nI 0).toNatClampNeg (nI 0).toNatClampNeg (I x0 1).toNatClampNeg)) x0 3 ((sI I (P x0 2) (va_cpy (I (P x0 0)) (I (P x0 2)) (nI 0).toNatClampNeg (nI 0).toNatClampNeg (I x0 1).toNatClampNeg)) x0 1)) x0 1 (nI 0)) x0 7 (nI 0)) P) : V E (d + 1) m_RR_load 112 Q 0 [some (.inr x0)] [] 112 I P := V_run 36 0 rfl h
set_option maxRecDepth 20000 in
theorem x_Program_become_0 {E : XE} {d : Nat} {Q : Int32 → mI → mP → Prop} {I : mI} {P : mP} (x0 : Nat) (x1 : Nat) (x2 : Int32) (h : kk 112 x0 = (0, 2) ∧ P x0 0 ≠ 0 ∧ kk 112 (P x0 0) = (0, 3) ∧ V E d m_Text_become 112 (fun _ I1 P1 => kk 112 x0 = (0, 2) ∧ P1 x0 4 ≠ 0 ∧ kk 112 x0 = (0, 2) ∧ P1 x0 0 ≠ 0 ∧ kk 112 (P1 x0 4) = (0, 4) ∧ V E d m_Outline_become 112 (fun _ I2 P2 => V E (d + 1) m_Program_become 112 Q 22 [some (.inr x0), none, none, some (.inl (nI 0))] [] 112 I2 P2) 0 [some (.inr (P1 x0 4)), some (.inr (P1 x0 0)), none, none] [] 112 I1 P1) 0 [some (.inr (P x0 0)), some (.inr x1), some (.inl x2)] [] 112 I P) : V E (d + 1) m_Program_become 112 Q 0 [some (.inr x0), some (.inr x1), some (.inl x2), none] [] 112 I P := V_run 15 0 rfl h
set_option maxRecDepth 20000 in
theorem x_Program_become_22 {E : XE} {d : Nat} {Q : Int32 → mI → mP → Prop} {I : mI} {P : mP} (x0 : Nat) (x3 : Int32) (h : kk 112 x0 = (0, 2) ∧ P x0 4 ≠ 0 ∧ kk 112 (P x0 4) = (0, 4) ∧ ((I (P x0 4) 5) ≤ x3 → kk 112 x0 = (0, 2) ∧ Q (nI 0) (uI I x0 6 (nI 0)) P) ∧ (¬ (I (P x0 4) 5) ≤ x3 → kk 112 x0 = (0, 2) ∧ P x0 0 ≠ 0 ∧ kk 112 x0 = (0, 2) ∧ P x0 0 ≠ 0 ∧ kk 112 (P x0 0) = (0, 3) ∧ P (P x0 0) 3 ≠ 0 ∧ kk 112 x0 = (0, 2) ∧ P x0 4 ≠ 0 ∧ kk 112 (P x0 4) = (0, 4) ∧ P (P x0 4) 2 ≠ 0 ∧ (kk 112 (P (P x0 4) 2)).1 = 1 ∧ vp_in x3 (kk 112 (P (P x0 4) 2)).2 ∧ (kk 112 (P (P x0 0) 3)).1 = 1 ∧ vp_in (I (P (P x0 4) 2) x3.toNatClampNeg) (kk 112 (P (P x0 0) 3)).2 ∧ kk 112 x0 = (0, 2) ∧ P x0 0 ≠ 0 ∧ kk 112 (P x0 0) = (0, 3) ∧ P (P x0 0) 4 ≠ 0 ∧ kk 112 x0 = (0, 2) ∧ P x0 4 ≠ 0 ∧ kk 112 (P x0 4) = (0, 4) ∧ P (P x0 4) 3 ≠ 0 ∧ (kk 112 (P (P x0 4) 3)).1 = 1 ∧ vp_in x3 (kk 112 (P (P x0 4) 3)).2 ∧ (kk 112 (P (P x0 0) 4)).1 = 1 ∧ vp_in (I (P (P x0 4) 3) x3.toNatClampNeg) (kk 112 (P (P x0 0) 4)).2 ∧ kk 112 (P x0 0) = (0, 3) ∧ V E d m_Text_markSpan 112 (fun _ I1 P1 => V E (d + 1) m_Program_become 112 Q 22 [some (.inr x0), none, none, some (.inl (x3 + (nI 1)))] [] 112 I1 P1) 0 [some (.inr (P x0 0)), some (.inl (I (P (P x0 0) 3) (I (P (P x0 4) 2) x3.toNatClampNeg).toNatClampNeg)), some (.inl (I (P (P x0 0) 4) (I (P (P x0 4) 3) x3.toNatClampNeg).toNatClampNeg)), some (.inl (nI 0)), none] [] 112 I P)) : V E (d + 1) m_Program_become 112 Q 22 [some (.inr x0), none, none, some (.inl x3)] [] 112 I P := V_run 32 12 rfl h
set_option maxRecDepth 20000 in
theorem x_Text_become_0 {E : XE} {d : Nat} {Q : Int32 → mI → mP → Prop} {I : mI} {P : mP} (x0 : Nat) (x1 : Nat) (x2 : Int32) (h : kk 112 x0 = (0, 3) ∧ V E d m_Text_empty 112 (fun _ I1 P1 => 1 ≤ (kk 112 x1).1 ∧ (kk 112 x1).1 ≤ 3 ∧ kk 112 x0 = (0, 3) ∧ P1 x0 0 ≠ 0 ∧ 1 ≤ (kk 112 (P1 x0 0)).1 ∧ (kk 112 (P1 x0 0)).1 ≤ 3 ∧ kk 112 x0 = (0, 3) ∧ V E (d + 1) m_Text_become 112 Q 26 [some (.inr x0), some (.inr x1), none] [] 112 (uI I1 x0 5 (if (nI 0) < (if (if (nI (kk 112 (P1 x0 0)).2) < (nI (kk 112 x1).2) then (nI (kk 112 (P1 x0 0)).2) else (nI (kk 112 x1).2)) < x2 then (if (nI (kk 112 (P1 x0 0)).2) < (nI (kk 112 x1).2) then (nI (kk 112 (P1 x0 0)).2) else (nI (kk 112 x1).2)) else x2) then (if (if (nI (kk 112 (P1 x0 0)).2) < (nI (kk 112 x1).2) then (nI (kk 112 (P1 x0 0)).2) else (nI (kk 112 x1).2)) < x2 then (if (nI (kk 112 (P1 x0 0)).2) < (nI (kk 112 x1).2) then (nI (kk 112 (P1 x0 0)).2) else (nI (kk 112 x1).2)) else x2) else (nI 0))) P1) 0 [some (.inr x0)] [] 112 I P) : V E (d + 1) m_Text_become 112 Q 0 [some (.inr x0), some (.inr x1), some (.inl x2)] [] 112 I P := V_run 17 0 rfl h
set_option maxRecDepth 20000 in
theorem x_Text_become_26 {E : XE} {d : Nat} {Q : Int32 → mI → mP → Prop} {I : mI} {P : mP} (x0 : Nat) (x1 : Nat) (h : kk 112 x0 = (0, 3) ∧ P x0 0 ≠ 0 ∧ kk 112 x0 = (0, 3) ∧ (kk 112 x1).1 = 1 ∧ (kk 112 (P x0 0)).1 = 1 ∧ ¬ (nI 0) < 0 ∧ ¬ (nI 0) < 0 ∧ ¬ (I x0 5) < 0 ∧ (nI 0).toNatClampNeg + (I x0 5).toNatClampNeg ≤ (kk 112 x1).2 ∧ (nI 0).toNatClampNeg + (I x0 5).toNatClampNeg ≤ (kk 112 (P x0 0)).2 ∧ V E (d + 1) m_Text_become 112 Q 40 [some (.inr x0), none, none] [] 112 (sI I (P x0 0) (va_cpy (I x1) (I (P x0 0)) (nI 0).toNatClampNeg (nI 0).toNatClampNeg (I x0 5).toNatClampNeg)) P) : V E (d + 1) m_Text_become 112 Q 26 [some (.inr x0), some (.inr x1), none] [] 112 I P := V_run 11 14 rfl h
set_option maxRecDepth 20000 in
theorem x_Text_become_40 {E : XE} {d : Nat} {Q : Int32 → mI → mP → Prop} {I : mI} {P : mP} (x0 : Nat) (h : kk 112 x0 = (0, 3) ∧ kk 112 x0 = (0, 3) ∧ V E d m_Text_markSpan 112 (fun _ I1 P1 => kk 112 x0 = (0, 3) ∧ V E d m_Text_findTokens 112 (fun _ I2 P2 => Q (nI 0) I2 P2) 0 [some (.inr x0), none, none, none, none] [] 112 I1 P1) 0 [some (.inr x0), some (.inl (nI 0)), some (.inl (I x0 5)), some (.inl (-(nI 1))), none] [] 112 I P) : V E (d + 1) m_Text_become 112 Q 40 [some (.inr x0), none, none] [] 112 I P := V_run 11 22 rfl h
set_option maxRecDepth 20000 in
theorem x_Text_empty_0 {E : XE} {d : Nat} {Q : Int32 → mI → mP → Prop} {I : mI} {P : mP} (x0 : Nat) (h : kk 112 x0 = (0, 3) ∧ kk 112 x0 = (0, 3) ∧ Q (nI 0) (uI (uI I x0 5 (nI 0)) x0 6 (nI 0)) P) : V E d m_Text_empty 112 Q 0 [some (.inr x0)] [] 112 I P := V_run 9 0 rfl h
set_option maxRecDepth 20000 in
theorem x_Text_markSpan_0 {E : XE} {d : Nat} {Q : Int32 → mI → mP → Prop} {I : mI} {P : mP} (x0 : Nat) (x1 : Int32) (x2 : Int32) (x3 : Int32) (h : V E (d + 1) m_Text_markSpan 112 Q 7 [some (.inr x0), none, some (.inl x2), some (.inl x3), some (.inl (if (nI 0) < x1 then x1 else (nI 0)))] [] 112 I P) : V E (d + 1) m_Text_markSpan 112 Q 0 [some (.inr x0), some (.inl x1), some (.inl x2), some (.inl x3), none] [] 112 I P := V_run 7 0 rfl h
set_option maxRecDepth 20000 in
theorem x_Text_markSpan_7 {E : XE} {d : Nat} {Q : Int32 → mI → mP → Prop} {I : mI} {P : mP} (x0 : Nat) (x2 : Int32) (x3 : Int32) (x4 : Int32) (h : (x2 ≤ x4 → Q (nI 0) I P) ∧ (¬ x2 ≤ x4 → kk 112 x0 = (0, 3) ∧ ((I x0 5) ≤ x4 → Q (nI 0) I P) ∧ (¬ (I x0 5) ≤ x4 → kk 112 x0 = (0, 3) ∧ P x0 1 ≠ 0 ∧ (kk 112 (P x0 1)).1 = 1 ∧ vp_in x4 (kk 112 (P x0 1)).2 ∧ V E (d + 1) m_Text_markSpan 112 Q 7 [some (.inr x0), none, some (.inl x2), some (.inl x3), some (.inl (x4 + (nI 1)))] [] 112 (uI I (P x0 1) x4.toNatClampNeg x3) P))) : V E (d + 1) m_Text_markSpan 112 Q 7 [some (.inr x0), none, some (.inl x2), some (.inl x3), some (.inl x4)] [] 112 I P := V_run 17 4 rfl h
set_option maxRecDepth 20000 in
theorem x_Text_findTokens_0 {E : XE} {d : Nat} {Q : Int32 → mI → mP → Prop} {I : mI} {P : mP} (x0 : Nat) (h : V E (d + 1) m_Text_findTokens 112 Q 4 [some (.inr x0), some (.inl (nI 0)), some (.inl (nI 0)), none, none] [] 112 I P) : V E (d + 1) m_Text_findTokens 112 Q 0 [some (.inr x0), none, none, none, none] [] 112 I P := V_run 7 0 rfl h
set_option maxRecDepth 20000 in
theorem x_Text_findTokens_4 {E : XE} {d : Nat} {Q : Int32 → mI → mP → Prop} {I : mI} {P : mP} (x0 : Nat) (x1 : Int32) (x2 : Int32) (h : kk 112 x0 = (0, 3) ∧ ((I x0 5) ≤ x2 → Q (nI 0) I P) ∧ (¬ (I x0 5) ≤ x2 → kk 112 x0 = (0, 3) ∧ P x0 0 ≠ 0 ∧ (kk 112 (P x0 0)).1 = 1 ∧ vp_in x2 (kk 112 (P x0 0)).2 ∧ (¬ (I (P x0 0) x2.toNatClampNeg) = (nI 35) → ((I (P x0 0) x2.toNatClampNeg) = (nI 32) → V E (d + 1) m_Text_findTokens 112 Q 4 [some (.inr x0), some (.inl x1), some (.inl (if (x2 + (nI 1)) < x1 then x1 else (x2 + (nI 1)))), none, none] [] 112 I P) ∧ (¬ (I (P x0 0) x2.toNatClampNeg) = (nI 32) → ((I (P x0 0) x2.toNatClampNeg) = (nI 10) → V E (d + 1) m_Text_findTokens 112 Q 4 [some (.inr x0), some (.inl x1), some (.inl (if (x2 + (nI 1)) < x1 then x1 else (x2 + (nI 1)))), none, none] [] 112 I P) ∧ (¬ (I (P x0 0) x2.toNatClampNeg) = (nI 10) → kk 112 x0 = (0, 3) ∧ V E d m_Text_tokenKind 112 (fun r1 I1 P1 => kk 112 x0 = (0, 3) ∧ V E d m_Text_behindToken 112 (fun r2 I2 P2 => kk 112 x0 = (0, 3) ∧ P2 x0 2 ≠ 0 ∧ kk 112 x0 = (0, 3) ∧ (kk 112 (P2 x0 2)).1 = 1 ∧ vp_in (I2 x0 6) (kk 112 (P2 x0 2)).2 ∧ kk 112 x0 = (0, 3) ∧ P2 x0 3 ≠ 0 ∧ kk 112 x0 = (0, 3) ∧ (kk 112 (P2 x0 3)).1 = 1 ∧ vp_in ((uI I2 (P2 x0 2) (I2 x0 6).toNatClampNeg r1) x0 6) (kk 112 (P2 x0 3)).2 ∧ kk 112 x0 = (0, 3) ∧ P2 x0 4 ≠ 0 ∧ kk 112 x0 = (0, 3) ∧ (kk 112 (P2 x0 4)).1 = 1 ∧ vp_in ((uI (uI I2 (P2 x0 2) (I2 x0 6).toNatClampNeg r1) (P2 x0 3) ((uI I2 (P2 x0 2) (I2 x0 6).toNatClampNeg r1) x0 6).toNatClampNeg x2) x0 6) (kk 112 (P2 x0 4)).2 ∧ kk 112 x0 = (0, 3) ∧ kk 112 x0 = (0, 3) ∧ V E (d + 1) m_Text_findTokens 112 Q 4 [some (.inr x0), some (.inl r2), some (.inl (if (x2 + (nI 1)) < r2 then r2 else (x2 + (nI 1)))), none, none] [] 112 (uI (uI (uI (uI I2 (P2 x0 2) (I2 x0 6).toNatClampNeg r1) (P2 x0 3) ((uI I2 (P2 x0 2) (I2 x0 6).toNatClampNeg r1) x0 6).toNatClampNeg x2) (P2 x0 4) ((uI (uI I2 (P2 x0 2) (I2 x0 6).toNatClampNeg r1) (P2 x0 3) ((uI I2 (P2 x0 2) (I2 x0 6).toNatClampNeg r1) x0 6).toNatClampNeg x2) x0 6).toNatClampNeg r2) x0 6 (((uI (uI (uI I2 (P2 x0 2) (I2 x0 6).toNatClampNeg r1) (P2 x0 3) ((uI I2 (P2 x0 2) (I2 x0 6).toNatClampNeg r1) x0 6).toNatClampNeg x2) (P2 x0 4) ((uI (uI I2 (P2 x0 2) (I2 x0 6).toNatClampNeg r1) (P2 x0 3) ((uI I2 (P2 x0 2) (I2 x0 6).toNatClampNeg r1) x0 6).toNatClampNeg x2) x0 6).toNatClampNeg r2) x0 6) + (nI 1))) P2) 0 [some (.inr x0), some (.inl x2), some (.inl r1), none] [] 112 I1 P1) 0 [some (.inr x0), some (.inl x2), none] [] 112 I P))) ∧ ((I (P x0 0) x2.toNatClampNeg) = (nI 35) → kk 112 x0 = (0, 3) ∧ V E d m_Text_behindComment 112 (fun r3 I3 P3 => V E (d + 1) m_Text_findTokens 112 Q 4 [some (.inr x0), some (.inl r3), some (.inl (if (x2 + (nI 1)) < r3 then r3 else (x2 + (nI 1)))), none, none] [] 112 I3 P3) 0 [some (.inr x0), some (.inl x2), none] [] 112 I P))) : V E (d + 1) m_Text_findTokens 112 Q 4 [some (.inr x0), some (.inl x1), some (.inl x2), none, none] [] 112 I P := V_run 61 4 rfl h
set_option maxRecDepth 20000 in
theorem x_Text_behindComment_0 {E : XE} {d : Nat} {Q : Int32 → mI → mP → Prop} {I : mI} {P : mP} (x0 : Nat) (x1 : Int32) (h : V E d m_Text_behindComment 112 Q 2 [some (.inr x0), none, some (.inl x1)] [] 112 I P) : V E d m_Text_behindComment 112 Q 0 [some (.inr x0), some (.inl x1), none] [] 112 I P := V_run 5 0 rfl h
set_option maxRecDepth 20000 in
theorem x_Text_behindComment_2 {E : XE} {d : Nat} {Q : Int32 → mI → mP → Prop} {I : mI} {P : mP} (x0 : Nat) (x2 : Int32) (h : kk 112 x0 = (0, 3) ∧ ((I x0 5) ≤ x2 → Q x2 I P) ∧ (¬ (I x0 5) ≤ x2 → kk 112 x0 = (0, 3) ∧ P x0 0 ≠ 0 ∧ (kk 112 (P x0 0)).1 = 1 ∧ vp_in x2 (kk 112 (P x0 0)).2 ∧ ((I (P x0 0) x2.toNatClampNeg) = (nI 10) → Q x2 I P) ∧ (¬ (I (P x0 0) x2.toNatClampNeg) = (nI 10) → V E d m_Text_behindComment 112 Q 2 [some (.inr x0), none, some (.inl (x2 + (nI 1)))] [] 112 I P))) : V E d m_Text_behindComment 112 Q 2 [some (.inr x0), none, some (.inl x2)] [] 112 I P := V_run 15 2 rfl h
set_option maxRecDepth 20000 in
theorem x_Text_tokenKind_0 {E : XE} {d : Nat} {Q : Int32 → mI → mP → Prop} {I : mI} {P : mP} (x0 : Nat) (x1 : Int32) (h : kk 112 x0 = (0, 3) ∧ P x0 0 ≠ 0 ∧ (kk 112 (P x0 0)).1 = 1 ∧ vp_in x1 (kk 112 (P x0 0)).2 ∧ V E d m_Text_isLetter 112 (fun r1 I1 P1 => (r1 = 0 → V E d m_Text_isDigit 112 (fun r2 I2 P2 => (r2 = 0 → ((I (P x0 0) x1.toNatClampNeg) = nI 36 → kk 112 x0 = (0, 3) ∧ ((I2 x0 5) ≤ (x1 + (nI 1)) → Q (nI 9) I2 P2) ∧ (¬ (I2 x0 5) ≤ (x1 + (nI 1)) → kk 112 x0 = (0, 3) ∧ P2 x0 0 ≠ 0 ∧ (kk 112 (P2 x0 0)).1 = 1 ∧ vp_in (x1 + (nI 1)) (kk 112 (P2 x0 0)).2 ∧ V E d m_Text_isDigit 112 (fun r3 I3 P3 => (r3 = 0 → Q (nI 9) I3 P3) ∧ (¬ r3 = 0 → Q (nI 3) I3 P3)) 0 [some (.inl (I2 (P2 x0 0) (x1 + (nI 1)).toNatClampNeg))] [] 112 I2 P2)) ∧ (¬ (I (P x0 0) x1.toNatClampNeg) = nI 36 → ((I (P x0 0) x1.toNatClampNeg) = nI 40 → Q (nI 4) I2 P2) ∧ (¬ (I (P x0 0) x1.toNatClampNeg) = nI 40 → ((I (P x0 0) x1.toNatClampNeg) = nI 41 → Q (nI 5) I2 P2) ∧ (¬ (I (P x0 0) x1.toNatClampNeg) = nI 41 → ((I (P x0 0) x1.toNatClampNeg) = nI 44 → Q (nI 6) I2 P2) ∧ (¬ (I (P x0 0) x1.toNatClampNeg) = nI 44 → ((I (P x0 0) x1.toNatClampNeg) = nI 59 → Q (nI 7) I2 P2) ∧ (¬ (I (P x0 0) x1.toNatClampNeg) = nI 59 → ((I (P x0 0) x1.toNatClampNeg) = nI 62 → Q (nI 8) I2 P2) ∧ (¬ (I (P x0 0) x1.toNatClampNeg) = nI 62 → Q (nI 9) I2 P2))))))) ∧ (¬ r2 = 0 → Q (nI 2) I2 P2)) 0 [some (.inl (I (P x0 0) x1.toNatClampNeg))] [] 112 I1 P1) ∧ (¬ r1 = 0 → Q (nI 1) I1 P1)) 0 [some (.inl (I (P x0 0) x1.toNatClampNeg))] [] 112 I P) : V E (d + 1) m_Text_tokenKind 112 Q 0 [some (.inr x0), some (.inl x1), none] [] 112 I P := V_run 32 0 rfl h
set_option maxRecDepth 20000 in
theorem x_Text_isLetter_0 {E : XE} {d : Nat} {Q : Int32 → mI → mP → Prop} {I : mI} {P : mP} (x0 : Int32) (h : (x0 < (nI 97) → (x0 < (nI 65) → zb (nI 0) ∧ Q (nI 0) I P) ∧ (¬ x0 < (nI 65) → ((nI 90) < x0 → zb (nI 0) ∧ Q (nI 0) I P) ∧ (¬ (nI 90) < x0 → zb (nI 1) ∧ Q (nI 1) I P))) ∧ (¬ x0 < (nI 97) → (x0 ≤ (nI 122) → zb (nI 1) ∧ Q (nI 1) I P) ∧ (¬ x0 ≤ (nI 122) → (x0 < (nI 65) → zb (nI 0) ∧ Q (nI 0) I P) ∧ (¬ x0 < (nI 65) → ((nI 90) < x0 → zb (nI 0) ∧ Q (nI 0) I P) ∧ (¬ (nI 90) < x0 → zb (nI 1) ∧ Q (nI 1) I P))))) : V E d m_Text_isLetter 112 Q 0 [some (.inl x0)] [] 112 I P := V_run 17 0 rfl h
set_option maxRecDepth 20000 in
theorem x_Text_isDigit_0 {E : XE} {d : Nat} {Q : Int32 → mI → mP → Prop} {I : mI} {P : mP} (x0 : Int32) (h : (x0 < (nI 48) → zb (nI 0) ∧ Q (nI 0) I P) ∧ (¬ x0 < (nI 48) → ((nI 57) < x0 → zb (nI 0) ∧ Q (nI 0) I P) ∧ (¬ (nI 57) < x0 → zb (nI 1) ∧ Q (nI 1) I P))) : V E d m_Text_isDigit 112 Q 0 [some (.inl x0)] [] 112 I P := V_run 11 0 rfl h
set_option maxRecDepth 20000 in
theorem x_Text_behindToken_0 {E : XE} {d : Nat} {Q : Int32 → mI → mP → Prop} {I : mI} {P : mP} (x0 : Nat) (x1 : Int32) (x2 : Int32) (h : (¬ x2 = (nI 3) → (x2 = (nI 1) → V E (d + 1) m_Text_behindToken 112 Q 23 [some (.inr x0), none, some (.inl x2), some (.inl (x1 + (nI 1)))] [] 112 I P) ∧ (¬ x2 = (nI 1) → (¬ x2 = (nI 2) → Q (x1 + (nI 1)) I P) ∧ (x2 = (nI 2) → V E (d + 1) m_Text_behindToken 112 Q 23 [some (.inr x0), none, some (.inl x2), some (.inl (x1 + (nI 1)))] [] 112 I P))) ∧ (x2 = (nI 3) → Q (x1 + (nI 2)) I P)) : V E (d + 1) m_Text_behindToken 112 Q 0 [some (.inr x0), some (.inl x1), some (.inl x2), none] [] 112 I P := V_run 17 0 rfl h
set_option maxRecDepth 20000 in
theorem x_Text_behindToken_23 {E : XE} {d : Nat} {Q : Int32 → mI → mP → Prop} {I : mI} {P : mP} (x0 : Nat) (x2 : Int32) (x3 : Int32) (h : kk 112 x0 = (0, 3) ∧ ((I x0 5) ≤ x3 → Q x3 I P) ∧ (¬ (I x0 5) ≤ x3 → kk 112 x0 = (0, 3) ∧ P x0 0 ≠ 0 ∧ (kk 112 (P x0 0)).1 = 1 ∧ vp_in x3 (kk 112 (P x0 0)).2 ∧ V E d m_Text_goesOn 112 (fun r1 I1 P1 => (r1 = 0 → Q x3 I1 P1) ∧ (¬ r1 = 0 → V E (d + 1) m_Text_behindToken 112 Q 23 [some (.inr x0), none, some (.inl x2), some (.inl (x3 + (nI 1)))] [] 112 I1 P1)) 0 [some (.inl x2), some (.inl (I (P x0 0) x3.toNatClampNeg))] [] 112 I P)) : V E (d + 1) m_Text_behindToken 112 Q 23 [some (.inr x0), none, some (.inl x2), some (.inl x3)] [] 112 I P := V_run 16 17 rfl h
set_option maxRecDepth 20000 in
theorem x_Text_goesOn_0 {E : XE} {d : Nat} {Q : Int32 → mI → mP → Prop} {I : mI} {P : mP} (x0 : Int32) (x1 : Int32) (h : V E d m_Text_isDigit 112 (fun r1 I1 P1 => (¬ r1 = 0 → zb (nI 1) ∧ Q (nI 1) I1 P1) ∧ (r1 = 0 → (¬ x0 = (nI 1) → zb (nI 0) ∧ Q (nI 0) I1 P1) ∧ (x0 = (nI 1) → V E d m_Text_isLetter 112 (fun r2 I2 P2 => (r2 = 0 → zb (nI 0) ∧ Q (nI 0) I2 P2) ∧ (¬ r2 = 0 → zb (nI 1) ∧ Q (nI 1) I2 P2)) 0 [some (.inl x1)] [] 112 I1 P1))) 0 [some (.inl x1)] [] 112 I P) : V E (d + 1) m_Text_goesOn 112 Q 0 [some (.inl x0), some (.inl x1)] [] 112 I P := V_run 14 0 rfl h
set_option maxRecDepth 20000 in
theorem x_Outline_become_0 {E : XE} {d : Nat} {Q : Int32 → mI → mP → Prop} {I : mI} {P : mP} (x0 : Nat) (x1 : Nat) (h : kk 112 x0 = (0, 4) ∧ kk 112 x0 = (0, 4) ∧ V E (d + 1) m_Outline_become 112 Q 14 [some (.inr x0), some (.inr x1), some (.inl (nI 0)), some (.inl (nI 0))] [] 112 (uI (uI I x0 1 (nI 0)) x0 5 (nI 0)) P) : V E (d + 1) m_Outline_become 112 Q 0 [some (.inr x0), some (.inr x1), none, none] [] 112 I P := V_run 13 0 rfl h
set_option maxRecDepth 20000 in
theorem x_Outline_become_14 {E : XE} {d : Nat} {Q : Int32 → mI → mP → Prop} {I : mI} {P : mP} (x0 : Nat) (x1 : Nat) (x2 : Int32) (x3 : Int32) (h : kk 112 x1 = (0, 3) ∧ ((I x1 6) ≤ x3 → kk 112 x1 = (0, 3) ∧ ((I x1 6) ≤ x2 → Q (nI 0) I P) ∧ (¬ (I x1 6) ≤ x2 → kk 112 x0 = (0, 4) ∧ V E d m_Outline_addStatement 112 (fun _ I1 P1 => Q (nI 0) I1 P1) 0 [some (.inr x0), some (.inl (nI 0))] [] 112 I P)) ∧ (¬ (I x1 6) ≤ x3 → kk 112 x1 = (0, 3) ∧ V E d m_Text_kindAt 112 (fun r2 I2 P2 => (¬ r2 = (nI 7) → V E (d + 1) m_Outline_become 112 Q 14 [some (.inr x0), some (.inr x1), some (.inl x2), some (.inl (x3 + (nI 1)))] [] 112 I2 P2) ∧ (r2 = (nI 7) → kk 112 x0 = (0, 4) ∧ V E d m_Outline_readStatement 112 (fun r3 I3 P3 => kk 112 x0 = (0, 4) ∧ V E d m_Outline_addStatement 112 (fun _ I4 P4 => V E (d + 1) m_Outline_become 112 Q 14 [some (.inr x0), some (.inr x1), some (.inl (x3 + (nI 1))), some (.inl (x3 + (nI 1)))] [] 112 I4 P4) 0 [some (.inr x0), some (.inl r3)] [] 112 I3 P3) 0 [some (.inr x0), some (.inr x1), some (.inl x2), some (.inl x3)] [] 112 I2 P2)) 0 [some (.inr x1), some (.inl x3)] [] 112 I P)) : V E (d + 1) m_Outline_become 112 Q 14 [some (.inr x0), some (.inr x1), some (.inl x2), some (.inl x3)] [] 112 I P := V_run 25 10 rfl h
set_option maxRecDepth 20000 in
theorem x_Text_kindAt_0 {E : XE} {d : Nat} {Q : Int32 → mI → mP → Prop} {I : mI} {P : mP} (x0 : Nat) (x1 : Int32) (h : (x1 < 0 → Q (-(nI 1)) I P) ∧ (¬ x1 < 0 → kk 112 x0 = (0, 3) ∧ ((I x0 6) ≤ x1 → Q (-(nI 1)) I P) ∧ (¬ (I x0 6) ≤ x1 → kk 112 x0 = (0, 3) ∧ P x0 2 ≠ 0 ∧ (kk 112 (P x0 2)).1 = 1 ∧ vp_in x1 (kk 112 (P x0 2)).2 ∧ Q (I (P x0 2) x1.toNatClampNeg) I P))) : V E d m_Text_kindAt 112 Q 0 [some (.inr x0), some (.inl x1)] [] 112 I P := V_run 14 0 rfl h
set_option maxRecDepth 20000 in
theorem x_Outline_readStatement_0 {E : XE} {d : Nat} {Q : Int32 → mI → mP → Prop} {I : mI} {P : mP} (x0 : Nat) (x1 : Nat) (x2 : Int32) (x3 : Int32) (h : kk 112 x1 = (0, 3) ∧ V E d m_Text_behindExpression 112 (fun r1 I1 P1 => (¬ r1 = x3 → Q (nI 0) I1 P1) ∧ (r1 = x3 → V E d m_Outline_hasHole 112 (fun r2 I2 P2 => (r2 = 0 → kk 112 x0 = (0, 4) ∧ V E d m_Outline_addExpressions 112 (fun _ I3 P3 => kk 112 x1 = (0, 3) ∧ V E d m_Text_isCallName 112 (fun r4 I4 P4 => (r4 = 0 → kk 112 x1 = (0, 3) ∧ V E d m_Text_kindAt 112 (fun r5 I5 P5 => (¬ r5 = (nI 1) → Q (nI 2) I5 P5) ∧ (r5 = (nI 1) → Q (nI 1) I5 P5)) 0 [some (.inr x1), some (.inl x2)] [] 112 I4 P4) ∧ (¬ r4 = 0 → Q (nI 3) I4 P4)) 0 [some (.inr x1), some (.inl x2)] [] 112 I3 P3) 0 [some (.inr x0), some (.inr x1), some (.inl x2), some (.inl x3), none, none, none] [] 112 I2 P2) ∧ (¬ r2 = 0 → Q (nI 0) I2 P2)) 0 [some (.inr x1), some (.inl x2), some (.inl x3), none] [] 112 I1 P1)) 0 [some (.inr x1), some (.inl x2), some (.inl (nI 0)), none] [] 112 I P) : V E (d + 1) m_Outline_readStatement 112 Q 0 [some (.inr x0), some (.inr x1), some (.inl x2), some (.inl x3)] [] 112 I P := V_run 30 0 rfl h
set_option maxRecDepth 20000 in
theorem x_Text_behindExpression_0 {E : XE} {d : Nat} {Q : Int32 → mI → mP → Prop} {I : mI} {P : mP} (x0 : Nat) (x1 : Int32) (x2 : Int32) (h : kk 112 x0 = (0, 3) ∧ V E d m_Text_kindAt 112 (fun r1 I1 P1 => (r1 = (nI 1) → kk 112 x0 = (0, 3) ∧ V E d m_Text_isCallName 112 (fun r2 I2 P2 => (¬ r2 = 0 → ((nI 12) ≤ x2 → Q (-(nI 1)) I2 P2) ∧ (¬ (nI 12) ≤ x2 → kk 112 x0 = (0, 3) ∧ V E d m_Text_behindArguments 112 (fun r3 I3 P3 => Q r3 I3 P3) 0 [some (.inr x0), some (.inl (x1 + (nI 2))), some (.inl (x2 + (nI 1))), none, none, none, none] [] 112 I2 P2)) ∧ (r2 = 0 → Q (x1 + (nI 1)) I2 P2)) 0 [some (.inr x0), some (.inl x1)] [] 112 I1 P1) ∧ (¬ r1 = (nI 1) → (r1 = (nI 2) → kk 112 x0 = (0, 3) ∧ V E d m_Text_isCallName 112 (fun r4 I4 P4 => (¬ r4 = 0 → ((nI 12) ≤ x2 → Q (-(nI 1)) I4 P4) ∧ (¬ (nI 12) ≤ x2 → kk 112 x0 = (0, 3) ∧ V E d m_Text_behindArguments 112 (fun r5 I5 P5 => Q r5 I5 P5) 0 [some (.inr x0), some (.inl (x1 + (nI 2))), some (.inl (x2 + (nI 1))), none, none, none, none] [] 112 I4 P4)) ∧ (r4 = 0 → Q (x1 + (nI 1)) I4 P4)) 0 [some (.inr x0), some (.inl x1)] [] 112 I1 P1) ∧ (¬ r1 = (nI 2) → (r1 = (nI 3) → kk 112 x0 = (0, 3) ∧ V E d m_Text_isCallName 112 (fun r6 I6 P6 => (¬ r6 = 0 → ((nI 12) ≤ x2 → Q (-(nI 1)) I6 P6) ∧ (¬ (nI 12) ≤ x2 → kk 112 x0 = (0, 3) ∧ V E d m_Text_behindArguments 112 (fun r7 I7 P7 => Q r7 I7 P7) 0 [some (.inr x0), some (.inl (x1 + (nI 2))), some (.inl (x2 + (nI 1))), none, none, none, none] [] 112 I6 P6)) ∧ (r6 = 0 → Q (x1 + (nI 1)) I6 P6)) 0 [some (.inr x0), some (.inl x1)] [] 112 I1 P1) ∧ (¬ r1 = (nI 3) → Q (-(nI 1)) I1 P1)))) 0 [some (.inr x0), some (.inl x1)] [] 112 I P) : V E (d + 1) m_Text_behindExpression 112 Q 0 [some (.inr x0), some (.inl x1), some (.inl x2), none] [] 112 I P := V_run 32 0 rfl h
set_option maxRecDepth 20000 in
theorem x_Text_isCallName_0 {E : XE} {d : Nat} {Q : Int32 → mI → mP → Prop} {I : mI} {P : mP} (x0 : Nat) (x1 : Int32) (h : (x1 < 0 → zb (nI 0) ∧ Q (nI 0) I P) ∧ (¬ x1 < 0 → kk 112 x0 = (0, 3) ∧ (((I x0 6) - (nI 1)) ≤ x1 → zb (nI 0) ∧ Q (nI 0) I P) ∧ (¬ ((I x0 6) - (nI 1)) ≤ x1 → kk 112 x0 = (0, 3) ∧ P x0 2 ≠ 0 ∧ (kk 112 (P x0 2)).1 = 1 ∧ vp_in x1 (kk 112 (P x0 2)).2 ∧ (¬ (I (P x0 2) x1.toNatClampNeg) = (nI 1) → zb (nI 0) ∧ Q (nI 0) I P) ∧ ((I (P x0 2) x1.toNatClampNeg) = (nI 1) → kk 112 x0 = (0, 3) ∧ P x0 2 ≠ 0 ∧ (kk 112 (P x0 2)).1 = 1 ∧ vp_in (x1 + (nI 1)) (kk 112 (P x0 2)).2 ∧ (¬ (I (P x0 2) (x1 + (nI 1)).toNatClampNeg) = (nI 4) → zb (nI 0) ∧ Q (nI 0) I P) ∧ ((I (P x0 2) (x1 + (nI 1)).toNatClampNeg) = (nI 4) → zb (nI 1) ∧ Q (nI 1) I P))))) : V E d m_Text_isCallName 112 Q 0 [some (.inr x0), some (.inl x1)] [] 112 I P := V_run 27 0 rfl h
set_option maxRecDepth 20000 in
theorem x_Text_behindArguments_0 {E : XE} {d : Nat} {Q : Int32 → mI → mP → Prop} {I : mI} {P : mP} (x0 : Nat) (x1 : Int32) (x2 : Int32) (h : kk 112 x0 = (0, 3) ∧ V E d m_Text_kindAt 112 (fun r1 I1 P1 => (¬ r1 = (nI 5) → V E (d + 1) m_Text_behindArguments 112 Q 18 [some (.inr x0), none, some (.inl x2), some (.inl x1), some (.inl (nI 0)), none, none] [] 112 I1 P1) ∧ (r1 = (nI 5) → Q (x1 + (nI 1)) I1 P1)) 0 [some (.inr x0), some (.inl x1)] [] 112 I P) : V E (d + 1) m_Text_behindArguments 112 Q 0 [some (.inr x0), some (.inl x1), some (.inl x2), none, none, none, none] [] 112 I P := V_run 12 0 rfl h
set_option maxRecDepth 20000 in
theorem x_Text_behindArguments_18 {E : XE} {d : Nat} {Q : Int32 → mI → mP → Prop} {I : mI} {P : mP} (x0 : Nat) (x2 : Int32) (x3 : Int32) (x4 : Int32) (h : kk 112 x0 = (0, 3) ∧ ((I x0 6) ≤ x4 → Q (-(nI 1)) I P) ∧ (¬ (I x0 6) ≤ x4 → kk 112 x0 = (0, 3) ∧ V E d m_Text_behindExpression 112 (fun r1 I1 P1 => kk 112 x0 = (0, 3) ∧ V E d m_Text_kindAt 112 (fun r2 I2 P2 => (¬ r2 = (nI 5) → (r2 = (nI 6) → V E (d + 1) m_Text_behindArguments 112 Q 18 [some (.inr x0), none, some (.inl x2), some (.inl (r1 + (nI 1))), some (.inl (x4 + (nI 1))), none, none] [] 112 I2 P2) ∧ (¬ r2 = (nI 6) → Q (-(nI 1)) I2 P2)) ∧ (r2 = (nI 5) → Q (r1 + (nI 1)) I2 P2)) 0 [some (.inr x0), some (.inl r1)] [] 112 I1 P1) 0 [some (.inr x0), some (.inl x3), some (.inl x2), none] [] 112 I P)) : V E (d + 1) m_Text_behindArguments 112 Q 18 [some (.inr x0), none, some (.inl x2), some (.inl x3), some (.inl x4), none, none] [] 112 I P := V_run 28 13 rfl h
set_option maxRecDepth 20000 in
theorem x_Outline_hasHole_0 {E : XE} {d : Nat} {Q : Int32 → mI → mP → Prop} {I : mI} {P : mP} (x0 : Nat) (x1 : Int32) (x2 : Int32) (h : V E (d + 1) m_Outline_hasHole 112 Q 2 [some (.inr x0), none, some (.inl x2), some (.inl x1)] [] 112 I P) : V E (d + 1) m_Outline_hasHole 112 Q 0 [some (.inr x0), some (.inl x1), some (.inl x2), none] [] 112 I P := V_run 5 0 rfl h
set_option maxRecDepth 20000 in
theorem x_Outline_hasHole_2 {E : XE} {d : Nat} {Q : Int32 → mI → mP → Prop} {I : mI} {P : mP} (x0 : Nat) (x2 : Int32) (x3 : Int32) (h : (x2 ≤ x3 → zb (nI 0) ∧ Q (nI 0) I P) ∧ (¬ x2 ≤ x3 → kk 112 x0 = (0, 3) ∧ V E d m_Text_isHole 112 (fun r1 I1 P1 => (r1 = 0 → V E (d + 1) m_Outline_hasHole 112 Q 2 [some (.inr x0), none, some (.inl x2), some (.inl (x3 + (nI 1)))] [] 112 I1 P1) ∧ (¬ r1 = 0 → zb (nI 1) ∧ Q (nI 1) I1 P1)) 0 [some (.inr x0), some (.inl x3)] [] 112 I P)) : V E (d + 1) m_Outline_hasHole 112 Q 2 [some (.inr x0), none, some (.inl x2), some (.inl x3)] [] 112 I P := V_run 12 2 rfl h
set_option maxRecDepth 20000 in
theorem x_Text_isHole_0 {E : XE} {d : Nat} {Q : Int32 → mI → mP → Prop} {I : mI} {P : mP} (x0 : Nat) (x1 : Int32) (h : kk 112 x0 = (0, 3) ∧ V E d m_Text_kindAt 112 (fun r1 I1 P1 => (¬ r1 = (nI 3) → zb (nI 0) ∧ Q (nI 0) I1 P1) ∧ (r1 = (nI 3) → zb (nI 1) ∧ Q (nI 1) I1 P1)) 0 [some (.inr x0), some (.inl x1)] [] 112 I P) : V E (d + 1) m_Text_isHole 112 Q 0 [some (.inr x0), some (.inl x1)] [] 112 I P := V_run 10 0 rfl h
set_option maxRecDepth 20000 in
theorem x_Outline_addExpressions_0 {E : XE} {d : Nat} {Q : Int32 → mI → mP → Prop} {I : mI} {P : mP} (x0 : Nat) (x1 : Nat) (x2 : Int32) (x3 : Int32) (h : V E (d + 1) m_Outline_addExpressions 112 Q 6 [some (.inr x0), some (.inr x1), none, some (.inl x3), some (.inl (nI 0)), some (.inl x2), none] [] 112 I P) : V E (d + 1) m_Outline_addExpressions 112 Q 0 [some (.inr x0), some (.inr x1), some (.inl x2), some (.inl x3), none, none, none] [] 112 I P := V_run 7 0 rfl h
set_option maxRecDepth 20000 in
theorem x_Outline_addExpressions_6 {E : XE} {d : Nat} {Q : Int32 → mI → mP → Prop} {I : mI} {P : mP} (x0 : Nat) (x1 : Nat) (x3 : Int32) (x4 : Int32) (x5 : Int32) (h : (x3 ≤ x5 → Q (nI 0) I P) ∧ (¬ x3 ≤ x5 → kk 112 x1 = (0, 3) ∧ V E d m_Text_kindAt 112 (fun r1 I1 P1 => V E (d + 1) m_Outline_addExpressions 112 Q 20 [some (.inr x0), some (.inr x1), none, some (.inl x3), some (.inl x4), some (.inl x5), some (.inl r1)] [] 112 I1 P1) 0 [some (.inr x1), some (.inl x5)] [] 112 I P)) : V E (d + 1) m_Outline_addExpressions 112 Q 6 [some (.inr x0), some (.inr x1), none, some (.inl x3), some (.inl x4), some (.inl x5), none] [] 112 I P := V_run 10 4 rfl h
set_option maxRecDepth 20000 in
theorem x_Outline_addExpressions_20 {E : XE} {d : Nat} {Q : Int32 → mI → mP → Prop} {I : mI} {P : mP} (x0 : Nat) (x1 : Nat) (x3 : Int32) (x4 : Int32) (x5 : Int32) (x6 : Int32) (h : kk 112 x1 = (0, 3) ∧ V E d m_Text_isCallName 112 (fun r1 I1 P1 => (r1 = 0 → V E (d + 1) m_Outline_addExpressions 112 Q 51 [some (.inr x0), some (.inr x1), none, some (.inl x3), some (.inl x4), some (.inl x5), some (.inl x6)] [] 112 I1 P1) ∧ (¬ r1 = 0 → ((nI 12) ≤ x4 → V E (d + 1) m_Outline_addExpressions 112 Q 51 [some (.inr x0), some (.inr x1), none, some (.inl x3), some (.inl x4), some (.inl x5), some (.inl x6)] [] 112 I1 P1) ∧ (¬ (nI 12) ≤ x4 → kk 112 x0 = (0, 4) ∧ P1 x0 6 ≠ 0 ∧ (kk 112 (P1 x0 6)).1 = 1 ∧ vp_in x4 (kk 112 (P1 x0 6)).2 ∧ V E (d + 1) m_Outline_addExpressions 112 Q 105 [some (.inr x0), some (.inr x1), none, some (.inl x3), some (.inl (x4 + (nI 1))), some (.inl x5), none] [] 112 (uI I1 (P1 x0 6) x4.toNatClampNeg x5) P1))) 0 [some (.inr x1), some (.inl x5)] [] 112 I P) : V E (d + 1) m_Outline_addExpressions 112 Q 20 [some (.inr x0), some (.inr x1), none, some (.inl x3), some (.inl x4), some (.inl x5), some (.inl x6)] [] 112 I P := V_run 17 11 rfl h
set_option maxRecDepth 20000 in
theorem x_Outline_addExpressions_51 {E : XE} {d : Nat} {Q : Int32 → mI → mP → Prop} {I : mI} {P : mP} (x0 : Nat) (x1 : Nat) (x3 : Int32) (x4 : Int32) (x5 : Int32) (x6 : Int32) (h : (¬ x6 = (nI 5) → V E (d + 1) m_Outline_addExpressions 112 Q 83 [some (.inr x0), some (.inr x1), none, some (.inl x3), some (.inl x4), some (.inl x5), some (.inl x6)] [] 112 I P) ∧ (x6 = (nI 5) → (x4 ≤ 0 → V E (d + 1) m_Outline_addExpressions 112 Q 83 [some (.inr x0), some (.inr x1), none, some (.inl x3), some (.inl x4), some (.inl x5), some (.inl x6)] [] 112 I P) ∧ (¬ x4 ≤ 0 → kk 112 x0 = (0, 4) ∧ P x0 6 ≠ 0 ∧ (kk 112 (P x0 6)).1 = 1 ∧ vp_in (x4 + (-(nI 1))) (kk 112 (P x0 6)).2 ∧ kk 112 x0 = (0, 4) ∧ V E d m_Outline_addExpression 112 (fun _ I1 P1 => V E (d + 1) m_Outline_addExpressions 112 Q 105 [some (.inr x0), some (.inr x1), none, some (.inl x3), some (.inl (x4 + (-(nI 1)))), some (.inl x5), none] [] 112 I1 P1) 0 [some (.inr x0), some (.inl (I (P x0 6) (x4 + (-(nI 1))).toNatClampNeg)), some (.inl x5), some (.inl (x4 + (-(nI 1))))] [] 112 I P))) : V E (d + 1) m_Outline_addExpressions 112 Q 51 [some (.inr x0), some (.inr x1), none, some (.inl x3), some (.inl x4), some (.inl x5), some (.inl x6)] [] 112 I P := V_run 18 25 rfl h
set_option maxRecDepth 20000 in
theorem x_Outline_addExpressions_83 {E : XE} {d : Nat} {Q : Int32 → mI → mP → Prop} {I : mI} {P : mP} (x0 : Nat) (x1 : Nat) (x3 : Int32) (x4 : Int32) (x5 : Int32) (x6 : Int32) (h : (x6 = (nI 1) → kk 112 x0 = (0, 4) ∧ V E d m_Outline_addExpression 112 (fun _ I1 P1 => V E (d + 1) m_Outline_addExpressions 112 Q 105 [some (.inr x0), some (.inr x1), none, some (.inl x3), some (.inl x4), some (.inl x5), none] [] 112 I1 P1) 0 [some (.inr x0), some (.inl x5), some (.inl x5), some (.inl x4)] [] 112 I P) ∧ (¬ x6 = (nI 1) → (¬ x6 = (nI 2) → V E (d + 1) m_Outline_addExpressions 112 Q 105 [some (.inr x0), some (.inr x1), none, some (.inl x3), some (.inl x4), some (.inl x5), none] [] 112 I P) ∧ (x6 = (nI 2) → kk 112 x0 = (0, 4) ∧ V E d m_Outline_addExpression 112 (fun _ I2 P2 => V E (d + 1) m_Outline_addExpressions 112 Q 105 [some (.inr x0), some (.inr x1), none, some (.inl x3), some (.inl x4), some (.inl x5), none] [] 112 I2 P2) 0 [some (.inr x0), some (.inl x5), some (.inl x5), some (.inl x4)] [] 112 I P))) : V E (d + 1) m_Outline_addExpressions 112 Q 83 [some (.inr x0), some (.inr x1), none, some (.inl x3), some (.inl x4), some (.inl x5), some (.inl x6)] [] 112 I P := V_run 14 40 rfl h
set_option maxRecDepth 20000 in
theorem x_Outline_addExpressions_105 {E : XE} {d : Nat} {Q : Int32 → mI → mP → Prop} {I : mI} {P : mP} (x0 : Nat) (x1 : Nat) (x3 : Int32) (x4 : Int32) (x5 : Int32) (h : V E (d + 1) m_Outline_addExpressions 112 Q 6 [some (.inr x0), some (.inr x1), none, some (.inl x3), some (.inl x4), some (.inl (x5 + (nI 1))), none] [] 112 I P) : V E (d + 1) m_Outline_addExpressions 112 Q 105 [some (.inr x0), some (.inr x1), none, some (.inl x3), some (.inl x4), some (.inl x5), none] [] 112 I P := V_run 5 51 rfl h
set_option maxRecDepth 20000 in
theorem x_Outline_addExpression_0 {E : XE} {d : Nat} {Q : Int32 → mI → mP → Prop} {I : mI} {P : mP} (x0 : Nat) (x1 : Int32) (x2 : Int32) (x3 : Int32) (h : kk 112 x0 = (0, 4) ∧ kk 112 x0 = (0, 4) ∧ P x0 2 ≠ 0 ∧ 1 ≤ (kk 112 (P x0 2)).1 ∧ (kk 112 (P x0 2)).1 ≤ 3 ∧ ((nI (kk 112 (P x0 2)).2) ≤ (I x0 5) → Q (nI 0) I P) ∧ (¬ (nI (kk 112 (P x0 2)).2) ≤ (I x0 5) → kk 112 x0 = (0, 4) ∧ P x0 2 ≠ 0 ∧ kk 112 x0 = (0, 4) ∧ (kk 112 (P x0 2)).1 = 1 ∧ vp_in (I x0 5) (kk 112 (P x0 2)).2 ∧ kk 112 x0 = (0, 4) ∧ P x0 3 ≠ 0 ∧ kk 112 x0 = (0, 4) ∧ (kk 112 (P x0 3)).1 = 1 ∧ vp_in ((uI I (P x0 2) (I x0 5).toNatClampNeg x1) x0 5) (kk 112 (P x0 3)).2 ∧ kk 112 x0 = (0, 4) ∧ P x0 4 ≠ 0 ∧ kk 112 x0 = (0, 4) ∧ (kk 112 (P x0 4)).1 = 1 ∧ vp_in ((uI (uI I (P x0 2) (I x0 5).toNatClampNeg x1) (P x0 3) ((uI I (P x0 2) (I x0 5).toNatClampNeg x1) x0 5).toNatClampNeg x2) x0 5) (kk 112 (P x0 4)).2 ∧ kk 112 x0 = (0, 4) ∧ kk 112 x0 = (0, 4) ∧ Q (nI 0) (uI (uI (uI (uI I (P x0 2) (I x0 5).toNatClampNeg x1) (P x0 3) ((uI I (P x0 2) (I x0 5).toNatClampNeg x1) x0 5).toNatClampNeg x2) (P x0 4) ((uI (uI I (P x0 2) (I x0 5).toNatClampNeg x1) (P x0 3) ((uI I (P x0 2) (I x0 5).toNatClampNeg x1) x0 5).toNatClampNeg x2) x0 5).toNatClampNeg x3) x0 5 (((uI (uI (uI I (P x0 2) (I x0 5).toNatClampNeg x1) (P x0 3) ((uI I (P x0 2) (I x0 5).toNatClampNeg x1) x0 5).toNatClampNeg x2) (P x0 4) ((uI (uI I (P x0 2) (I x0 5).toNatClampNeg x1) (P x0 3) ((uI I (P x0 2) (I x0 5).toNatClampNeg x1) x0 5).toNatClampNeg x2) x0 5).toNatClampNeg x3) x0 5) + (nI 1))) P)) : V E d m_Outline_addExpression 112 Q 0 [some (.inr x0), some (.inl x1), some (.inl x2), some (.inl x3)] [] 112 I P := V_run 33 0 rfl h
set_option maxRecDepth 20000 in
theorem x_Outline_addStatement_0 {E : XE} {d : Nat} {Q : Int32 → mI → mP → Prop} {I : mI} {P : mP} (x0 : Nat) (x1 : Int32) (h : kk 112 x0 = (0, 4) ∧ kk 112 x0 = (0, 4) ∧ P x0 0 ≠ 0 ∧ 1 ≤ (kk 112 (P x0 0)).1 ∧ (kk 112 (P x0 0)).1 ≤ 3 ∧ ((nI (kk 112 (P x0 0)).2) ≤ (I x0 1) → Q (nI 0) I P) ∧ (¬ (nI (kk 112 (P x0 0)).2) ≤ (I x0 1) → kk 112 x0 = (0, 4) ∧ P x0 0 ≠ 0 ∧ kk 112 x0 = (0, 4) ∧ (kk 112 (P x0 0)).1 = 1 ∧ vp_in (I x0 1) (kk 112 (P x0 0)).2 ∧ kk 112 x0 = (0, 4) ∧ kk 112 x0 = (0, 4) ∧ Q (nI 0) (uI (uI I (P x0 0) (I x0 1).toNatClampNeg x1) x0 1 (((uI I (P x0 0) (I x0 1).toNatClampNeg x1) x0 1) + (nI 1))) P)) : V E d m_Outline_addStatement 112 Q 0 [some (.inr x0), some (.inl x1)] [] 112 I P := V_run 21 0 rfl h
set_option maxRecDepth 20000 in
theorem x_Patch_forget_0 {E : XE} {d : Nat} {Q : Int32 → mI → mP → Prop} {I : mI} {P : mP} (x0 : Nat) (h : kk 112 x0 = (0, 5) ∧ narrow .boolean (.int (nI 0)) = .int (nI 0) ∧ fits .boolean (.int (nI 0)) = true ∧ Q (nI 0) (uI I x0 4 (nI 0)) P) : V E d m_Patch_forget 112 Q 0 [some (.inr x0)] [] 112 I P := V_run 6 0 rfl h
set_option maxRecDepth 20000 in
theorem x_RR_rule_0 {E : XE} {d : Nat} {Q : Int32 → mI → mP → Prop} {I : mI} {P : mP} (x0 : Nat) (h : kk 112 x0 = (0, 0) ∧ ((nI 6) ≤ (I x0 5) → Q (-(nI 1)) I P) ∧ (¬ (nI 6) ≤ (I x0 5) → kk 112 x0 = (0, 0) ∧ P x0 4 ≠ 0 ∧ kk 112 x0 = (0, 0) ∧ (kk 112 (P x0 4)).1 = 3 ∧ vp_in (I x0 5) (kk 112 (P x0 4)).2 ∧ P (P x0 4) (I x0 5).toNatClampNeg ≠ 0 ∧ kk 112 x0 = (0, 0) ∧ P x0 0 ≠ 0 ∧ kk 112 x0 = (0, 0) ∧ kk 112 (P (P x0 4) (I x0 5).toNatClampNeg) = (0, 1) ∧ V E d m_Rule_become 112 (fun r1 I1 P1 => (¬ r1 = 0 → kk 112 x0 = (0, 0) ∧ kk 112 x0 = (0, 0) ∧ kk 112 x0 = (0, 0) ∧ kk 112 x0 = (0, 0) ∧ Q (((uI (uI I1 x0 1 (nI 0)) x0 5 (((uI I1 x0 1 (nI 0)) x0 5) + (nI 1))) x0 5) - (nI 1)) (uI (uI I1 x0 1 (nI 0)) x0 5 (((uI I1 x0 1 (nI 0)) x0 5) + (nI 1))) P1) ∧ (r1 = 0 → Q (-(nI 1)) I1 P1)) 0 [some (.inr (P (P x0 4) (I x0 5).toNatClampNeg)), some (.inr (P x0 0)), some (.inl (I x0 1))] [] 112 I P)) : V E (d + 1) m_RR_rule 112 Q 0 [some (.inr x0)] [] 112 I P := V_run 31 0 rfl h
set_option maxRecDepth 20000 in
theorem x_Rule_become_0 {E : XE} {d : Nat} {Q : Int32 → mI → mP → Prop} {I : mI} {P : mP} (x0 : Nat) (x1 : Nat) (x2 : Int32) (h : kk 112 x0 = (0, 1) ∧ P x0 0 ≠ 0 ∧ kk 112 (P x0 0) = (0, 3) ∧ V E d m_Text_become 112 (fun _ I1 P1 => kk 112 x0 = (0, 1) ∧ P1 x0 0 ≠ 0 ∧ kk 112 (P1 x0 0) = (0, 3) ∧ V E d m_Text_behindExpression 112 (fun r2 I2 P2 => kk 112 x0 = (0, 1) ∧ kk 112 x0 = (0, 1) ∧ P2 x0 0 ≠ 0 ∧ kk 112 x0 = (0, 1) ∧ kk 112 (P2 x0 0) = (0, 3) ∧ V E d m_Text_kindAt 112 (fun r3 I3 P3 => (¬ r3 = (nI 8) → zb (nI 0) ∧ Q (nI 0) I3 P3) ∧ (r3 = (nI 8) → kk 112 x0 = (0, 1) ∧ P3 x0 0 ≠ 0 ∧ kk 112 x0 = (0, 1) ∧ kk 112 (P3 x0 0) = (0, 3) ∧ V E d m_Text_behindExpression 112 (fun r4 I4 P4 => kk 112 x0 = (0, 1) ∧ P4 x0 0 ≠ 0 ∧ kk 112 (P4 x0 0) = (0, 3) ∧ (¬ r4 = (I4 (P4 x0 0) 6) → zb (nI 0) ∧ Q (nI 0) I4 P4) ∧ (r4 = (I4 (P4 x0 0) 6) → kk 112 x0 = (0, 1) ∧ V E d m_Rule_knowsTemplateHoles 112 (fun r5 I5 P5 => (r5 = 0 → zb (nI 0) ∧ Q (nI 0) I5 P5) ∧ (¬ r5 = 0 → zb (nI 1) ∧ Q (nI 1) I5 P5)) 0 [some (.inr x0), none, none, none] [] 112 I4 P4)) 0 [some (.inr (P3 x0 0)), some (.inl ((I3 x0 1) + (nI 1))), some (.inl (nI 0)), none] [] 112 I3 P3)) 0 [some (.inr (P2 x0 0)), some (.inl ((uI I2 x0 1 r2) x0 1))] [] 112 (uI I2 x0 1 r2) P2) 0 [some (.inr (P1 x0 0)), some (.inl (nI 0)), some (.inl (nI 0)), none] [] 112 I1 P1) 0 [some (.inr (P x0 0)), some (.inr x1), some (.inl x2)] [] 112 I P) : V E (d + 1) m_Rule_become 112 Q 0 [some (.inr x0), some (.inr x1), some (.inl x2)] [] 112 I P := V_run 39 0 rfl h
set_option maxRecDepth 20000 in
theorem x_Rule_knowsTemplateHoles_0 {E : XE} {d : Nat} {Q : Int32 → mI → mP → Prop} {I : mI} {P : mP} (x0 : Nat) (h : V E (d + 1) m_Rule_knowsTemplateHoles 112 Q 4 [some (.inr x0), some (.inl (nI 0)), some (.inl (nI 0)), none] [] 112 I P) : V E (d + 1) m_Rule_knowsTemplateHoles 112 Q 0 [some (.inr x0), none, none, none] [] 112 I P := V_run 7 0 rfl h
set_option maxRecDepth 20000 in
theorem x_Rule_knowsTemplateHoles_4 {E : XE} {d : Nat} {Q : Int32 → mI → mP → Prop} {I : mI} {P : mP} (x0 : Nat) (x1 : Int32) (x2 : Int32) (h : kk 112 x0 = (0, 1) ∧ P x0 0 ≠ 0 ∧ kk 112 (P x0 0) = (0, 3) ∧ ((I (P x0 0) 6) ≤ x2 → zb (nI 1) ∧ Q (nI 1) I P) ∧ (¬ (I (P x0 0) 6) ≤ x2 → kk 112 x0 = (0, 1) ∧ P x0 0 ≠ 0 ∧ kk 112 (P x0 0) = (0, 3) ∧ V E d m_Text_isHole 112 (fun r1 I1 P1 => (r1 = 0 → V E (d + 1) m_Rule_knowsTemplateHoles 112 Q 4 [some (.inr x0), some (.inl x1), some (.inl (x2 + (nI 1))), none] [] 112 I1 P1) ∧ (¬ r1 = 0 → kk 112 x0 = (0, 1) ∧ P1 x0 0 ≠ 0 ∧ kk 112 (P1 x0 0) = (0, 3) ∧ V E d m_Text_digitOf 112 (fun r2 I2 P2 => kk 112 x0 = (0, 1) ∧ (x2 ≤ (I2 x0 1) → V E (d + 1) m_Rule_knowsTemplateHoles 112 Q 4 [some (.inr x0), some (.inl (x1 ||| ((nI 1) <<< (r2 &&& 31)))), some (.inl (x2 + (nI 1))), none] [] 112 I2 P2) ∧ (¬ x2 ≤ (I2 x0 1) → (¬ (x1 &&& ((nI 1) <<< (r2 &&& 31))) = 0 → V E (d + 1) m_Rule_knowsTemplateHoles 112 Q 4 [some (.inr x0), some (.inl (x1 ||| ((nI 1) <<< (r2 &&& 31)))), some (.inl (x2 + (nI 1))), none] [] 112 I2 P2) ∧ ((x1 &&& ((nI 1) <<< (r2 &&& 31))) = 0 → zb (nI 0) ∧ Q (nI 0) I2 P2))) 0 [some (.inr (P1 x0 0)), some (.inl x2)] [] 112 I1 P1)) 0 [some (.inr (P x0 0)), some (.inl x2)] [] 112 I P)) : V E (d + 1) m_Rule_knowsTemplateHoles 112 Q 4 [some (.inr x0), some (.inl x1), some (.inl x2), none] [] 112 I P := V_run 34 4 rfl h
set_option maxRecDepth 20000 in
theorem x_Text_digitOf_0 {E : XE} {d : Nat} {Q : Int32 → mI → mP → Prop} {I : mI} {P : mP} (x0 : Nat) (x1 : Int32) (h : kk 112 x0 = (0, 3) ∧ P x0 0 ≠ 0 ∧ kk 112 x0 = (0, 3) ∧ P x0 3 ≠ 0 ∧ (kk 112 (P x0 3)).1 = 1 ∧ vp_in x1 (kk 112 (P x0 3)).2 ∧ (kk 112 (P x0 0)).1 = 1 ∧ vp_in ((I (P x0 3) x1.toNatClampNeg) + (nI 1)) (kk 112 (P x0 0)).2 ∧ Q ((I (P x0 0) ((I (P x0 3) x1.toNatClampNeg) + (nI 1)).toNatClampNeg) - (nI 48)) I P) : V E d m_Text_digitOf 112 Q 0 [some (.inr x0), some (.inl x1)] [] 112 I P := V_run 14 0 rfl h
set_option maxRecDepth 20000 in
theorem x_RR_rules_0 {E : XE} {d : Nat} {Q : Int32 → mI → mP → Prop} {I : mI} {P : mP} (x0 : Nat) (h : kk 112 x0 = (0, 0) ∧ Q (I x0 5) I P) : V E d m_RR_rules 112 Q 0 [some (.inr x0)] [] 112 I P := V_run 5 0 rfl h
set_option maxRecDepth 20000 in
theorem x_RR_run_0 {E : XE} {d : Nat} {Q : Int32 → mI → mP → Prop} {I : mI} {P : mP} (x0 : Nat) (x1 : Int32) (h : (x1 < (nI 1) → Q (-(nI 1)) I P) ∧ (¬ x1 < (nI 1) → (x1 ≤ (nI 9) → kk 112 x0 = (0, 0) ∧ P x0 6 ≠ 0 ∧ kk 112 (P x0 6) = (0, 2) ∧ kk 112 x0 = (0, 0) ∧ P x0 6 ≠ 0 ∧ kk 112 (P x0 6) = (0, 2) ∧ V E d m_Program_save 112 (fun _ I1 P1 => V E (d + 1) m_RR_run 112 Q 36 [some (.inr x0), some (.inl x1), some (.inl (I (P x0 6) 6)), some (.inl (nI 0)), some (.inl (nI 1)), some (.inl (nI 0)), none] [] 112 I1 P1) 0 [some (.inr (P x0 6))] [] 112 I P) ∧ (¬ x1 ≤ (nI 9) → Q (-(nI 1)) I P))) : V E (d + 1) m_RR_run 112 Q 0 [some (.inr x0), some (.inl x1), none, none, none, none, none] [] 112 I P := V_run 22 0 rfl h
set_option maxRecDepth 20000 in
theorem x_RR_run_36 {E : XE} {d : Nat} {Q : Int32 → mI → mP → Prop} {I : mI} {P : mP} (x0 : Nat) (x1 : Int32) (x2 : Int32) (x3 : Int32) (x4 : Int32) (x5 : Int32) (h : (x1 ≤ x5 → kk 112 x0 = (0, 0) ∧ kk 112 x0 = (0, 0) ∧ P x0 8 ≠ 0 ∧ kk 112 (P x0 8) = (0, 5) ∧ V E d m_Patch_forget 112 (fun _ I1 P1 => kk 112 x0 = (0, 0) ∧ P1 x0 6 ≠ 0 ∧ kk 112 (P1 x0 6) = (0, 2) ∧ Q ((I1 (P1 x0 6) 6) - x2) I1 P1) 0 [some (.inr (P x0 8))] [] 112 (uI I x0 7 x3) P) ∧ (¬ x1 ≤ x5 → (x4 = 0 → kk 112 x0 = (0, 0) ∧ kk 112 x0 = (0, 0) ∧ P x0 8 ≠ 0 ∧ kk 112 (P x0 8) = (0, 5) ∧ V E d m_Patch_forget 112 (fun _ I2 P2 => kk 112 x0 = (0, 0) ∧ P2 x0 6 ≠ 0 ∧ kk 112 (P2 x0 6) = (0, 2) ∧ Q ((I2 (P2 x0 6) 6) - x2) I2 P2) 0 [some (.inr (P x0 8))] [] 112 (uI I x0 7 x3) P) ∧ (¬ x4 = 0 → kk 112 x0 = (0, 0) ∧ P x0 6 ≠ 0 ∧ kk 112 (P x0 6) = (0, 2) ∧ kk 112 x0 = (0, 0) ∧ P x0 6 ≠ 0 ∧ kk 112 x0 = (0, 0) ∧ P x0 4 ≠ 0 ∧ kk 112 x0 = (0, 0) ∧ kk 112 (P x0 6) = (0, 2) ∧ V E d m_Program_cycle 112 (fun r3 I3 P3 => (¬ r3 = 0 → kk 112 x0 = (0, 0) ∧ P3 x0 6 ≠ 0 ∧ kk 112 (P3 x0 6) = (0, 2) ∧ ((I3 (P3 x0 6) 6) ≤ (I (P x0 6) 6) → V E (d + 1) m_RR_run 112 Q 107 [some (.inr x0), some (.inl x1), some (.inl x2), some (.inl (x3 + (nI 1))), some (.inl (nI 0)), some (.inl x5), none] [] 112 I3 P3) ∧ (¬ (I3 (P3 x0 6) 6) ≤ (I (P x0 6) 6) → V E (d + 1) m_RR_run 112 Q 107 [some (.inr x0), some (.inl x1), some (.inl x2), some (.inl (x3 + (nI 1))), some (.inl (nI 1)), some (.inl x5), none] [] 112 I3 P3)) ∧ (r3 = 0 → kk 112 x0 = (0, 0) ∧ P3 x0 6 ≠ 0 ∧ kk 112 (P3 x0 6) = (0, 2) ∧ V E d m_Program_restore 112 (fun _ I4 P4 => Q (-(nI 2)) I4 P4) 0 [some (.inr (P3 x0 6)), some (.inl x2)] [] 112 I3 P3)) 0 [some (.inr (P x0 6)), some (.inr (P x0 4)), some (.inl (I x0 5)), none] [] 112 I P))) : V E (d + 1) m_RR_run 112 Q 36 [some (.inr x0), some (.inl x1), some (.inl x2), some (.inl x3), some (.inl x4), some (.inl x5), none] [] 112 I P := V_run 29 21 rfl h
set_option maxRecDepth 20000 in
theorem x_RR_run_107 {E : XE} {d : Nat} {Q : Int32 → mI → mP → Prop} {I : mI} {P : mP} (x0 : Nat) (x1 : Int32) (x2 : Int32) (x3 : Int32) (x4 : Int32) (x5 : Int32) (h : V E (d + 1) m_RR_run 112 Q 36 [some (.inr x0), some (.inl x1), some (.inl x2), some (.inl x3), some (.inl x4), some (.inl (x5 + (nI 1))), none] [] 112 I P) : V E (d + 1) m_RR_run 112 Q 107 [some (.inr x0), some (.inl x1), some (.inl x2), some (.inl x3), some (.inl x4), some (.inl x5), none] [] 112 I P := V_run 5 54 rfl h
set_option maxRecDepth 20000 in
theorem x_Program_save_0 {E : XE} {d : Nat} {Q : Int32 → mI → mP → Prop} {I : mI} {P : mP} (x0 : Nat) (h : kk 112 x0 = (0, 2) ∧ P x0 2 ≠ 0 ∧ kk 112 x0 = (0, 2) ∧ P x0 0 ≠ 0 ∧ kk 112 (P x0 2) = (0, 3) ∧ V E d m_Text_becomeCopy 112 (fun _ I1 P1 => Q (nI 0) I1 P1) 0 [some (.inr (P x0 2)), some (.inr (P x0 0))] [] 112 I P) : V E (d + 1) m_Program_save 112 Q 0 [some (.inr x0)] [] 112 I P := V_run 8 0 rfl h
set_option maxRecDepth 20000 in
theorem x_Text_becomeCopy_0 {E : XE} {d : Nat} {Q : Int32 → mI → mP → Prop} {I : mI} {P : mP} (x0 : Nat) (x1 : Nat) (h : kk 112 x0 = (0, 3) ∧ V E d m_Text_empty 112 (fun _ I1 P1 => kk 112 x1 = (0, 3) ∧ kk 112 x0 = (0, 3) ∧ P1 x0 0 ≠ 0 ∧ 1 ≤ (kk 112 (P1 x0 0)).1 ∧ (kk 112 (P1 x0 0)).1 ≤ 3 ∧ ((I1 x1 5) ≤ (nI (kk 112 (P1 x0 0)).2) → kk 112 x1 = (0, 3) ∧ kk 112 x0 = (0, 3) ∧ kk 112 x1 = (0, 3) ∧ kk 112 x0 = (0, 3) ∧ kk 112 x1 = (0, 3) ∧ P1 x1 0 ≠ 0 ∧ kk 112 x0 = (0, 3) ∧ P1 x0 0 ≠ 0 ∧ kk 112 x0 = (0, 3) ∧ (kk 112 (P1 x1 0)).1 = 1 ∧ (kk 112 (P1 x0 0)).1 = 1 ∧ ¬ (nI 0) < 0 ∧ ¬ (nI 0) < 0 ∧ ¬ ((uI (uI I1 x0 5 (I1 x1 5)) x0 6 ((uI I1 x0 5 (I1 x1 5)) x1 6)) x0 5) < 0 ∧ (nI 0).toNatClampNeg + ((uI (uI I1 x0 5 (I1 x1 5)) x0 6 ((uI I1 x0 5 (I1 x1 5)) x1 6)) x0 5).toNatClampNeg ≤ (kk 112 (P1 x1 0)).2 ∧ (nI 0).toNatClampNeg + ((uI (uI I1 x0 5 (I1 x1 5)) x0 6 ((uI I1 x0 5 (I1 x1 5)) x1 6)) x0 5).toNatClampNeg ≤ (kk 112 (P1 x0 0)).2 ∧ V E (d + 1) m_Text_becomeCopy 112 Q 50 [some (.inr x0), some (.inr x1)] [] 112 (sI (uI (uI I1 x0 5 (I1 x1 5)) x0 6 ((uI I1 x0 5 (I1 x1 5)) x1 6)) (P1 x0 0) (va_cpy ((uI (uI I1 x0 5 (I1 x1 5)) x0 6 ((uI I1 x0 5 (I1 x1 5)) x1 6)) (P1 x1 0)) ((uI (uI I1 x0 5 (I1 x1 5)) x0 6 ((uI I1 x0 5 (I1 x1 5)) x1 6)) (P1 x0 0)) (nI 0).toNatClampNeg (nI 0).toNatClampNeg ((uI (uI I1 x0 5 (I1 x1 5)) x0 6 ((uI I1 x0 5 (I1 x1 5)) x1 6)) x0 5).toNatClampNeg)) P1) ∧ (¬ (I1 x1 5) ≤ (nI (kk 112 (P1 x0 0)).2) → Q (nI 0) I1 P1)) 0 [some (.inr x0)] [] 112 I P) : V E (d + 1) m_Text_becomeCopy 112 Q 0 [some (.inr x0), some (.inr x1)] [] 112 I P := V_run 28 0 rfl h
set_option maxRecDepth 20000 in
theorem x_Text_becomeCopy_50 {E : XE} {d : Nat} {Q : Int32 → mI → mP → Prop} {I : mI} {P : mP} (x0 : Nat) (x1 : Nat) (h : kk 112 x1 = (0, 3) ∧ P x1 1 ≠ 0 ∧ kk 112 x0 = (0, 3) ∧ P x0 1 ≠ 0 ∧ kk 112 x0 = (0, 3) ∧ (kk 112 (P x1 1)).1 = 1 ∧ (kk 112 (P x0 1)).1 = 1 ∧ ¬ (nI 0) < 0 ∧ ¬ (nI 0) < 0 ∧ ¬ (I x0 5) < 0 ∧ (nI 0).toNatClampNeg + (I x0 5).toNatClampNeg ≤ (kk 112 (P x1 1)).2 ∧ (nI 0).toNatClampNeg + (I x0 5).toNatClampNeg ≤ (kk 112 (P x0 1)).2 ∧ V E (d + 1) m_Text_becomeCopy 112 Q 67 [some (.inr x0), some (.inr x1)] [] 112 (sI I (P x0 1) (va_cpy (I (P x1 1)) (I (P x0 1)) (nI 0).toNatClampNeg (nI 0).toNatClampNeg (I x0 5).toNatClampNeg)) P) : V E (d + 1) m_Text_becomeCopy 112 Q 50 [some (.inr x0), some (.inr x1)] [] 112 I P := V_run 12 26 rfl h
set_option maxRecDepth 20000 in
theorem x_Text_becomeCopy_67 {E : XE} {d : Nat} {Q : Int32 → mI → mP → Prop} {I : mI} {P : mP} (x0 : Nat) (x1 : Nat) (h : kk 112 x1 = (0, 3) ∧ P x1 2 ≠ 0 ∧ kk 112 x0 = (0, 3) ∧ P x0 2 ≠ 0 ∧ kk 112 x0 = (0, 3) ∧ (kk 112 (P x1 2)).1 = 1 ∧ (kk 112 (P x0 2)).1 = 1 ∧ ¬ (nI 0) < 0 ∧ ¬ (nI 0) < 0 ∧ ¬ (I x0 6) < 0 ∧ (nI 0).toNatClampNeg + (I x0 6).toNatClampNeg ≤ (kk 112 (P x1 2)).2 ∧ (nI 0).toNatClampNeg + (I x0 6).toNatClampNeg ≤ (kk 112 (P x0 2)).2 ∧ V E (d + 1) m_Text_becomeCopy 112 Q 84 [some (.inr x0), some (.inr x1)] [] 112 (sI I (P x0 2) (va_cpy (I (P x1 2)) (I (P x0 2)) (nI 0).toNatClampNeg (nI 0).toNatClampNeg (I x0 6).toNatClampNeg)) P) : V E (d + 1) m_Text_becomeCopy 112 Q 67 [some (.inr x0), some (.inr x1)] [] 112 I P := V_run 12 35 rfl h
set_option maxRecDepth 20000 in
theorem x_Text_becomeCopy_84 {E : XE} {d : Nat} {Q : Int32 → mI → mP → Prop} {I : mI} {P : mP} (x0 : Nat) (x1 : Nat) (h : kk 112 x1 = (0, 3) ∧ P x1 3 ≠ 0 ∧ kk 112 x0 = (0, 3) ∧ P x0 3 ≠ 0 ∧ kk 112 x0 = (0, 3) ∧ (kk 112 (P x1 3)).1 = 1 ∧ (kk 112 (P x0 3)).1 = 1 ∧ ¬ (nI 0) < 0 ∧ ¬ (nI 0) < 0 ∧ ¬ (I x0 6) < 0 ∧ (nI 0).toNatClampNeg + (I x0 6).toNatClampNeg ≤ (kk 112 (P x1 3)).2 ∧ (nI 0).toNatClampNeg + (I x0 6).toNatClampNeg ≤ (kk 112 (P x0 3)).2 ∧ V E (d + 1) m_Text_becomeCopy 112 Q 101 [some (.inr x0), some (.inr x1)] [] 112 (sI I (P x0 3) (va_cpy (I (P x1 3)) (I (P x0 3)) (nI 0).toNatClampNeg (nI 0).toNatClampNeg (I x0 6).toNatClampNeg)) P) : V E (d + 1) m_Text_becomeCopy 112 Q 84 [some (.inr x0), some (.inr x1)] [] 112 I P := V_run 12 44 rfl h
set_option maxRecDepth 20000 in
theorem x_Text_becomeCopy_101 {E : XE} {d : Nat} {Q : Int32 → mI → mP → Prop} {I : mI} {P : mP} (x0 : Nat) (x1 : Nat) (h : kk 112 x1 = (0, 3) ∧ P x1 4 ≠ 0 ∧ kk 112 x0 = (0, 3) ∧ P x0 4 ≠ 0 ∧ kk 112 x0 = (0, 3) ∧ (kk 112 (P x1 4)).1 = 1 ∧ (kk 112 (P x0 4)).1 = 1 ∧ ¬ (nI 0) < 0 ∧ ¬ (nI 0) < 0 ∧ ¬ (I x0 6) < 0 ∧ (nI 0).toNatClampNeg + (I x0 6).toNatClampNeg ≤ (kk 112 (P x1 4)).2 ∧ (nI 0).toNatClampNeg + (I x0 6).toNatClampNeg ≤ (kk 112 (P x0 4)).2 ∧ Q (nI 0) (sI I (P x0 4) (va_cpy (I (P x1 4)) (I (P x0 4)) (nI 0).toNatClampNeg (nI 0).toNatClampNeg (I x0 6).toNatClampNeg)) P) : V E (d + 1) m_Text_becomeCopy 112 Q 101 [some (.inr x0), some (.inr x1)] [] 112 I P := V_run 12 53 rfl h
set_option maxRecDepth 20000 in
theorem x_Program_cycle_0 {E : XE} {d : Nat} {Q : Int32 → mI → mP → Prop} {I : mI} {P : mP} (x0 : Nat) (x1 : Nat) (x2 : Int32) (h : V E (d + 1) m_Program_cycle 112 Q 2 [some (.inr x0), some (.inr x1), some (.inl x2), some (.inl (nI 0))] [] 112 I P) : V E (d + 1) m_Program_cycle 112 Q 0 [some (.inr x0), some (.inr x1), some (.inl x2), none] [] 112 I P := V_run 5 0 rfl h
set_option maxRecDepth 20000 in
theorem x_Program_cycle_2 {E : XE} {d : Nat} {Q : Int32 → mI → mP → Prop} {I : mI} {P : mP} (x0 : Nat) (x1 : Nat) (x2 : Int32) (x3 : Int32) (h : (x2 ≤ x3 → zb (nI 1) ∧ Q (nI 1) I P) ∧ (¬ x2 ≤ x3 → 1 ≤ (kk 112 x1).1 ∧ (kk 112 x1).1 ≤ 3 ∧ ((nI (kk 112 x1).2) ≤ x3 → zb (nI 1) ∧ Q (nI 1) I P) ∧ (¬ (nI (kk 112 x1).2) ≤ x3 → (kk 112 x1).1 = 3 ∧ vp_in x3 (kk 112 x1).2 ∧ P x1 x3.toNatClampNeg ≠ 0 ∧ kk 112 x0 = (0, 2) ∧ V E d m_Program_pass 112 (fun r1 I1 P1 => (¬ r1 = 0 → V E (d + 1) m_Program_cycle 112 Q 2 [some (.inr x0), some (.inr x1), some (.inl x2), some (.inl (x3 + (nI 1)))] [] 112 I1 P1) ∧ (r1 = 0 → zb (nI 0) ∧ Q (nI 0) I1 P1)) 0 [some (.inr x0), some (.inr (P x1 x3.toNatClampNeg)), none, none, none, none, none] [] 112 I P))) : V E (d + 1) m_Program_cycle 112 Q 2 [some (.inr x0), some (.inr x1), some (.inl x2), some (.inl x3)] [] 112 I P := V_run 18 2 rfl h
set_option maxRecDepth 20000 in
theorem x_Program_pass_0 {E : XE} {d : Nat} {Q : Int32 → mI → mP → Prop} {I : mI} {P : mP} (x0 : Nat) (x1 : Nat) (h : kk 112 x0 = (0, 2) ∧ kk 112 x0 = (0, 2) ∧ P x0 1 ≠ 0 ∧ kk 112 (P x0 1) = (0, 3) ∧ V E d m_Text_empty 112 (fun _ I1 P1 => V E (d + 1) m_Program_pass 112 Q 17 [some (.inr x0), some (.inr x1), some (.inl (I x0 6)), some (.inl (nI 0)), some (.inl (nI 0)), none, none] [] 112 I1 P1) 0 [some (.inr (P x0 1))] [] 112 I P) : V E (d + 1) m_Program_pass 112 Q 0 [some (.inr x0), some (.inr x1), none, none, none, none, none] [] 112 I P := V_run 13 0 rfl h
set_option maxRecDepth 20000 in
theorem x_Program_pass_17 {E : XE} {d : Nat} {Q : Int32 → mI → mP → Prop} {I : mI} {P : mP} (x0 : Nat) (x1 : Nat) (x2 : Int32) (x3 : Int32) (x4 : Int32) (h : kk 112 x0 = (0, 2) ∧ P x0 0 ≠ 0 ∧ kk 112 (P x0 0) = (0, 3) ∧ ((I (P x0 0) 6) ≤ x4 → V E (d + 1) m_Program_pass 112 Q 174 [some (.inr x0), none, some (.inl x2), none, none, none, none] [] 112 I P) ∧ (¬ (I (P x0 0) 6) ≤ x4 → kk 112 x0 = (0, 2) ∧ P x0 1 ≠ 0 ∧ kk 112 x0 = (0, 2) ∧ P x0 0 ≠ 0 ∧ kk 112 (P x0 1) = (0, 3) ∧ V E d m_Text_appendSpace 112 (fun _ I1 P1 => kk 112 x0 = (0, 2) ∧ P1 x0 5 ≠ 0 ∧ kk 112 x0 = (0, 2) ∧ P1 x0 1 ≠ 0 ∧ kk 112 (P1 x0 1) = (0, 3) ∧ (kk 112 (P1 x0 5)).1 = 1 ∧ vp_in x4 (kk 112 (P1 x0 5)).2 ∧ kk 112 x0 = (0, 2) ∧ P1 x0 1 ≠ 0 ∧ kk 112 x0 = (0, 2) ∧ P1 x0 0 ≠ 0 ∧ kk 112 (P1 x0 1) = (0, 3) ∧ V E d m_Text_appendSpan 112 (fun _ I2 P2 => V E (d + 1) m_Program_pass 112 Q 73 [some (.inr x0), some (.inr x1), some (.inl x2), some (.inl x3), some (.inl x4), none, none] [] 112 I2 P2) 0 [some (.inr (P1 x0 1)), some (.inr (P1 x0 0)), some (.inl x4), some (.inl (x4 + (nI 1))), none, none, none] [] 112 (uI I1 (P1 x0 5) x4.toNatClampNeg (I1 (P1 x0 1) 6)) P1) 0 [some (.inr (P x0 1)), some (.inr (P x0 0)), some (.inl x4), none, none] [] 112 I P)) : V E (d + 1) m_Program_pass 112 Q 17 [some (.inr x0), some (.inr x1), some (.inl x2), some (.inl x3), some (.inl x4), none, none] [] 112 I P := V_run 30 10 rfl h
set_option maxRecDepth 20000 in
theorem x_Program_pass_73 {E : XE} {d : Nat} {Q : Int32 → mI → mP → Prop} {I : mI} {P : mP} (x0 : Nat) (x1 : Nat) (x2 : Int32) (x3 : Int32) (x4 : Int32) (h : kk 112 x0 = (0, 2) ∧ P x0 4 ≠ 0 ∧ kk 112 (P x0 4) = (0, 4) ∧ V E d m_Outline_endsWith 112 (fun r1 I1 P1 => (r1 = 0 → V E (d + 1) m_Program_pass 112 Q 168 [some (.inr x0), some (.inr x1), some (.inl x2), some (.inl x3), some (.inl x4), none, none] [] 112 I1 P1) ∧ (¬ r1 = 0 → kk 112 x0 = (0, 2) ∧ P1 x0 5 ≠ 0 ∧ kk 112 x0 = (0, 2) ∧ P1 x0 4 ≠ 0 ∧ kk 112 (P1 x0 4) = (0, 4) ∧ P1 (P1 x0 4) 2 ≠ 0 ∧ (kk 112 (P1 (P1 x0 4) 2)).1 = 1 ∧ vp_in x3 (kk 112 (P1 (P1 x0 4) 2)).2 ∧ (kk 112 (P1 x0 5)).1 = 1 ∧ vp_in (I1 (P1 (P1 x0 4) 2) x3.toNatClampNeg) (kk 112 (P1 x0 5)).2 ∧ V E (d + 1) m_Program_pass 112 Q 102 [some (.inr x0), some (.inr x1), some (.inl x2), some (.inl x3), some (.inl x4), some (.inl (I1 (P1 x0 5) (I1 (P1 (P1 x0 4) 2) x3.toNatClampNeg).toNatClampNeg)), none] [] 112 I1 P1)) 0 [some (.inr (P x0 4)), some (.inl x3), some (.inl x4)] [] 112 I P) : V E (d + 1) m_Program_pass 112 Q 73 [some (.inr x0), some (.inr x1), some (.inl x2), some (.inl x3), some (.inl x4), none, none] [] 112 I P := V_run 18 37 rfl h
set_option maxRecDepth 20000 in
theorem x_Program_pass_102 {E : XE} {d : Nat} {Q : Int32 → mI → mP → Prop} {I : mI} {P : mP} (x0 : Nat) (x1 : Nat) (x2 : Int32) (x3 : Int32) (x4 : Int32) (x5 : Int32) (h : kk 112 x0 = (0, 2) ∧ P x0 0 ≠ 0 ∧ kk 112 (P x0 0) = (0, 3) ∧ kk 112 x0 = (0, 2) ∧ P x0 0 ≠ 0 ∧ kk 112 (P x0 0) = (0, 3) ∧ P (P x0 0) 4 ≠ 0 ∧ (kk 112 (P (P x0 0) 4)).1 = 1 ∧ vp_in x4 (kk 112 (P (P x0 0) 4)).2 ∧ V E (d + 1) m_Program_pass 112 Q 122 [some (.inr x0), some (.inr x1), some (.inl x2), some (.inl x3), some (.inl x4), some (.inl x5), some (.inl ((I (P x0 0) 5) - (I (P (P x0 0) 4) x4.toNatClampNeg)))] [] 112 I P) : V E (d + 1) m_Program_pass 112 Q 102 [some (.inr x0), some (.inr x1), some (.inl x2), some (.inl x3), some (.inl x4), some (.inl x5), none] [] 112 I P := V_run 13 52 rfl h
set_option maxRecDepth 20000 in
theorem x_Program_pass_122 {E : XE} {d : Nat} {Q : Int32 → mI → mP → Prop} {I : mI} {P : mP} (x0 : Nat) (x1 : Nat) (x2 : Int32) (x3 : Int32) (x4 : Int32) (x5 : Int32) (x6 : Int32) (h : kk 112 x0 = (0, 2) ∧ P x0 1 ≠ 0 ∧ kk 112 x0 = (0, 2) ∧ P x0 1 ≠ 0 ∧ kk 112 (P x0 1) = (0, 3) ∧ kk 112 x1 = (0, 1) ∧ V E d m_Rule_matches 112 (fun r1 I1 P1 => (r1 = 0 → V E (d + 1) m_Program_pass 112 Q 165 [some (.inr x0), some (.inr x1), some (.inl x2), some (.inl x3), some (.inl x4), none, none] [] 112 I1 P1) ∧ (¬ r1 = 0 → kk 112 x0 = (0, 2) ∧ P1 x0 4 ≠ 0 ∧ kk 112 (P1 x0 4) = (0, 4) ∧ P1 (P1 x0 4) 4 ≠ 0 ∧ (kk 112 (P1 (P1 x0 4) 4)).1 = 1 ∧ vp_in x3 (kk 112 (P1 (P1 x0 4) 4)).2 ∧ kk 112 x0 = (0, 2) ∧ V E d m_Program_rewrite 112 (fun r2 I2 P2 => (¬ r2 = 0 → V E (d + 1) m_Program_pass 112 Q 165 [some (.inr x0), some (.inr x1), some (.inl x2), some (.inl x3), some (.inl x4), none, none] [] 112 I2 P2) ∧ (r2 = 0 → zb (nI 0) ∧ Q (nI 0) I2 P2)) 0 [some (.inr x0), some (.inr x1), some (.inl x5), some (.inl (I1 (P1 (P1 x0 4) 4) x3.toNatClampNeg)), some (.inl x6)] [] 112 I1 P1)) 0 [some (.inr x1), some (.inr (P x0 1)), some (.inl x5), some (.inl (I (P x0 1) 6)), none, none] [] 112 I P) : V E (d + 1) m_Program_pass 112 Q 122 [some (.inr x0), some (.inr x1), some (.inl x2), some (.inl x3), some (.inl x4), some (.inl x5), some (.inl x6)] [] 112 I P := V_run 24 62 rfl h
set_option maxRecDepth 20000 in
theorem x_Program_pass_165 {E : XE} {d : Nat} {Q : Int32 → mI → mP → Prop} {I : mI} {P : mP} (x0 : Nat) (x1 : Nat) (x2 : Int32) (x3 : Int32) (x4 : Int32) (h : V E (d + 1) m_Program_pass 112 Q 168 [some (.inr x0), some (.inr x1), some (.inl x2), some (.inl (x3 + (nI 1))), some (.inl x4), none, none] [] 112 I P) : V E (d + 1) m_Program_pass 112 Q 165 [some (.inr x0), some (.inr x1), some (.inl x2), some (.inl x3), some (.inl x4), none, none] [] 112 I P := V_run 4 84 rfl h
set_option maxRecDepth 20000 in
theorem x_Program_pass_168 {E : XE} {d : Nat} {Q : Int32 → mI → mP → Prop} {I : mI} {P : mP} (x0 : Nat) (x1 : Nat) (x2 : Int32) (x3 : Int32) (x4 : Int32) (h : V E (d + 1) m_Program_pass 112 Q 17 [some (.inr x0), some (.inr x1), some (.inl x2), some (.inl x3), some (.inl (x4 + (nI 1))), none, none] [] 112 I P) : V E (d + 1) m_Program_pass 112 Q 168 [some (.inr x0), some (.inr x1), some (.inl x2), some (.inl x3), some (.inl x4), none, none] [] 112 I P := V_run 5 85 rfl h
set_option maxRecDepth 20000 in
theorem x_Program_pass_174 {E : XE} {d : Nat} {Q : Int32 → mI → mP → Prop} {I : mI} {P : mP} (x0 : Nat) (x2 : Int32) (h : kk 112 x0 = (0, 2) ∧ P x0 1 ≠ 0 ∧ kk 112 x0 = (0, 2) ∧ P x0 0 ≠ 0 ∧ kk 112 x0 = (0, 2) ∧ P x0 0 ≠ 0 ∧ kk 112 (P x0 0) = (0, 3) ∧ kk 112 (P x0 1) = (0, 3) ∧ V E d m_Text_appendSpace 112 (fun _ I1 P1 => V E (d + 1) m_Program_pass 112 Q 192 [some (.inr x0), none, some (.inl x2), none, none, none, none] [] 112 I1 P1) 0 [some (.inr (P x0 1)), some (.inr (P x0 0)), some (.inl (I (P x0 0) 6)), none, none] [] 112 I P) : V E (d + 1) m_Program_pass 112 Q 174 [some (.inr x0), none, some (.inl x2), none, none, none, none] [] 112 I P := V_run 11 87 rfl h
set_option maxRecDepth 20000 in
theorem x_Program_pass_192 {E : XE} {d : Nat} {Q : Int32 → mI → mP → Prop} {I : mI} {P : mP} (x0 : Nat) (x2 : Int32) (h : kk 112 x0 = (0, 2) ∧ ((I x0 6) ≤ x2 → zb (nI 1) ∧ Q (nI 1) I P) ∧ (¬ (I x0 6) ≤ x2 → kk 112 x0 = (0, 2) ∧ P x0 0 ≠ 0 ∧ kk 112 x0 = (0, 2) ∧ P x0 1 ≠ 0 ∧ kk 112 x0 = (0, 2) ∧ P x0 1 ≠ 0 ∧ kk 112 x0 = (0, 2) ∧ P x0 0 ≠ 0 ∧ kk 112 x0 = (0, 2) ∧ (uP (uP P x0 0 (P x0 1)) x0 1 (P x0 0)) x0 4 ≠ 0 ∧ kk 112 x0 = (0, 2) ∧ (uP (uP P x0 0 (P x0 1)) x0 1 (P x0 0)) x0 0 ≠ 0 ∧ kk 112 ((uP (uP P x0 0 (P x0 1)) x0 1 (P x0 0)) x0 4) = (0, 4) ∧ V E d m_Outline_become 112 (fun _ I1 P1 => zb (nI 1) ∧ Q (nI 1) I1 P1) 0 [some (.inr ((uP (uP P x0 0 (P x0 1)) x0 1 (P x0 0)) x0 4)), some (.inr ((uP (uP P x0 0 (P x0 1)) x0 1 (P x0 0)) x0 0)), none, none] [] 112 I (uP (uP P x0 0 (P x0 1)) x0 1 (P x0 0)))) : V E (d + 1) m_Program_pass 112 Q 192 [some (.inr x0), none, some (.inl x2), none, none, none, none] [] 112 I P := V_run 23 95 rfl h
set_option maxRecDepth 20000 in
theorem x_Text_appendSpace_0 {E : XE} {d : Nat} {Q : Int32 → mI → mP → Prop} {I : mI} {P : mP} (x0 : Nat) (x1 : Nat) (x2 : Int32) (h : (x2 ≤ 0 → V E (d + 1) m_Text_appendSpace 112 Q 25 [some (.inr x0), some (.inr x1), some (.inl x2), some (.inl (nI 0)), none] [] 112 I P) ∧ (¬ x2 ≤ 0 → kk 112 x1 = (0, 3) ∧ ((I x1 6) < x2 → V E (d + 1) m_Text_appendSpace 112 Q 25 [some (.inr x0), some (.inr x1), some (.inl x2), some (.inl (nI 0)), none] [] 112 I P) ∧ (¬ (I x1 6) < x2 → kk 112 x1 = (0, 3) ∧ P x1 4 ≠ 0 ∧ (kk 112 (P x1 4)).1 = 1 ∧ vp_in (x2 - (nI 1)) (kk 112 (P x1 4)).2 ∧ V E (d + 1) m_Text_appendSpace 112 Q 25 [some (.inr x0), some (.inr x1), some (.inl x2), some (.inl (I (P x1 4) (x2 - (nI 1)).toNatClampNeg)), none] [] 112 I P))) : V E (d + 1) m_Text_appendSpace 112 Q 0 [some (.inr x0), some (.inr x1), some (.inl x2), none, none] [] 112 I P := V_run 17 0 rfl h
set_option maxRecDepth 20000 in
theorem x_Text_appendSpace_25 {E : XE} {d : Nat} {Q : Int32 → mI → mP → Prop} {I : mI} {P : mP} (x0 : Nat) (x1 : Nat) (x2 : Int32) (x3 : Int32) (h : (x2 < 0 → kk 112 x1 = (0, 3) ∧ V E (d + 1) m_Text_appendSpace 112 Q 52 [some (.inr x0), some (.inr x1), none, some (.inl x3), some (.inl (I x1 5))] [] 112 I P) ∧ (¬ x2 < 0 → kk 112 x1 = (0, 3) ∧ ((I x1 6) ≤ x2 → kk 112 x1 = (0, 3) ∧ V E (d + 1) m_Text_appendSpace 112 Q 52 [some (.inr x0), some (.inr x1), none, some (.inl x3), some (.inl (I x1 5))] [] 112 I P) ∧ (¬ (I x1 6) ≤ x2 → kk 112 x1 = (0, 3) ∧ P x1 3 ≠ 0 ∧ (kk 112 (P x1 3)).1 = 1 ∧ vp_in x2 (kk 112 (P x1 3)).2 ∧ V E (d + 1) m_Text_appendSpace 112 Q 52 [some (.inr x0), some (.inr x1), none, some (.inl x3), some (.inl (I (P x1 3) x2.toNatClampNeg))] [] 112 I P))) : V E (d + 1) m_Text_appendSpace 112 Q 25 [some (.inr x0), some (.inr x1), some (.inl x2), some (.inl x3), none] [] 112 I P := V_run 15 15 rfl h
set_option maxRecDepth 20000 in
theorem x_Text_appendSpace_52 {E : XE} {d : Nat} {Q : Int32 → mI → mP → Prop} {I : mI} {P : mP} (x0 : Nat) (x1 : Nat) (x3 : Int32) (x4 : Int32) (h : kk 112 x0 = (0, 3) ∧ V E d m_Text_appendCharacters 112 (fun _ I1 P1 => Q (nI 0) I1 P1) 0 [some (.inr x0), some (.inr x1), some (.inl x3), some (.inl x4), none] [] 112 I P) : V E (d + 1) m_Text_appendSpace 112 Q 52 [some (.inr x0), some (.inr x1), none, some (.inl x3), some (.inl x4)] [] 112 I P := V_run 8 29 rfl h
set_option maxRecDepth 20000 in
theorem x_Text_appendCharacters_0 {E : XE} {d : Nat} {Q : Int32 → mI → mP → Prop} {I : mI} {P : mP} (x0 : Nat) (x1 : Nat) (x2 : Int32) (x3 : Int32) (h : ((x3 - x2) ≤ 0 → Q (nI 0) I P) ∧ (¬ (x3 - x2) ≤ 0 → kk 112 x0 = (0, 3) ∧ kk 112 x0 = (0, 3) ∧ P x0 0 ≠ 0 ∧ 1 ≤ (kk 112 (P x0 0)).1 ∧ (kk 112 (P x0 0)).1 ≤ 3 ∧ (((I x0 5) + (x3 - x2)) ≤ (nI (kk 112 (P x0 0)).2) → kk 112 x1 = (0, 3) ∧ P x1 0 ≠ 0 ∧ kk 112 x0 = (0, 3) ∧ P x0 0 ≠ 0 ∧ kk 112 x0 = (0, 3) ∧ (kk 112 (P x1 0)).1 = 1 ∧ (kk 112 (P x0 0)).1 = 1 ∧ ¬ x2 < 0 ∧ ¬ (I x0 5) < 0 ∧ ¬ (x3 - x2) < 0 ∧ x2.toNatClampNeg + (x3 - x2).toNatClampNeg ≤ (kk 112 (P x1 0)).2 ∧ (I x0 5).toNatClampNeg + (x3 - x2).toNatClampNeg ≤ (kk 112 (P x0 0)).2 ∧ kk 112 x1 = (0, 3) ∧ P x1 1 ≠ 0 ∧ kk 112 x0 = (0, 3) ∧ P x0 1 ≠ 0 ∧ kk 112 x0 = (0, 3) ∧ (kk 112 (P x1 1)).1 = 1 ∧ (kk 112 (P x0 1)).1 = 1 ∧ ¬ x2 < 0 ∧ ¬ ((sI I (P x0 0) (va_cpy (I (P x1 0)) (I (P x0 0)) x2.toNatClampNeg (I x0 5).toNatClampNeg (x3 - x2).toNatClampNeg)) x0 5) < 0 ∧ ¬ (x3 - x2) < 0 ∧ x2.toNatClampNeg + (x3 - x2).toNatClampNeg ≤ (kk 112 (P x1 1)).2 ∧ ((sI I (P x0 0) (va_cpy (I (P x1 0)) (I (P x0 0)) x2.toNatClampNeg (I x0 5).toNatClampNeg (x3 - x2).toNatClampNeg)) x0 5).toNatClampNeg + (x3 - x2).toNatClampNeg ≤ (kk 112 (P x0 1)).2 ∧ kk 112 x0 = (0, 3) ∧ kk 112 x0 = (0, 3) ∧ Q (nI 0) (uI (sI (sI I (P x0 0) (va_cpy (I (P x1 0)) (I (P x0 0)) x2.toNatClampNeg (I x0 5).toNatClampNeg (x3 - x2).toNatClampNeg)) (P x0 1) (va_cpy ((sI I (P x0 0) (va_cpy (I (P x1 0)) (I (P x0 0)) x2.toNatClampNeg (I x0 5).toNatClampNeg (x3 - x2).toNatClampNeg)) (P x1 1)) ((sI I (P x0 0) (va_cpy (I (P x1 0)) (I (P x0 0)) x2.toNatClampNeg (I x0 5).toNatClampNeg (x3 - x2).toNatClampNeg)) (P x0 1)) x2.toNatClampNeg ((sI I (P x0 0) (va_cpy (I (P x1 0)) (I (P x0 0)) x2.toNatClampNeg (I x0 5).toNatClampNeg (x3 - x2).toNatClampNeg)) x0 5).toNatClampNeg (x3 - x2).toNatClampNeg)) x0 5 (((sI (sI I (P x0 0) (va_cpy (I (P x1 0)) (I (P x0 0)) x2.toNatClampNeg (I x0 5).toNatClampNeg (x3 - x2).toNatClampNeg)) (P x0 1) (va_cpy ((sI I (P x0 0) (va_cpy (I (P x1 0)) (I (P x0 0)) x2.toNatClampNeg (I x0 5).toNatClampNeg (x3 - x2).toNatClampNeg)) (P x1 1)) ((sI I (P x0 0) (va_cpy (I (P x1 0)) (I (P x0 0)) x2.toNatClampNeg (I x0 5).toNatClampNeg (x3 - x2).toNatClampNeg)) (P x0 1)) x2.toNatClampNeg ((sI I (P x0 0) (va_cpy (I (P x1 0)) (I (P x0 0)) x2.toNatClampNeg (I x0 5).toNatClampNeg (x3 - x2).toNatClampNeg)) x0 5).toNatClampNeg (x3 - x2).toNatClampNeg)) x0 5) + (x3 - x2))) P) ∧ (¬ ((I x0 5) + (x3 - x2)) ≤ (nI (kk 112 (P x0 0)).2) → Q (nI 0) I P))) : V E (d + 1) m_Text_appendCharacters 112 Q 0 [some (.inr x0), some (.inr x1), some (.inl x2), some (.inl x3), none] [] 112 I P := V_run 41 0 rfl h
set_option maxRecDepth 20000 in
theorem x_Text_appendSpan_0 {E : XE} {d : Nat} {Q : Int32 → mI → mP → Prop} {I : mI} {P : mP} (x0 : Nat) (x1 : Nat) (x2 : Int32) (x3 : Int32) (h : kk 112 x1 = (0, 3) ∧ V E d m_Text_spanSize 112 (fun r1 I1 P1 => (r1 = 0 → Q (nI 0) I1 P1) ∧ (¬ r1 = 0 → kk 112 x0 = (0, 3) ∧ kk 112 x0 = (0, 3) ∧ P1 x0 0 ≠ 0 ∧ 1 ≤ (kk 112 (P1 x0 0)).1 ∧ (kk 112 (P1 x0 0)).1 ≤ 3 ∧ (((I1 x0 5) + r1) ≤ (nI (kk 112 (P1 x0 0)).2) → kk 112 x0 = (0, 3) ∧ kk 112 x1 = (0, 3) ∧ P1 x1 3 ≠ 0 ∧ (kk 112 (P1 x1 3)).1 = 1 ∧ vp_in x2 (kk 112 (P1 x1 3)).2 ∧ V E (d + 1) m_Text_appendSpan 112 Q 45 [some (.inr x0), some (.inr x1), some (.inl x2), some (.inl x3), none, some (.inl ((I1 x0 5) - (I1 (P1 x1 3) x2.toNatClampNeg))), some (.inl x2)] [] 112 I1 P1) ∧ (¬ ((I1 x0 5) + r1) ≤ (nI (kk 112 (P1 x0 0)).2) → Q (nI 0) I1 P1))) 0 [some (.inr x1), some (.inl x2), some (.inl x3)] [] 112 I P) : V E (d + 1) m_Text_appendSpan 112 Q 0 [some (.inr x0), some (.inr x1), some (.inl x2), some (.inl x3), none, none, none] [] 112 I P := V_run 28 0 rfl h
set_option maxRecDepth 20000 in
theorem x_Text_appendSpan_45 {E : XE} {d : Nat} {Q : Int32 → mI → mP → Prop} {I : mI} {P : mP} (x0 : Nat) (x1 : Nat) (x2 : Int32) (x3 : Int32) (x5 : Int32) (x6 : Int32) (h : (x3 ≤ x6 → V E (d + 1) m_Text_appendSpan 112 Q 121 [some (.inr x0), some (.inr x1), some (.inl x2), some (.inl x3), none, none, none] [] 112 I P) ∧ (¬ x3 ≤ x6 → kk 112 x0 = (0, 3) ∧ P x0 2 ≠ 0 ∧ kk 112 x0 = (0, 3) ∧ kk 112 x1 = (0, 3) ∧ P x1 2 ≠ 0 ∧ (kk 112 (P x1 2)).1 = 1 ∧ vp_in x6 (kk 112 (P x1 2)).2 ∧ (kk 112 (P x0 2)).1 = 1 ∧ vp_in (I x0 6) (kk 112 (P x0 2)).2 ∧ V E (d + 1) m_Text_appendSpan 112 Q 67 [some (.inr x0), some (.inr x1), some (.inl x2), some (.inl x3), none, some (.inl x5), some (.inl x6)] [] 112 (uI I (P x0 2) (I x0 6).toNatClampNeg (I (P x1 2) x6.toNatClampNeg)) P)) : V E (d + 1) m_Text_appendSpan 112 Q 45 [some (.inr x0), some (.inr x1), some (.inl x2), some (.inl x3), none, some (.inl x5), some (.inl x6)] [] 112 I P := V_run 15 26 rfl h
set_option maxRecDepth 20000 in
theorem x_Text_appendSpan_67 {E : XE} {d : Nat} {Q : Int32 → mI → mP → Prop} {I : mI} {P : mP} (x0 : Nat) (x1 : Nat) (x2 : Int32) (x3 : Int32) (x5 : Int32) (x6 : Int32) (h : kk 112 x0 = (0, 3) ∧ P x0 3 ≠ 0 ∧ kk 112 x0 = (0, 3) ∧ kk 112 x1 = (0, 3) ∧ P x1 3 ≠ 0 ∧ (kk 112 (P x1 3)).1 = 1 ∧ vp_in x6 (kk 112 (P x1 3)).2 ∧ (kk 112 (P x0 3)).1 = 1 ∧ vp_in (I x0 6) (kk 112 (P x0 3)).2 ∧ V E (d + 1) m_Text_appendSpan 112 Q 86 [some (.inr x0), some (.inr x1), some (.inl x2), some (.inl x3), none, some (.inl x5), some (.inl x6)] [] 112 (uI I (P x0 3) (I x0 6).toNatClampNeg ((I (P x1 3) x6.toNatClampNeg) + x5)) P) : V E (d + 1) m_Text_appendSpan 112 Q 67 [some (.inr x0), some (.inr x1), some (.inl x2), some (.inl x3), none, some (.inl x5), some (.inl x6)] [] 112 I P := V_run 14 38 rfl h
set_option maxRecDepth 20000 in
theorem x_Text_appendSpan_86 {E : XE} {d : Nat} {Q : Int32 → mI → mP → Prop} {I : mI} {P : mP} (x0 : Nat) (x1 : Nat) (x2 : Int32) (x3 : Int32) (x5 : Int32) (x6 : Int32) (h : kk 112 x0 = (0, 3) ∧ P x0 4 ≠ 0 ∧ kk 112 x0 = (0, 3) ∧ kk 112 x1 = (0, 3) ∧ P x1 4 ≠ 0 ∧ (kk 112 (P x1 4)).1 = 1 ∧ vp_in x6 (kk 112 (P x1 4)).2 ∧ (kk 112 (P x0 4)).1 = 1 ∧ vp_in (I x0 6) (kk 112 (P x0 4)).2 ∧ V E (d + 1) m_Text_appendSpan 112 Q 105 [some (.inr x0), some (.inr x1), some (.inl x2), some (.inl x3), none, some (.inl x5), some (.inl x6)] [] 112 (uI I (P x0 4) (I x0 6).toNatClampNeg ((I (P x1 4) x6.toNatClampNeg) + x5)) P) : V E (d + 1) m_Text_appendSpan 112 Q 86 [some (.inr x0), some (.inr x1), some (.inl x2), some (.inl x3), none, some (.inl x5), some (.inl x6)] [] 112 I P := V_run 14 49 rfl h
set_option maxRecDepth 20000 in
theorem x_Text_appendSpan_105 {E : XE} {d : Nat} {Q : Int32 → mI → mP → Prop} {I : mI} {P : mP} (x0 : Nat) (x1 : Nat) (x2 : Int32) (x3 : Int32) (x5 : Int32) (x6 : Int32) (h : kk 112 x0 = (0, 3) ∧ kk 112 x0 = (0, 3) ∧ V E (d + 1) m_Text_appendSpan 112 Q 45 [some (.inr x0), some (.inr x1), some (.inl x2), some (.inl x3), none, some (.inl x5), some (.inl (x6 + (nI 1)))] [] 112 (uI I x0 6 ((I x0 6) + (nI 1))) P) : V E (d + 1) m_Text_appendSpan 112 Q 105 [some (.inr x0), some (.inr x1), some (.inl x2), some (.inl x3), none, some (.inl x5), some (.inl x6)] [] 112 I P := V_run 11 60 rfl h
set_option maxRecDepth 20000 in
theorem x_Text_appendSpan_121 {E : XE} {d : Nat} {Q : Int32 → mI → mP → Prop} {I : mI} {P : mP} (x0 : Nat) (x1 : Nat) (x2 : Int32) (x3 : Int32) (h : kk 112 x1 = (0, 3) ∧ P x1 3 ≠ 0 ∧ (kk 112 (P x1 3)).1 = 1 ∧ vp_in x2 (kk 112 (P x1 3)).2 ∧ kk 112 x1 = (0, 3) ∧ P x1 4 ≠ 0 ∧ (kk 112 (P x1 4)).1 = 1 ∧ vp_in (x3 - (nI 1)) (kk 112 (P x1 4)).2 ∧ kk 112 x0 = (0, 3) ∧ V E d m_Text_appendCharacters 112 (fun _ I1 P1 => Q (nI 0) I1 P1) 0 [some (.inr x0), some (.inr x1), some (.inl (I (P x1 3) x2.toNatClampNeg)), some (.inl (I (P x1 4) (x3 - (nI 1)).toNatClampNeg)), none] [] 112 I P) : V E (d + 1) m_Text_appendSpan 112 Q 121 [some (.inr x0), some (.inr x1), some (.inl x2), some (.inl x3), none, none, none] [] 112 I P := V_run 16 68 rfl h
set_option maxRecDepth 20000 in
theorem x_Text_spanSize_0 {E : XE} {d : Nat} {Q : Int32 → mI → mP → Prop} {I : mI} {P : mP} (x0 : Nat) (x1 : Int32) (x2 : Int32) (h : (x1 < 0 → Q (nI 0) I P) ∧ (¬ x1 < 0 → (x2 ≤ x1 → Q (nI 0) I P) ∧ (¬ x2 ≤ x1 → kk 112 x0 = (0, 3) ∧ ((I x0 6) < x2 → Q (nI 0) I P) ∧ (¬ (I x0 6) < x2 → kk 112 x0 = (0, 3) ∧ P x0 4 ≠ 0 ∧ (kk 112 (P x0 4)).1 = 1 ∧ vp_in (x2 - (nI 1)) (kk 112 (P x0 4)).2 ∧ kk 112 x0 = (0, 3) ∧ P x0 3 ≠ 0 ∧ (kk 112 (P x0 3)).1 = 1 ∧ vp_in x1 (kk 112 (P x0 3)).2 ∧ Q ((I (P x0 4) (x2 - (nI 1)).toNatClampNeg) - (I (P x0 3) x1.toNatClampNeg)) I P)))) : V E d m_Text_spanSize 112 Q 0 [some (.inr x0), some (.inl x1), some (.inl x2)] [] 112 I P := V_run 24 0 rfl h
set_option maxRecDepth 20000 in
theorem x_Outline_endsWith_0 {E : XE} {d : Nat} {Q : Int32 → mI → mP → Prop} {I : mI} {P : mP} (x0 : Nat) (x1 : Int32) (x2 : Int32) (h : kk 112 x0 = (0, 4) ∧ ((I x0 5) ≤ x1 → zb (nI 0) ∧ Q (nI 0) I P) ∧ (¬ (I x0 5) ≤ x1 → kk 112 x0 = (0, 4) ∧ P x0 3 ≠ 0 ∧ (kk 112 (P x0 3)).1 = 1 ∧ vp_in x1 (kk 112 (P x0 3)).2 ∧ (¬ (I (P x0 3) x1.toNatClampNeg) = x2 → zb (nI 0) ∧ Q (nI 0) I P) ∧ ((I (P x0 3) x1.toNatClampNeg) = x2 → zb (nI 1) ∧ Q (nI 1) I P))) : V E d m_Outline_endsWith 112 Q 0 [some (.inr x0), some (.inl x1), some (.inl x2)] [] 112 I P := V_run 15 0 rfl h
set_option maxRecDepth 20000 in
theorem x_Rule_matches_0 {E : XE} {d : Nat} {Q : Int32 → mI → mP → Prop} {I : mI} {P : mP} (x0 : Nat) (x1 : Nat) (x2 : Int32) (x3 : Int32) (h : V E (d + 1) m_Rule_matches 112 Q 3 [some (.inr x0), some (.inr x1), some (.inl x2), some (.inl x3), some (.inl (nI 0)), none] [] 112 I P) : V E (d + 1) m_Rule_matches 112 Q 0 [some (.inr x0), some (.inr x1), some (.inl x2), some (.inl x3), none, none] [] 112 I P := V_run 5 0 rfl h
set_option maxRecDepth 20000 in
theorem x_Rule_matches_3 {E : XE} {d : Nat} {Q : Int32 → mI → mP → Prop} {I : mI} {P : mP} (x0 : Nat) (x1 : Nat) (x2 : Int32) (x3 : Int32) (x4 : Int32) (h : ((nI 10) ≤ x4 → V E (d + 1) m_Rule_matches 112 Q 30 [some (.inr x0), some (.inr x1), none, some (.inl x3), some (.inl x2), some (.inl (nI 0))] [] 112 I P) ∧ (¬ (nI 10) ≤ x4 → kk 112 x0 = (0, 1) ∧ P x0 2 ≠ 0 ∧ (kk 112 (P x0 2)).1 = 1 ∧ vp_in x4 (kk 112 (P x0 2)).2 ∧ V E (d + 1) m_Rule_matches 112 Q 3 [some (.inr x0), some (.inr x1), some (.inl x2), some (.inl x3), some (.inl (x4 + (nI 1))), none] [] 112 (uI I (P x0 2) x4.toNatClampNeg (-(nI 1))) P)) : V E (d + 1) m_Rule_matches 112 Q 3 [some (.inr x0), some (.inr x1), some (.inl x2), some (.inl x3), some (.inl x4), none] [] 112 I P := V_run 13 2 rfl h
set_option maxRecDepth 20000 in
theorem x_Rule_matches_30 {E : XE} {d : Nat} {Q : Int32 → mI → mP → Prop} {I : mI} {P : mP} (x0 : Nat) (x1 : Nat) (x3 : Int32) (x4 : Int32) (x5 : Int32) (h : kk 112 x0 = (0, 1) ∧ ((I x0 1) ≤ x5 → (¬ x4 = x3 → zb (nI 0) ∧ Q (nI 0) I P) ∧ (x4 = x3 → zb (nI 1) ∧ Q (nI 1) I P)) ∧ (¬ (I x0 1) ≤ x5 → kk 112 x0 = (0, 1) ∧ P x0 0 ≠ 0 ∧ kk 112 (P x0 0) = (0, 3) ∧ V E d m_Text_isHole 112 (fun r1 I1 P1 => (r1 = 0 → kk 112 x0 = (0, 1) ∧ P1 x0 0 ≠ 0 ∧ kk 112 (P1 x0 0) = (0, 3) ∧ V E d m_Text_sameToken 112 (fun r2 I2 P2 => (r2 = 0 → V E (d + 1) m_Rule_matches 112 Q 97 [some (.inr x0), some (.inr x1), none, some (.inl x3), some (.inl (-(nI 1))), some (.inl x5)] [] 112 I2 P2) ∧ (¬ r2 = 0 → V E (d + 1) m_Rule_matches 112 Q 97 [some (.inr x0), some (.inr x1), none, some (.inl x3), some (.inl (x4 + (nI 1))), some (.inl x5)] [] 112 I2 P2)) 0 [some (.inr (P1 x0 0)), some (.inl x5), some (.inr x1), some (.inl x4), none, none] [] 112 I1 P1) ∧ (¬ r1 = 0 → kk 112 x0 = (0, 1) ∧ P1 x0 0 ≠ 0 ∧ kk 112 (P1 x0 0) = (0, 3) ∧ V E d m_Text_digitOf 112 (fun r3 I3 P3 => kk 112 x0 = (0, 1) ∧ V E d m_Rule_behindHole 112 (fun r4 I4 P4 => V E (d + 1) m_Rule_matches 112 Q 97 [some (.inr x0), some (.inr x1), none, some (.inl x3), some (.inl r4), some (.inl x5)] [] 112 I4 P4) 0 [some (.inr x0), some (.inl r3), some (.inr x1), some (.inl x4), none, none, none, none] [] 112 I3 P3) 0 [some (.inr (P1 x0 0)), some (.inl x5)] [] 112 I1 P1)) 0 [some (.inr (P x0 0)), some (.inl x5)] [] 112 I P)) : V E (d + 1) m_Rule_matches 112 Q 30 [some (.inr x0), some (.inr x1), none, some (.inl x3), some (.inl x4), some (.inl x5)] [] 112 I P := V_run 24 16 rfl h
set_option maxRecDepth 20000 in
theorem x_Rule_matches_97 {E : XE} {d : Nat} {Q : Int32 → mI → mP → Prop} {I : mI} {P : mP} (x0 : Nat) (x1 : Nat) (x3 : Int32) (x4 : Int32) (x5 : Int32) (h : (¬ x4 = (-(nI 1)) → V E (d + 1) m_Rule_matches 112 Q 30 [some (.inr x0), some (.inr x1), none, some (.inl x3), some (.inl x4), some (.inl (x5 + (nI 1)))] [] 112 I P) ∧ (x4 = (-(nI 1)) → zb (nI 0) ∧ Q (nI 0) I P)) : V E (d + 1) m_Rule_matches 112 Q 97 [some (.inr x0), some (.inr x1), none, some (.inl x3), some (.inl x4), some (.inl x5)] [] 112 I P := V_run 8 48 rfl h
set_option maxRecDepth 20000 in
theorem x_Rule_behindHole_0 {E : XE} {d : Nat} {Q : Int32 → mI → mP → Prop} {I : mI} {P : mP} (x0 : Nat) (x1 : Int32) (x2 : Nat) (x3 : Int32) (h : kk 112 x2 = (0, 3) ∧ V E d m_Text_behindExpression 112 (fun r1 I1 P1 => (¬ r1 = (-(nI 1)) → kk 112 x0 = (0, 1) ∧ P1 x0 2 ≠ 0 ∧ (kk 112 (P1 x0 2)).1 = 1 ∧ vp_in x1 (kk 112 (P1 x0 2)).2 ∧ (¬ (I1 (P1 x0 2) x1.toNatClampNeg) = (-(nI 1)) → kk 112 x0 = (0, 1) ∧ P1 x0 3 ≠ 0 ∧ (kk 112 (P1 x0 3)).1 = 1 ∧ vp_in x1 (kk 112 (P1 x0 3)).2 ∧ (¬ ((I1 (P1 x0 3) x1.toNatClampNeg) - (I1 (P1 x0 2) x1.toNatClampNeg)) = (r1 - x3) → V E (d + 1) m_Rule_behindHole 112 Q 87 [none, none, none, none, some (.inl r1), none, none, some (.inl (nI 0))] [] 112 I1 P1) ∧ (((I1 (P1 x0 3) x1.toNatClampNeg) - (I1 (P1 x0 2) x1.toNatClampNeg)) = (r1 - x3) → kk 112 x2 = (0, 3) ∧ V E d m_Text_sameTokens 112 (fun r2 I2 P2 => (r2 = 0 → V E (d + 1) m_Rule_behindHole 112 Q 87 [none, none, none, none, some (.inl r1), none, none, some (.inl (nI 0))] [] 112 I2 P2) ∧ (¬ r2 = 0 → V E (d + 1) m_Rule_behindHole 112 Q 87 [none, none, none, none, some (.inl r1), none, none, some (.inl (nI 1))] [] 112 I2 P2)) 0 [some (.inr x2), some (.inl (I1 (P1 x0 2) x1.toNatClampNeg)), some (.inl x3), some (.inl (r1 - x3)), none] [] 112 I1 P1)) ∧ ((I1 (P1 x0 2) x1.toNatClampNeg) = (-(nI 1)) → kk 112 x0 = (0, 1) ∧ P1 x0 2 ≠ 0 ∧ (kk 112 (P1 x0 2)).1 = 1 ∧ vp_in x1 (kk 112 (P1 x0 2)).2 ∧ kk 112 x0 = (0, 1) ∧ P1 x0 3 ≠ 0 ∧ (kk 112 (P1 x0 3)).1 = 1 ∧ vp_in x1 (kk 112 (P1 x0 3)).2 ∧ Q r1 (uI (uI I1 (P1 x0 2) x1.toNatClampNeg x3) (P1 x0 3) x1.toNatClampNeg r1) P1)) ∧ (r1 = (-(nI 1)) → Q (-(nI 1)) I1 P1)) 0 [some (.inr x2), some (.inl x3), some (.inl (nI 0)), none] [] 112 I P) : V E (d + 1) m_Rule_behindHole 112 Q 0 [some (.inr x0), some (.inl x1), some (.inr x2), some (.inl x3), none, none, none, none] [] 112 I P := V_run 40 0 rfl h
set_option maxRecDepth 20000 in
theorem x_Rule_behindHole_87 {E : XE} {d : Nat} {Q : Int32 → mI → mP → Prop} {I : mI} {P : mP} (x4 : Int32) (x7 : Int32) (h : (x7 = 0 → Q (-(nI 1)) I P) ∧ (¬ x7 = 0 → Q x4 I P)) : V E (d + 1) m_Rule_behindHole 112 Q 87 [none, none, none, none, some (.inl x4), none, none, some (.inl x7)] [] 112 I P := V_run 7 52 rfl h
set_option maxRecDepth 20000 in
theorem x_Text_sameTokens_0 {E : XE} {d : Nat} {Q : Int32 → mI → mP → Prop} {I : mI} {P : mP} (x0 : Nat) (x1 : Int32) (x2 : Int32) (x3 : Int32) (h : V E (d + 1) m_Text_sameTokens 112 Q 3 [some (.inr x0), some (.inl x1), some (.inl x2), some (.inl x3), some (.inl (nI 0))] [] 112 I P) : V E (d + 1) m_Text_sameTokens 112 Q 0 [some (.inr x0), some (.inl x1), some (.inl x2), some (.inl x3), none] [] 112 I P := V_run 5 0 rfl h
set_option maxRecDepth 20000 in
theorem x_Text_sameTokens_3 {E : XE} {d : Nat} {Q : Int32 → mI → mP → Prop} {I : mI} {P : mP} (x0 : Nat) (x1 : Int32) (x2 : Int32) (x3 : Int32) (x4 : Int32) (h : (x3 ≤ x4 → zb (nI 1) ∧ Q (nI 1) I P) ∧ (¬ x3 ≤ x4 → kk 112 x0 = (0, 3) ∧ V E d m_Text_sameToken 112 (fun r1 I1 P1 => (¬ r1 = 0 → V E (d + 1) m_Text_sameTokens 112 Q 3 [some (.inr x0), some (.inl x1), some (.inl x2), some (.inl x3), some (.inl (x4 + (nI 1)))] [] 112 I1 P1) ∧ (r1 = 0 → zb (nI 0) ∧ Q (nI 0) I1 P1)) 0 [some (.inr x0), some (.inl (x1 + x4)), some (.inr x0), some (.inl (x2 + x4)), none, none] [] 112 I P)) : V E (d + 1) m_Text_sameTokens 112 Q 3 [some (.inr x0), some (.inl x1), some (.inl x2), some (.inl x3), some (.inl x4)] [] 112 I P := V_run 18 2 rfl h
set_option maxRecDepth 20000 in
theorem x_Text_sameToken_0 {E : XE} {d : Nat} {Q : Int32 → mI → mP → Prop} {I : mI} {P : mP} (x0 : Nat) (x1 : Int32) (x2 : Nat) (x3 : Int32) (h : (x1 < 0 → zb (nI 0) ∧ Q (nI 0) I P) ∧ (¬ x1 < 0 → kk 112 x0 = (0, 3) ∧ ((I x0 6) ≤ x1 → zb (nI 0) ∧ Q (nI 0) I P) ∧ (¬ (I x0 6) ≤ x1 → (x3 < 0 → zb (nI 0) ∧ Q (nI 0) I P) ∧ (¬ x3 < 0 → kk 112 x2 = (0, 3) ∧ (x3 < (I x2 6) → kk 112 x0 = (0, 3) ∧ P x0 4 ≠ 0 ∧ (kk 112 (P x0 4)).1 = 1 ∧ vp_in x1 (kk 112 (P x0 4)).2 ∧ kk 112 x0 = (0, 3) ∧ P x0 3 ≠ 0 ∧ (kk 112 (P x0 3)).1 = 1 ∧ vp_in x1 (kk 112 (P x0 3)).2 ∧ kk 112 x2 = (0, 3) ∧ P x2 4 ≠ 0 ∧ (kk 112 (P x2 4)).1 = 1 ∧ vp_in x3 (kk 112 (P x2 4)).2 ∧ kk 112 x2 = (0, 3) ∧ P x2 3 ≠ 0 ∧ (kk 112 (P x2 3)).1 = 1 ∧ vp_in x3 (kk 112 (P x2 3)).2 ∧ (((I (P x0 4) x1.toNatClampNeg) - (I (P x0 3) x1.toNatClampNeg)) = ((I (P x2 4) x3.toNatClampNeg) - (I (P x2 3) x3.toNatClampNeg)) → V E d m_Text_sameToken 112 Q 64 [some (.inr x0), some (.inl x1), some (.inr x2), some (.inl x3), some (.inl ((I (P x0 4) x1.toNatClampNeg) - (I (P x0 3) x1.toNatClampNeg))), some (.inl (nI 0))] [] 112 I P) ∧ (¬ ((I (P x0 4) x1.toNatClampNeg) - (I (P x0 3) x1.toNatClampNeg)) = ((I (P x2 4) x3.toNatClampNeg) - (I (P x2 3) x3.toNatClampNeg)) → zb (nI 0) ∧ Q (nI 0) I P)) ∧ (¬ x3 < (I x2 6) → zb (nI 0) ∧ Q (nI 0) I P))))) : V E d m_Text_sameToken 112 Q 0 [some (.inr x0), some (.inl x1), some (.inr x2), some (.inl x3), none, none] [] 112 I P := V_run 38 0 rfl h
set_option maxRecDepth 20000 in
theorem x_Text_sameToken_64 {E : XE} {d : Nat} {Q : Int32 → mI → mP → Prop} {I : mI} {P : mP} (x0 : Nat) (x1 : Int32) (x2 : Nat) (x3 : Int32) (x4 : Int32) (x5 : Int32) (h : (x4 ≤ x5 → zb (nI 1) ∧ Q (nI 1) I P) ∧ (¬ x4 ≤ x5 → kk 112 x0 = (0, 3) ∧ P x0 0 ≠ 0 ∧ kk 112 x0 = (0, 3) ∧ P x0 3 ≠ 0 ∧ (kk 112 (P x0 3)).1 = 1 ∧ vp_in x1 (kk 112 (P x0 3)).2 ∧ (kk 112 (P x0 0)).1 = 1 ∧ vp_in ((I (P x0 3) x1.toNatClampNeg) + x5) (kk 112 (P x0 0)).2 ∧ kk 112 x2 = (0, 3) ∧ P x2 0 ≠ 0 ∧ kk 112 x2 = (0, 3) ∧ P x2 3 ≠ 0 ∧ (kk 112 (P x2 3)).1 = 1 ∧ vp_in x3 (kk 112 (P x2 3)).2 ∧ (kk 112 (P x2 0)).1 = 1 ∧ vp_in ((I (P x2 3) x3.toNatClampNeg) + x5) (kk 112 (P x2 0)).2 ∧ ((I (P x0 0) ((I (P x0 3) x1.toNatClampNeg) + x5).toNatClampNeg) = (I (P x2 0) ((I (P x2 3) x3.toNatClampNeg) + x5).toNatClampNeg) → V E d m_Text_sameToken 112 Q 64 [some (.inr x0), some (.inl x1), some (.inr x2), some (.inl x3), some (.inl x4), some (.inl (x5 + (nI 1)))] [] 112 I P) ∧ (¬ (I (P x0 0) ((I (P x0 3) x1.toNatClampNeg) + x5).toNatClampNeg) = (I (P x2 0) ((I (P x2 3) x3.toNatClampNeg) + x5).toNatClampNeg) → zb (nI 0) ∧ Q (nI 0) I P))) : V E d m_Text_sameToken 112 Q 64 [some (.inr x0), some (.inl x1), some (.inr x2), some (.inl x3), some (.inl x4), some (.inl x5)] [] 112 I P := V_run 27 39 rfl h
set_option maxRecDepth 20000 in
theorem x_Program_rewrite_0 {E : XE} {d : Nat} {Q : Int32 → mI → mP → Prop} {I : mI} {P : mP} (x0 : Nat) (x1 : Nat) (x2 : Int32) (x3 : Int32) (x4 : Int32) (h : kk 112 x0 = (0, 2) ∧ P x0 1 ≠ 0 ∧ kk 112 (P x0 1) = (0, 3) ∧ P (P x0 1) 3 ≠ 0 ∧ (kk 112 (P (P x0 1) 3)).1 = 1 ∧ vp_in x2 (kk 112 (P (P x0 1) 3)).2 ∧ kk 112 x0 = (0, 2) ∧ P x0 1 ≠ 0 ∧ kk 112 x1 = (0, 1) ∧ V E d m_Rule_filledSize 112 (fun r1 I1 P1 => ((((I (P (P x0 1) 3) x2.toNatClampNeg) + r1) + x4) ≤ (nI 120) → kk 112 x0 = (0, 2) ∧ P1 x0 3 ≠ 0 ∧ kk 112 x0 = (0, 2) ∧ P1 x0 1 ≠ 0 ∧ kk 112 x0 = (0, 2) ∧ kk 112 x1 = (0, 1) ∧ V E d m_Rule_fill 112 (fun _ I2 P2 => kk 112 x0 = (0, 2) ∧ P2 x0 3 ≠ 0 ∧ kk 112 (P2 x0 3) = (0, 3) ∧ V E d m_Text_deepestNesting 112 (fun r3 I3 P3 => ((x3 + r3) ≤ (nI 12) → kk 112 x0 = (0, 2) ∧ P3 x0 1 ≠ 0 ∧ kk 112 (P3 x0 1) = (0, 3) ∧ V E d m_Text_cutAt 112 (fun _ I4 P4 => kk 112 x0 = (0, 2) ∧ P4 x0 1 ≠ 0 ∧ kk 112 x0 = (0, 2) ∧ P4 x0 3 ≠ 0 ∧ kk 112 x0 = (0, 2) ∧ P4 x0 3 ≠ 0 ∧ kk 112 (P4 x0 3) = (0, 3) ∧ kk 112 (P4 x0 1) = (0, 3) ∧ V E d m_Text_appendSpan 112 (fun _ I5 P5 => kk 112 x0 = (0, 2) ∧ kk 112 x0 = (0, 2) ∧ zb (nI 1) ∧ Q (nI 1) (uI I5 x0 6 ((I5 x0 6) + (nI 1))) P5) 0 [some (.inr (P4 x0 1)), some (.inr (P4 x0 3)), some (.inl (nI 0)), some (.inl (I4 (P4 x0 3) 6)), none, none, none] [] 112 I4 P4) 0 [some (.inr (P3 x0 1)), some (.inl x2)] [] 112 I3 P3) ∧ (¬ (x3 + r3) ≤ (nI 12) → zb (nI 0) ∧ Q (nI 0) I3 P3)) 0 [some (.inr (P2 x0 3)), none, none, none] [] 112 I2 P2) 0 [some (.inr x1), some (.inr (P1 x0 3)), some (.inr (P1 x0 1)), some (.inl ((I1 x0 6) + (nI 1))), none, none] [] 112 I1 P1) ∧ (¬ (((I (P (P x0 1) 3) x2.toNatClampNeg) + r1) + x4) ≤ (nI 120) → zb (nI 0) ∧ Q (nI 0) I1 P1)) 0 [some (.inr x1), some (.inr (P x0 1)), none, none, none] [] 112 I P) : V E (d + 1) m_Program_rewrite 112 Q 0 [some (.inr x0), some (.inr x1), some (.inl x2), some (.inl x3), some (.inl x4)] [] 112 I P := V_run 54 0 rfl h
set_option maxRecDepth 20000 in
theorem x_Rule_filledSize_0 {E : XE} {d : Nat} {Q : Int32 → mI → mP → Prop} {I : mI} {P : mP} (x0 : Nat) (x1 : Nat) (h : kk 112 x0 = (0, 1) ∧ P x0 0 ≠ 0 ∧ kk 112 x0 = (0, 1) ∧ kk 112 x0 = (0, 1) ∧ P x0 0 ≠ 0 ∧ kk 112 (P x0 0) = (0, 3) ∧ kk 112 (P x0 0) = (0, 3) ∧ V E d m_Text_spanSize 112 (fun r1 I1 P1 => kk 112 x0 = (0, 1) ∧ V E (d + 1) m_Rule_filledSize 112 Q 28 [some (.inr x0), some (.inr x1), some (.inl r1), some (.inl ((I1 x0 1) + (nI 1))), none] [] 112 I1 P1) 0 [some (.inr (P x0 0)), some (.inl ((I x0 1) + (nI 1))), some (.inl (I (P x0 0) 6))] [] 112 I P) : V E (d + 1) m_Rule_filledSize 112 Q 0 [some (.inr x0), some (.inr x1), none, none, none] [] 112 I P := V_run 19 0 rfl h
set_option maxRecDepth 20000 in
theorem x_Rule_filledSize_28 {E : XE} {d : Nat} {Q : Int32 → mI → mP → Prop} {I : mI} {P : mP} (x0 : Nat) (x1 : Nat) (x2 : Int32) (x3 : Int32) (h : kk 112 x0 = (0, 1) ∧ P x0 0 ≠ 0 ∧ kk 112 (P x0 0) = (0, 3) ∧ ((I (P x0 0) 6) ≤ x3 → Q x2 I P) ∧ (¬ (I (P x0 0) 6) ≤ x3 → kk 112 x0 = (0, 1) ∧ P x0 0 ≠ 0 ∧ kk 112 (P x0 0) = (0, 3) ∧ V E d m_Text_isHole 112 (fun r1 I1 P1 => (r1 = 0 → V E (d + 1) m_Rule_filledSize 112 Q 28 [some (.inr x0), some (.inr x1), some (.inl x2), some (.inl (x3 + (nI 1))), none] [] 112 I1 P1) ∧ (¬ r1 = 0 → kk 112 x0 = (0, 1) ∧ P1 x0 0 ≠ 0 ∧ kk 112 (P1 x0 0) = (0, 3) ∧ V E d m_Text_digitOf 112 (fun r2 I2 P2 => kk 112 x0 = (0, 1) ∧ P2 x0 2 ≠ 0 ∧ (kk 112 (P2 x0 2)).1 = 1 ∧ vp_in r2 (kk 112 (P2 x0 2)).2 ∧ kk 112 x0 = (0, 1) ∧ P2 x0 3 ≠ 0 ∧ (kk 112 (P2 x0 3)).1 = 1 ∧ vp_in r2 (kk 112 (P2 x0 3)).2 ∧ kk 112 x1 = (0, 3) ∧ V E d m_Text_spanSize 112 (fun r3 I3 P3 => kk 112 x0 = (0, 1) ∧ P3 x0 0 ≠ 0 ∧ kk 112 (P3 x0 0) = (0, 3) ∧ V E d m_Text_spanSize 112 (fun r4 I4 P4 => V E (d + 1) m_Rule_filledSize 112 Q 28 [some (.inr x0), some (.inr x1), some (.inl (x2 + (r3 - r4))), some (.inl (x3 + (nI 1))), none] [] 112 I4 P4) 0 [some (.inr (P3 x0 0)), some (.inl x3), some (.inl (x3 + (nI 1)))] [] 112 I3 P3) 0 [some (.inr x1), some (.inl (I2 (P2 x0 2) r2.toNatClampNeg)), some (.inl (I2 (P2 x0 3) r2.toNatClampNeg))] [] 112 I2 P2) 0 [some (.inr (P1 x0 0)), some (.inl x3)] [] 112 I1 P1)) 0 [some (.inr (P x0 0)), some (.inl x3)] [] 112 I P)) : V E (d + 1) m_Rule_filledSize 112 Q 28 [some (.inr x0), some (.inr x1), some (.inl x2), some (.inl x3), none] [] 112 I P := V_run 41 16 rfl h
set_option maxRecDepth 20000 in
theorem x_Rule_fill_0 {E : XE} {d : Nat} {Q : Int32 → mI → mP → Prop} {I : mI} {P : mP} (x0 : Nat) (x1 : Nat) (x2 : Nat) (x3 : Int32) (h : kk 112 x1 = (0, 3) ∧ V E d m_Text_empty 112 (fun _ I1 P1 => kk 112 x0 = (0, 1) ∧ P1 x0 0 ≠ 0 ∧ kk 112 x0 = (0, 1) ∧ P1 x0 0 ≠ 0 ∧ kk 112 (P1 x0 0) = (0, 3) ∧ kk 112 (P1 x0 0) = (0, 3) ∧ V E d m_Text_markSpan 112 (fun _ I2 P2 => kk 112 x0 = (0, 1) ∧ V E (d + 1) m_Rule_fill 112 Q 28 [some (.inr x0), some (.inr x1), some (.inr x2), none, some (.inl ((I2 x0 1) + (nI 1))), none] [] 112 I2 P2) 0 [some (.inr (P1 x0 0)), some (.inl (nI 0)), some (.inl (I1 (P1 x0 0) 5)), some (.inl x3), none] [] 112 I1 P1) 0 [some (.inr x1)] [] 112 I P) : V E (d + 1) m_Rule_fill 112 Q 0 [some (.inr x0), some (.inr x1), some (.inr x2), some (.inl x3), none, none] [] 112 I P := V_run 18 0 rfl h
set_option maxRecDepth 20000 in
theorem x_Rule_fill_28 {E : XE} {d : Nat} {Q : Int32 → mI → mP → Prop} {I : mI} {P : mP} (x0 : Nat) (x1 : Nat) (x2 : Nat) (x4 : Int32) (h : kk 112 x0 = (0, 1) ∧ P x0 0 ≠ 0 ∧ kk 112 (P x0 0) = (0, 3) ∧ ((I (P x0 0) 6) ≤ x4 → Q (nI 0) I P) ∧ (¬ (I (P x0 0) 6) ≤ x4 → kk 112 x0 = (0, 1) ∧ (x4 ≤ ((I x0 1) + (nI 1)) → V E (d + 1) m_Rule_fill 112 Q 61 [some (.inr x0), some (.inr x1), some (.inr x2), none, some (.inl x4), none] [] 112 I P) ∧ (¬ x4 ≤ ((I x0 1) + (nI 1)) → kk 112 x0 = (0, 1) ∧ P x0 0 ≠ 0 ∧ kk 112 x1 = (0, 3) ∧ V E d m_Text_appendSpace 112 (fun _ I1 P1 => V E (d + 1) m_Rule_fill 112 Q 61 [some (.inr x0), some (.inr x1), some (.inr x2), none, some (.inl x4), none] [] 112 I1 P1) 0 [some (.inr x1), some (.inr (P x0 0)), some (.inl x4), none, none] [] 112 I P))) : V E (d + 1) m_Rule_fill 112 Q 28 [some (.inr x0), some (.inr x1), some (.inr x2), none, some (.inl x4), none] [] 112 I P := V_run 19 15 rfl h
set_option maxRecDepth 20000 in
theorem x_Rule_fill_61 {E : XE} {d : Nat} {Q : Int32 → mI → mP → Prop} {I : mI} {P : mP} (x0 : Nat) (x1 : Nat) (x2 : Nat) (x4 : Int32) (h : kk 112 x0 = (0, 1) ∧ P x0 0 ≠ 0 ∧ kk 112 (P x0 0) = (0, 3) ∧ V E d m_Text_isHole 112 (fun r1 I1 P1 => (r1 = 0 → kk 112 x0 = (0, 1) ∧ P1 x0 0 ≠ 0 ∧ kk 112 x1 = (0, 3) ∧ V E d m_Text_appendSpan 112 (fun _ I2 P2 => V E (d + 1) m_Rule_fill 112 Q 120 [some (.inr x0), some (.inr x1), some (.inr x2), none, some (.inl x4), none] [] 112 I2 P2) 0 [some (.inr x1), some (.inr (P1 x0 0)), some (.inl x4), some (.inl (x4 + (nI 1))), none, none, none] [] 112 I1 P1) ∧ (¬ r1 = 0 → kk 112 x0 = (0, 1) ∧ P1 x0 0 ≠ 0 ∧ kk 112 (P1 x0 0) = (0, 3) ∧ V E d m_Text_digitOf 112 (fun r3 I3 P3 => kk 112 x0 = (0, 1) ∧ P3 x0 2 ≠ 0 ∧ (kk 112 (P3 x0 2)).1 = 1 ∧ vp_in r3 (kk 112 (P3 x0 2)).2 ∧ kk 112 x0 = (0, 1) ∧ P3 x0 3 ≠ 0 ∧ (kk 112 (P3 x0 3)).1 = 1 ∧ vp_in r3 (kk 112 (P3 x0 3)).2 ∧ kk 112 x1 = (0, 3) ∧ V E d m_Text_appendSpan 112 (fun _ I4 P4 => V E (d + 1) m_Rule_fill 112 Q 120 [some (.inr x0), some (.inr x1), some (.inr x2), none, some (.inl x4), none] [] 112 I4 P4) 0 [some (.inr x1), some (.inr x2), some (.inl (I3 (P3 x0 2) r3.toNatClampNeg)), some (.inl (I3 (P3 x0 3) r3.toNatClampNeg)), none, none, none] [] 112 I3 P3) 0 [some (.inr (P1 x0 0)), some (.inl x4)] [] 112 I1 P1)) 0 [some (.inr (P x0 0)), some (.inl x4)] [] 112 I P) : V E (d + 1) m_Rule_fill 112 Q 61 [some (.inr x0), some (.inr x1), some (.inr x2), none, some (.inl x4), none] [] 112 I P := V_run 25 31 rfl h
set_option maxRecDepth 20000 in
theorem x_Rule_fill_120 {E : XE} {d : Nat} {Q : Int32 → mI → mP → Prop} {I : mI} {P : mP} (x0 : Nat) (x1 : Nat) (x2 : Nat) (x4 : Int32) (h : V E (d + 1) m_Rule_fill 112 Q 28 [some (.inr x0), some (.inr x1), some (.inr x2), none, some (.inl (x4 + (nI 1))), none] [] 112 I P) : V E (d + 1) m_Rule_fill 112 Q 120 [some (.inr x0), some (.inr x1), some (.inr x2), none, some (.inl x4), none] [] 112 I P := V_run 5 61 rfl h
set_option maxRecDepth 20000 in
theorem x_Text_deepestNesting_0 {E : XE} {d : Nat} {Q : Int32 → mI → mP → Prop} {I : mI} {P : mP} (x0 : Nat) (h : V E (d + 1) m_Text_deepestNesting 112 Q 6 [some (.inr x0), some (.inl (nI 0)), some (.inl (nI 0)), some (.inl (nI 0))] [] 112 I P) : V E (d + 1) m_Text_deepestNesting 112 Q 0 [some (.inr x0), none, none, none] [] 112 I P := V_run 9 0 rfl h
set_option maxRecDepth 20000 in
theorem x_Text_deepestNesting_6 {E : XE} {d : Nat} {Q : Int32 → mI → mP → Prop} {I : mI} {P : mP} (x0 : Nat) (x1 : Int32) (x2 : Int32) (x3 : Int32) (h : kk 112 x0 = (0, 3) ∧ ((I x0 6) ≤ x3 → Q x2 I P) ∧ (¬ (I x0 6) ≤ x3 → kk 112 x0 = (0, 3) ∧ P x0 2 ≠ 0 ∧ (kk 112 (P x0 2)).1 = 1 ∧ vp_in x3 (kk 112 (P x0 2)).2 ∧ (¬ (I (P x0 2) x3.toNatClampNeg) = (nI 4) → kk 112 x0 = (0, 3) ∧ P x0 2 ≠ 0 ∧ (kk 112 (P x0 2)).1 = 1 ∧ vp_in x3 (kk 112 (P x0 2)).2 ∧ (¬ (I (P x0 2) x3.toNatClampNeg) = (nI 5) → V E (d + 1) m_Text_deepestNesting 112 Q 6 [some (.inr x0), some (.inl x1), some (.inl (if x2 < x1 then x1 else x2)), some (.inl (x3 + (nI 1)))] [] 112 I P) ∧ ((I (P x0 2) x3.toNatClampNeg) = (nI 5) → V E (d + 1) m_Text_deepestNesting 112 Q 6 [some (.inr x0), some (.inl (x1 + (-(nI 1)))), some (.inl (if x2 < (x1 + (-(nI 1))) then (x1 + (-(nI 1))) else x2)), some (.inl (x3 + (nI 1)))] [] 112 I P)) ∧ ((I (P x0 2) x3.toNatClampNeg) = (nI 4) → V E (d + 1) m_Text_deepestNesting 112 Q 6 [some (.inr x0), some (.inl (x1 + (nI 1))), some (.inl (if x2 < (x1 + (nI 1)) then (x1 + (nI 1)) else x2)), some (.inl (x3 + (nI 1)))] [] 112 I P))) : V E (d + 1) m_Text_deepestNesting 112 Q 6 [some (.inr x0), some (.inl x1), some (.inl x2), some (.inl x3)] [] 112 I P := V_run 26 6 rfl h
set_option maxRecDepth 20000 in
theorem x_Text_cutAt_0 {E : XE} {d : Nat} {Q : Int32 → mI → mP → Prop} {I : mI} {P : mP} (x0 : Nat) (x1 : Int32) (h : (x1 < 0 → Q (nI 0) I P) ∧ (¬ x1 < 0 → kk 112 x0 = (0, 3) ∧ ((I x0 6) ≤ x1 → Q (nI 0) I P) ∧ (¬ (I x0 6) ≤ x1 → kk 112 x0 = (0, 3) ∧ P x0 3 ≠ 0 ∧ (kk 112 (P x0 3)).1 = 1 ∧ vp_in x1 (kk 112 (P x0 3)).2 ∧ kk 112 x0 = (0, 3) ∧ kk 112 x0 = (0, 3) ∧ Q (nI 0) (uI (uI I x0 5 (I (P x0 3) x1.toNatClampNeg)) x0 6 x1) P))) : V E d m_Text_cutAt 112 Q 0 [some (.inr x0), some (.inl x1)] [] 112 I P := V_run 18 0 rfl h
set_option maxRecDepth 20000 in
theorem x_Program_restore_0 {E : XE} {d : Nat} {Q : Int32 → mI → mP → Prop} {I : mI} {P : mP} (x0 : Nat) (x1 : Int32) (h : kk 112 x0 = (0, 2) ∧ P x0 0 ≠ 0 ∧ kk 112 x0 = (0, 2) ∧ P x0 2 ≠ 0 ∧ kk 112 (P x0 0) = (0, 3) ∧ V E d m_Text_becomeCopy 112 (fun _ I1 P1 => kk 112 x0 = (0, 2) ∧ P1 x0 4 ≠ 0 ∧ kk 112 x0 = (0, 2) ∧ P1 x0 0 ≠ 0 ∧ kk 112 (P1 x0 4) = (0, 4) ∧ V E d m_Outline_become 112 (fun _ I2 P2 => kk 112 x0 = (0, 2) ∧ Q (nI 0) (uI I2 x0 6 x1) P2) 0 [some (.inr (P1 x0 4)), some (.inr (P1 x0 0)), none, none] [] 112 I1 P1) 0 [some (.inr (P x0 0)), some (.inr (P x0 2))] [] 112 I P) : V E (d + 1) m_Program_restore 112 Q 0 [some (.inr x0), some (.inl x1)] [] 112 I P := V_run 16 0 rfl h
set_option maxRecDepth 20000 in
theorem x_RR_cycles_0 {E : XE} {d : Nat} {Q : Int32 → mI → mP → Prop} {I : mI} {P : mP} (x0 : Nat) (h : kk 112 x0 = (0, 0) ∧ Q (I x0 7) I P) : V E d m_RR_cycles 112 Q 0 [some (.inr x0)] [] 112 I P := V_run 5 0 rfl h
set_option maxRecDepth 20000 in
theorem x_RR_rewritings_0 {E : XE} {d : Nat} {Q : Int32 → mI → mP → Prop} {I : mI} {P : mP} (x0 : Nat) (h : kk 112 x0 = (0, 0) ∧ P x0 6 ≠ 0 ∧ kk 112 (P x0 6) = (0, 2) ∧ Q (I (P x0 6) 6) I P) : V E d m_RR_rewritings 112 Q 0 [some (.inr x0)] [] 112 I P := V_run 6 0 rfl h
set_option maxRecDepth 20000 in
theorem x_RR_length_0 {E : XE} {d : Nat} {Q : Int32 → mI → mP → Prop} {I : mI} {P : mP} (x0 : Nat) (h : kk 112 x0 = (0, 0) ∧ P x0 6 ≠ 0 ∧ kk 112 (P x0 6) = (0, 2) ∧ P (P x0 6) 0 ≠ 0 ∧ kk 112 (P (P x0 6) 0) = (0, 3) ∧ Q (I (P (P x0 6) 0) 5) I P) : V E d m_RR_length 112 Q 0 [some (.inr x0)] [] 112 I P := V_run 7 0 rfl h
set_option maxRecDepth 20000 in
theorem x_RR_at_0 {E : XE} {d : Nat} {Q : Int32 → mI → mP → Prop} {I : mI} {P : mP} (x0 : Nat) (x1 : Int32) (h : (x1 < 0 → Q (-(nI 1)) I P) ∧ (¬ x1 < 0 → kk 112 x0 = (0, 0) ∧ P x0 6 ≠ 0 ∧ kk 112 (P x0 6) = (0, 2) ∧ P (P x0 6) 0 ≠ 0 ∧ kk 112 (P (P x0 6) 0) = (0, 3) ∧ ((I (P (P x0 6) 0) 5) ≤ x1 → Q (-(nI 1)) I P) ∧ (¬ (I (P (P x0 6) 0) 5) ≤ x1 → kk 112 x0 = (0, 0) ∧ P x0 6 ≠ 0 ∧ kk 112 (P x0 6) = (0, 2) ∧ P (P x0 6) 0 ≠ 0 ∧ kk 112 (P (P x0 6) 0) = (0, 3) ∧ P (P (P x0 6) 0) 0 ≠ 0 ∧ (kk 112 (P (P (P x0 6) 0) 0)).1 = 1 ∧ vp_in x1 (kk 112 (P (P (P x0 6) 0) 0)).2 ∧ Q (I (P (P (P x0 6) 0) 0) x1.toNatClampNeg) I P))) : V E d m_RR_at 112 Q 0 [some (.inr x0), some (.inl x1)] [] 112 I P := V_run 18 0 rfl h
set_option maxRecDepth 20000 in
theorem x_RR_mark_0 {E : XE} {d : Nat} {Q : Int32 → mI → mP → Prop} {I : mI} {P : mP} (x0 : Nat) (x1 : Int32) (h : (x1 < 0 → Q (-(nI 1)) I P) ∧ (¬ x1 < 0 → kk 112 x0 = (0, 0) ∧ P x0 6 ≠ 0 ∧ kk 112 (P x0 6) = (0, 2) ∧ P (P x0 6) 0 ≠ 0 ∧ kk 112 (P (P x0 6) 0) = (0, 3) ∧ ((I (P (P x0 6) 0) 5) ≤ x1 → Q (-(nI 1)) I P) ∧ (¬ (I (P (P x0 6) 0) 5) ≤ x1 → kk 112 x0 = (0, 0) ∧ P x0 6 ≠ 0 ∧ kk 112 (P x0 6) = (0, 2) ∧ P (P x0 6) 0 ≠ 0 ∧ kk 112 (P (P x0 6) 0) = (0, 3) ∧ P (P (P x0 6) 0) 1 ≠ 0 ∧ (kk 112 (P (P (P x0 6) 0) 1)).1 = 1 ∧ vp_in x1 (kk 112 (P (P (P x0 6) 0) 1)).2 ∧ Q (I (P (P (P x0 6) 0) 1) x1.toNatClampNeg) I P))) : V E d m_RR_mark 112 Q 0 [some (.inr x0), some (.inl x1)] [] 112 I P := V_run 18 0 rfl h
set_option maxRecDepth 20000 in
theorem x_RR_statements_0 {E : XE} {d : Nat} {Q : Int32 → mI → mP → Prop} {I : mI} {P : mP} (x0 : Nat) (h : kk 112 x0 = (0, 0) ∧ P x0 6 ≠ 0 ∧ kk 112 (P x0 6) = (0, 2) ∧ P (P x0 6) 4 ≠ 0 ∧ kk 112 (P (P x0 6) 4) = (0, 4) ∧ Q (I (P (P x0 6) 4) 1) I P) : V E d m_RR_statements 112 Q 0 [some (.inr x0)] [] 112 I P := V_run 7 0 rfl h
set_option maxRecDepth 20000 in
theorem x_RR_kind_0 {E : XE} {d : Nat} {Q : Int32 → mI → mP → Prop} {I : mI} {P : mP} (x0 : Nat) (x1 : Int32) (h : (x1 < 0 → Q (-(nI 1)) I P) ∧ (¬ x1 < 0 → kk 112 x0 = (0, 0) ∧ P x0 6 ≠ 0 ∧ kk 112 (P x0 6) = (0, 2) ∧ P (P x0 6) 4 ≠ 0 ∧ kk 112 (P (P x0 6) 4) = (0, 4) ∧ ((I (P (P x0 6) 4) 1) ≤ x1 → Q (-(nI 1)) I P) ∧ (¬ (I (P (P x0 6) 4) 1) ≤ x1 → kk 112 x0 = (0, 0) ∧ P x0 6 ≠ 0 ∧ kk 112 (P x0 6) = (0, 2) ∧ P (P x0 6) 4 ≠ 0 ∧ kk 112 (P (P x0 6) 4) = (0, 4) ∧ P (P (P x0 6) 4) 0 ≠ 0 ∧ (kk 112 (P (P (P x0 6) 4) 0)).1 = 1 ∧ vp_in x1 (kk 112 (P (P (P x0 6) 4) 0)).2 ∧ Q (I (P (P (P x0 6) 4) 0) x1.toNatClampNeg) I P))) : V E d m_RR_kind 112 Q 0 [some (.inr x0), some (.inl x1)] [] 112 I P := V_run 18 0 rfl h
set_option maxRecDepth 20000 in
theorem x_RR_expressions_0 {E : XE} {d : Nat} {Q : Int32 → mI → mP → Prop} {I : mI} {P : mP} (x0 : Nat) (h : kk 112 x0 = (0, 0) ∧ P x0 6 ≠ 0 ∧ kk 112 (P x0 6) = (0, 2) ∧ P (P x0 6) 4 ≠ 0 ∧ kk 112 (P (P x0 6) 4) = (0, 4) ∧ Q (I (P (P x0 6) 4) 5) I P) : V E d m_RR_expressions 112 Q 0 [some (.inr x0)] [] 112 I P := V_run 7 0 rfl h
set_option maxRecDepth 20000 in
theorem x_RR_start_0 {E : XE} {d : Nat} {Q : Int32 → mI → mP → Prop} {I : mI} {P : mP} (x0 : Nat) (x1 : Int32) (h : (x1 < 0 → Q (-(nI 1)) I P) ∧ (¬ x1 < 0 → kk 112 x0 = (0, 0) ∧ P x0 6 ≠ 0 ∧ kk 112 (P x0 6) = (0, 2) ∧ P (P x0 6) 4 ≠ 0 ∧ kk 112 (P (P x0 6) 4) = (0, 4) ∧ ((I (P (P x0 6) 4) 5) ≤ x1 → Q (-(nI 1)) I P) ∧ (¬ (I (P (P x0 6) 4) 5) ≤ x1 → kk 112 x0 = (0, 0) ∧ P x0 6 ≠ 0 ∧ kk 112 (P x0 6) = (0, 2) ∧ P (P x0 6) 0 ≠ 0 ∧ kk 112 (P (P x0 6) 0) = (0, 3) ∧ P (P (P x0 6) 0) 3 ≠ 0 ∧ kk 112 x0 = (0, 0) ∧ P x0 6 ≠ 0 ∧ kk 112 (P x0 6) = (0, 2) ∧ P (P x0 6) 4 ≠ 0 ∧ kk 112 (P (P x0 6) 4) = (0, 4) ∧ P (P (P x0 6) 4) 2 ≠ 0 ∧ (kk 112 (P (P (P x0 6) 4) 2)).1 = 1 ∧ vp_in x1 (kk 112 (P (P (P x0 6) 4) 2)).2 ∧ (kk 112 (P (P (P x0 6) 0) 3)).1 = 1 ∧ vp_in (I (P (P (P x0 6) 4) 2) x1.toNatClampNeg) (kk 112 (P (P (P x0 6) 0) 3)).2 ∧ Q (I (P (P (P x0 6) 0) 3) (I (P (P (P x0 6) 4) 2) x1.toNatClampNeg).toNatClampNeg) I P))) : V E d m_RR_start 112 Q 0 [some (.inr x0), some (.inl x1)] [] 112 I P := V_run 23 0 rfl h
set_option maxRecDepth 20000 in
theorem x_RR_end_0 {E : XE} {d : Nat} {Q : Int32 → mI → mP → Prop} {I : mI} {P : mP} (x0 : Nat) (x1 : Int32) (h : (x1 < 0 → Q (-(nI 1)) I P) ∧ (¬ x1 < 0 → kk 112 x0 = (0, 0) ∧ P x0 6 ≠ 0 ∧ kk 112 (P x0 6) = (0, 2) ∧ P (P x0 6) 4 ≠ 0 ∧ kk 112 (P (P x0 6) 4) = (0, 4) ∧ ((I (P (P x0 6) 4) 5) ≤ x1 → Q (-(nI 1)) I P) ∧ (¬ (I (P (P x0 6) 4) 5) ≤ x1 → kk 112 x0 = (0, 0) ∧ P x0 6 ≠ 0 ∧ kk 112 (P x0 6) = (0, 2) ∧ P (P x0 6) 0 ≠ 0 ∧ kk 112 (P (P x0 6) 0) = (0, 3) ∧ P (P (P x0 6) 0) 4 ≠ 0 ∧ kk 112 x0 = (0, 0) ∧ P x0 6 ≠ 0 ∧ kk 112 (P x0 6) = (0, 2) ∧ P (P x0 6) 4 ≠ 0 ∧ kk 112 (P (P x0 6) 4) = (0, 4) ∧ P (P (P x0 6) 4) 3 ≠ 0 ∧ (kk 112 (P (P (P x0 6) 4) 3)).1 = 1 ∧ vp_in x1 (kk 112 (P (P (P x0 6) 4) 3)).2 ∧ (kk 112 (P (P (P x0 6) 0) 4)).1 = 1 ∧ vp_in (I (P (P (P x0 6) 4) 3) x1.toNatClampNeg) (kk 112 (P (P (P x0 6) 0) 4)).2 ∧ Q (I (P (P (P x0 6) 0) 4) (I (P (P (P x0 6) 4) 3) x1.toNatClampNeg).toNatClampNeg) I P))) : V E d m_RR_end 112 Q 0 [some (.inr x0), some (.inl x1)] [] 112 I P := V_run 23 0 rfl h
set_option maxRecDepth 20000 in
theorem x_RR_fits_0 {E : XE} {d : Nat} {Q : Int32 → mI → mP → Prop} {I : mI} {P : mP} (x0 : Nat) (x1 : Int32) (h : (x1 < 0 → Q (-(nI 1)) I P) ∧ (¬ x1 < 0 → kk 112 x0 = (0, 0) ∧ ((I x0 5) ≤ x1 → Q (-(nI 1)) I P) ∧ (¬ (I x0 5) ≤ x1 → kk 112 x0 = (0, 0) ∧ P x0 6 ≠ 0 ∧ kk 112 x0 = (0, 0) ∧ P x0 4 ≠ 0 ∧ (kk 112 (P x0 4)).1 = 3 ∧ vp_in x1 (kk 112 (P x0 4)).2 ∧ P (P x0 4) x1.toNatClampNeg ≠ 0 ∧ kk 112 (P x0 6) = (0, 2) ∧ V E d m_Program_countFitting 112 (fun r1 I1 P1 => Q r1 I1 P1) 0 [some (.inr (P x0 6)), some (.inr (P (P x0 4) x1.toNatClampNeg)), none, none] [] 112 I P))) : V E (d + 1) m_RR_fits 112 Q 0 [some (.inr x0), some (.inl x1)] [] 112 I P := V_run 17 0 rfl h
set_option maxRecDepth 20000 in
theorem x_Program_countFitting_0 {E : XE} {d : Nat} {Q : Int32 → mI → mP → Prop} {I : mI} {P : mP} (x0 : Nat) (x1 : Nat) (h : V E (d + 1) m_Program_countFitting 112 Q 4 [some (.inr x0), some (.inr x1), some (.inl (nI 0)), some (.inl (nI 0))] [] 112 I P) : V E (d + 1) m_Program_countFitting 112 Q 0 [some (.inr x0), some (.inr x1), none, none] [] 112 I P := V_run 7 0 rfl h
set_option maxRecDepth 20000 in
theorem x_Program_countFitting_4 {E : XE} {d : Nat} {Q : Int32 → mI → mP → Prop} {I : mI} {P : mP} (x0 : Nat) (x1 : Nat) (x2 : Int32) (x3 : Int32) (h : kk 112 x0 = (0, 2) ∧ P x0 4 ≠ 0 ∧ kk 112 (P x0 4) = (0, 4) ∧ ((I (P x0 4) 5) ≤ x3 → Q x2 I P) ∧ (¬ (I (P x0 4) 5) ≤ x3 → kk 112 x0 = (0, 2) ∧ P x0 0 ≠ 0 ∧ kk 112 x0 = (0, 2) ∧ P x0 4 ≠ 0 ∧ kk 112 (P x0 4) = (0, 4) ∧ P (P x0 4) 2 ≠ 0 ∧ (kk 112 (P (P x0 4) 2)).1 = 1 ∧ vp_in x3 (kk 112 (P (P x0 4) 2)).2 ∧ kk 112 x0 = (0, 2) ∧ P x0 4 ≠ 0 ∧ kk 112 (P x0 4) = (0, 4) ∧ P (P x0 4) 3 ≠ 0 ∧ (kk 112 (P (P x0 4) 3)).1 = 1 ∧ vp_in x3 (kk 112 (P (P x0 4) 3)).2 ∧ kk 112 x1 = (0, 1) ∧ V E d m_Rule_matches 112 (fun r1 I1 P1 => (r1 = 0 → V E (d + 1) m_Program_countFitting 112 Q 4 [some (.inr x0), some (.inr x1), some (.inl x2), some (.inl (x3 + (nI 1)))] [] 112 I1 P1) ∧ (¬ r1 = 0 → V E (d + 1) m_Program_countFitting 112 Q 4 [some (.inr x0), some (.inr x1), some (.inl (x2 + (nI 1))), some (.inl (x3 + (nI 1)))] [] 112 I1 P1)) 0 [some (.inr x1), some (.inr (P x0 0)), some (.inl (I (P (P x0 4) 2) x3.toNatClampNeg)), some (.inl ((I (P (P x0 4) 3) x3.toNatClampNeg) + (nI 1))), none, none] [] 112 I P)) : V E (d + 1) m_Program_countFitting 112 Q 4 [some (.inr x0), some (.inr x1), some (.inl x2), some (.inl x3)] [] 112 I P := V_run 28 4 rfl h
set_option maxRecDepth 20000 in
theorem x_RR_distance_0 {E : XE} {d : Nat} {Q : Int32 → mI → mP → Prop} {I : mI} {P : mP} (x0 : Nat) (h : kk 112 x0 = (0, 0) ∧ P x0 8 ≠ 0 ∧ kk 112 x0 = (0, 0) ∧ P x0 2 ≠ 0 ∧ kk 112 x0 = (0, 0) ∧ kk 112 x0 = (0, 0) ∧ P x0 6 ≠ 0 ∧ kk 112 (P x0 6) = (0, 2) ∧ P (P x0 6) 0 ≠ 0 ∧ kk 112 (P x0 8) = (0, 5) ∧ V E d m_Patch_trace 112 (fun _ I1 P1 => kk 112 x0 = (0, 0) ∧ P1 x0 8 ≠ 0 ∧ kk 112 (P1 x0 8) = (0, 5) ∧ Q (I1 (P1 x0 8) 3) I1 P1) 0 [some (.inr (P x0 8)), some (.inr (P x0 2)), some (.inl (I x0 3)), some (.inr (P (P x0 6) 0))] [] 112 I P) : V E (d + 1) m_RR_distance 112 Q 0 [some (.inr x0)] [] 112 I P := V_run 16 0 rfl h
set_option maxRecDepth 20000 in
theorem x_Patch_trace_0 {E : XE} {d : Nat} {Q : Int32 → mI → mP → Prop} {I : mI} {P : mP} (x0 : Nat) (x1 : Nat) (x2 : Int32) (x3 : Nat) (h : kk 112 x0 = (0, 5) ∧ (¬ (I x0 4) = 0 → Q (nI 0) I P) ∧ ((I x0 4) = 0 → ((nI 60) < x2 → Q (nI 0) I P) ∧ (¬ (nI 60) < x2 → kk 112 x3 = (0, 3) ∧ ((I x3 5) ≤ (nI 120) → kk 112 x0 = (0, 5) ∧ V E d m_Patch_weigh 112 (fun _ I1 P1 => kk 112 x0 = (0, 5) ∧ V E d m_Patch_walk 112 (fun _ I2 P2 => kk 112 x0 = (0, 5) ∧ narrow .boolean (.int (nI 1)) = .int (nI 1) ∧ fits .boolean (.int (nI 1)) = true ∧ Q (nI 0) (uI I2 x0 4 (nI 1)) P2) 0 [some (.inr x0), some (.inr x1), some (.inl x2), some (.inr x3), none, none, none, none] [] 112 I1 P1) 0 [some (.inr x0), some (.inr x1), some (.inl x2), some (.inr x3), none, none, none, none] [] 112 I P) ∧ (¬ (I x3 5) ≤ (nI 120) → Q (nI 0) I P)))) : V E (d + 1) m_Patch_trace 112 Q 0 [some (.inr x0), some (.inr x1), some (.inl x2), some (.inr x3)] [] 112 I P := V_run 26 0 rfl h
set_option maxRecDepth 20000 in
theorem x_Patch_weigh_0 {E : XE} {d : Nat} {Q : Int32 → mI → mP → Prop} {I : mI} {P : mP} (x0 : Nat) (x1 : Nat) (x2 : Int32) (x3 : Nat) (h : V E (d + 1) m_Patch_weigh 112 Q 3 [some (.inr x0), some (.inr x1), some (.inl x2), some (.inr x3), some (.inl x2), none, none, none] [] 112 I P) : V E (d + 1) m_Patch_weigh 112 Q 0 [some (.inr x0), some (.inr x1), some (.inl x2), some (.inr x3), none, none, none, none] [] 112 I P := V_run 5 0 rfl h
set_option maxRecDepth 20000 in
theorem x_Patch_weigh_3 {E : XE} {d : Nat} {Q : Int32 → mI → mP → Prop} {I : mI} {P : mP} (x0 : Nat) (x1 : Nat) (x2 : Int32) (x3 : Nat) (x4 : Int32) (h : (x4 < 0 → Q (nI 0) I P) ∧ (¬ x4 < 0 → kk 112 x3 = (0, 3) ∧ V E (d + 1) m_Patch_weigh 112 Q 21 [some (.inr x0), some (.inr x1), some (.inl x2), some (.inr x3), some (.inl x4), some (.inl (x4 * (nI 121))), some (.inl (I x3 5)), none] [] 112 I P)) : V E (d + 1) m_Patch_weigh 112 Q 3 [some (.inr x0), some (.inr x1), some (.inl x2), some (.inr x3), some (.inl x4), none, none, none] [] 112 I P := V_run 12 2 rfl h
set_option maxRecDepth 20000 in
theorem x_Patch_weigh_21 {E : XE} {d : Nat} {Q : Int32 → mI → mP → Prop} {I : mI} {P : mP} (x0 : Nat) (x1 : Nat) (x2 : Int32) (x3 : Nat) (x4 : Int32) (x5 : Int32) (x6 : Int32) (h : (x6 < 0 → V E (d + 1) m_Patch_weigh 112 Q 3 [some (.inr x0), some (.inr x1), some (.inl x2), some (.inr x3), some (.inl (x4 + (-(nI 1)))), none, none, none] [] 112 I P) ∧ (¬ x6 < 0 → (¬ x4 = x2 → kk 112 x3 = (0, 3) ∧ (¬ x6 = (I x3 5) → (kk 112 x1).1 = 1 ∧ vp_in x4 (kk 112 x1).2 ∧ kk 112 x3 = (0, 3) ∧ P x3 0 ≠ 0 ∧ (kk 112 (P x3 0)).1 = 1 ∧ vp_in x6 (kk 112 (P x3 0)).2 ∧ (¬ (I x1 x4.toNatClampNeg) = (I (P x3 0) x6.toNatClampNeg) → kk 112 x0 = (0, 5) ∧ P x0 0 ≠ 0 ∧ (kk 112 (P x0 0)).1 = 1 ∧ vp_in ((x5 + (nI 121)) + x6) (kk 112 (P x0 0)).2 ∧ kk 112 x0 = (0, 5) ∧ P x0 0 ≠ 0 ∧ (kk 112 (P x0 0)).1 = 1 ∧ vp_in ((x5 + x6) + (nI 1)) (kk 112 (P x0 0)).2 ∧ kk 112 x0 = (0, 5) ∧ P x0 0 ≠ 0 ∧ (kk 112 (P x0 0)).1 = 1 ∧ vp_in (x5 + x6) (kk 112 (P x0 0)).2 ∧ V E (d + 1) m_Patch_weigh 112 Q 21 [some (.inr x0), some (.inr x1), some (.inl x2), some (.inr x3), some (.inl x4), some (.inl x5), some (.inl (x6 + (-(nI 1)))), none] [] 112 (uI I (P x0 0) (x5 + x6).toNatClampNeg ((nI 1) + (if (I (P x0 0) ((x5 + x6) + (nI 1)).toNatClampNeg) < (I (P x0 0) ((x5 + (nI 121)) + x6).toNatClampNeg) then (I (P x0 0) ((x5 + x6) + (nI 1)).toNatClampNeg) else (I (P x0 0) ((x5 + (nI 121)) + x6).toNatClampNeg)))) P) ∧ ((I x1 x4.toNatClampNeg) = (I (P x3 0) x6.toNatClampNeg) → kk 112 x0 = (0, 5) ∧ P x0 0 ≠ 0 ∧ (kk 112 (P x0 0)).1 = 1 ∧ vp_in (((x5 + (nI 121)) + x6) + (nI 1)) (kk 112 (P x0 0)).2 ∧ kk 112 x0 = (0, 5) ∧ P x0 0 ≠ 0 ∧ (kk 112 (P x0 0)).1 = 1 ∧ vp_in (x5 + x6) (kk 112 (P x0 0)).2 ∧ V E (d + 1) m_Patch_weigh 112 Q 21 [some (.inr x0), some (.inr x1), some (.inl x2), some (.inr x3), some (.inl x4), some (.inl x5), some (.inl (x6 + (-(nI 1)))), none] [] 112 (uI I (P x0 0) (x5 + x6).toNatClampNeg (I (P x0 0) (((x5 + (nI 121)) + x6) + (nI 1)).toNatClampNeg)) P)) ∧ (x6 = (I x3 5) → kk 112 x0 = (0, 5) ∧ P x0 0 ≠ 0 ∧ (kk 112 (P x0 0)).1 = 1 ∧ vp_in (x5 + x6) (kk 112 (P x0 0)).2 ∧ V E (d + 1) m_Patch_weigh 112 Q 21 [some (.inr x0), some (.inr x1), some (.inl x2), some (.inr x3), some (.inl x4), some (.inl x5), some (.inl (x6 + (-(nI 1)))), none] [] 112 (uI I (P x0 0) (x5 + x6).toNatClampNeg (x2 - x4)) P)) ∧ (x4 = x2 → kk 112 x3 = (0, 3) ∧ kk 112 x0 = (0, 5) ∧ P x0 0 ≠ 0 ∧ (kk 112 (P x0 0)).1 = 1 ∧ vp_in (x5 + x6) (kk 112 (P x0 0)).2 ∧ V E (d + 1) m_Patch_weigh 112 Q 21 [some (.inr x0), some (.inr x1), some (.inl x2), some (.inr x3), some (.inl x4), some (.inl x5), some (.inl (x6 + (-(nI 1)))), none] [] 112 (uI I (P x0 0) (x5 + x6).toNatClampNeg ((I x3 5) - x6)) P))) : V E (d + 1) m_Patch_weigh 112 Q 21 [some (.inr x0), some (.inr x1), some (.inl x2), some (.inr x3), some (.inl x4), some (.inl x5), some (.inl x6), none] [] 112 I P := V_run 49 11 rfl h
set_option maxRecDepth 20000 in
theorem x_Patch_walk_0 {E : XE} {d : Nat} {Q : Int32 → mI → mP → Prop} {I : mI} {P : mP} (x0 : Nat) (x1 : Nat) (x2 : Int32) (x3 : Nat) (h : kk 112 x3 = (0, 3) ∧ kk 112 x0 = (0, 5) ∧ kk 112 x0 = (0, 5) ∧ P x0 0 ≠ 0 ∧ (kk 112 (P x0 0)).1 = 1 ∧ vp_in (nI 0) (kk 112 (P x0 0)).2 ∧ kk 112 x0 = (0, 5) ∧ V E (d + 1) m_Patch_walk 112 Q 32 [some (.inr x0), some (.inr x1), some (.inl x2), some (.inr x3), some (.inl (nI 0)), some (.inl (nI 0)), some (.inl (x2 + (I x3 5))), some (.inl (nI 0))] [] 112 (uI (uI I x0 2 (nI 0)) x0 3 ((uI I x0 2 (nI 0)) (P x0 0) (nI 0).toNatClampNeg)) P) : V E (d + 1) m_Patch_walk 112 Q 0 [some (.inr x0), some (.inr x1), some (.inl x2), some (.inr x3), none, none, none, none] [] 112 I P := V_run 23 0 rfl h
set_option maxRecDepth 20000 in
theorem x_Patch_walk_32 {E : XE} {d : Nat} {Q : Int32 → mI → mP → Prop} {I : mI} {P : mP} (x0 : Nat) (x1 : Nat) (x2 : Int32) (x3 : Nat) (x4 : Int32) (x5 : Int32) (x6 : Int32) (x7 : Int32) (h : (x6 ≤ x7 → Q (nI 0) I P) ∧ (¬ x6 ≤ x7 → (x4 < x2 → V E (d + 1) m_Patch_walk 112 Q 54 [some (.inr x0), some (.inr x1), some (.inl x2), some (.inr x3), some (.inl x4), some (.inl x5), some (.inl x6), some (.inl x7)] [] 112 I P) ∧ (¬ x4 < x2 → kk 112 x3 = (0, 3) ∧ ((I x3 5) ≤ x5 → Q (nI 0) I P) ∧ (¬ (I x3 5) ≤ x5 → V E (d + 1) m_Patch_walk 112 Q 54 [some (.inr x0), some (.inr x1), some (.inl x2), some (.inr x3), some (.inl x4), some (.inl x5), some (.inl x6), some (.inl x7)] [] 112 I P)))) : V E (d + 1) m_Patch_walk 112 Q 32 [some (.inr x0), some (.inr x1), some (.inl x2), some (.inr x3), some (.inl x4), some (.inl x5), some (.inl x6), some (.inl x7)] [] 112 I P := V_run 13 20 rfl h
set_option maxRecDepth 20000 in
theorem x_Patch_walk_54 {E : XE} {d : Nat} {Q : Int32 → mI → mP → Prop} {I : mI} {P : mP} (x0 : Nat) (x1 : Nat) (x2 : Int32) (x3 : Nat) (x4 : Int32) (x5 : Int32) (x6 : Int32) (x7 : Int32) (h : (x2 ≤ x4 → V E (d + 1) m_Patch_walk 112 Q 109 [some (.inr x0), some (.inr x1), some (.inl x2), some (.inr x3), some (.inl x4), some (.inl x5), some (.inl x6), some (.inl x7)] [] 112 I P) ∧ (¬ x2 ≤ x4 → kk 112 x3 = (0, 3) ∧ ((I x3 5) ≤ x5 → V E (d + 1) m_Patch_walk 112 Q 109 [some (.inr x0), some (.inr x1), some (.inl x2), some (.inr x3), some (.inl x4), some (.inl x5), some (.inl x6), some (.inl x7)] [] 112 I P) ∧ (¬ (I x3 5) ≤ x5 → (kk 112 x1).1 = 1 ∧ vp_in x4 (kk 112 x1).2 ∧ kk 112 x3 = (0, 3) ∧ P x3 0 ≠ 0 ∧ (kk 112 (P x3 0)).1 = 1 ∧ vp_in x5 (kk 112 (P x3 0)).2 ∧ (¬ (I x1 x4.toNatClampNeg) = (I (P x3 0) x5.toNatClampNeg) → V E (d + 1) m_Patch_walk 112 Q 109 [some (.inr x0), some (.inr x1), some (.inl x2), some (.inr x3), some (.inl x4), some (.inl x5), some (.inl x6), some (.inl x7)] [] 112 I P) ∧ ((I x1 x4.toNatClampNeg) = (I (P x3 0) x5.toNatClampNeg) → kk 112 x0 = (0, 5) ∧ P x0 1 ≠ 0 ∧ kk 112 x0 = (0, 5) ∧ (kk 112 x1).1 = 1 ∧ vp_in x4 (kk 112 x1).2 ∧ (kk 112 (P x0 1)).1 = 1 ∧ vp_in (I x0 2) (kk 112 (P x0 1)).2 ∧ V E (d + 1) m_Patch_walk 112 Q 181 [some (.inr x0), some (.inr x1), some (.inl x2), some (.inr x3), some (.inl (x4 + (nI 1))), some (.inl (x5 + (nI 1))), some (.inl x6), some (.inl x7)] [] 112 (uI I (P x0 1) (I x0 2).toNatClampNeg ((nI 1000) + (I x1 x4.toNatClampNeg))) P)))) : V E (d + 1) m_Patch_walk 112 Q 54 [some (.inr x0), some (.inr x1), some (.inl x2), some (.inr x3), some (.inl x4), some (.inl x5), some (.inl x6), some (.inl x7)] [] 112 I P := V_run 31 30 rfl h
set_option maxRecDepth 20000 in
theorem x_Patch_walk_109 {E : XE} {d : Nat} {Q : Int32 → mI → mP → Prop} {I : mI} {P : mP} (x0 : Nat) (x1 : Nat) (x2 : Int32) (x3 : Nat) (x4 : Int32) (x5 : Int32) (x6 : Int32) (x7 : Int32) (h : (x2 ≤ x4 → V E (d + 1) m_Patch_walk 112 Q 149 [some (.inr x0), some (.inr x1), some (.inl x2), some (.inr x3), some (.inl x4), some (.inl x5), some (.inl x6), some (.inl x7)] [] 112 I P) ∧ (¬ x2 ≤ x4 → kk 112 x0 = (0, 5) ∧ V E d m_Patch_deletes 112 (fun r1 I1 P1 => (r1 = 0 → V E (d + 1) m_Patch_walk 112 Q 149 [some (.inr x0), some (.inr x1), some (.inl x2), some (.inr x3), some (.inl x4), some (.inl x5), some (.inl x6), some (.inl x7)] [] 112 I1 P1) ∧ (¬ r1 = 0 → kk 112 x0 = (0, 5) ∧ P1 x0 1 ≠ 0 ∧ kk 112 x0 = (0, 5) ∧ (kk 112 x1).1 = 1 ∧ vp_in x4 (kk 112 x1).2 ∧ (kk 112 (P1 x0 1)).1 = 1 ∧ vp_in (I1 x0 2) (kk 112 (P1 x0 1)).2 ∧ V E (d + 1) m_Patch_walk 112 Q 181 [some (.inr x0), some (.inr x1), some (.inl x2), some (.inr x3), some (.inl (x4 + (nI 1))), some (.inl x5), some (.inl x6), some (.inl x7)] [] 112 (uI I1 (P1 x0 1) (I1 x0 2).toNatClampNeg ((nI 2000) + (I1 x1 x4.toNatClampNeg))) P1)) 0 [some (.inr x0), some (.inl x4), some (.inl x5)] [] 112 I P)) : V E (d + 1) m_Patch_walk 112 Q 109 [some (.inr x0), some (.inr x1), some (.inl x2), some (.inr x3), some (.inl x4), some (.inl x5), some (.inl x6), some (.inl x7)] [] 112 I P := V_run 23 58 rfl h
set_option maxRecDepth 20000 in
theorem x_Patch_walk_149 {E : XE} {d : Nat} {Q : Int32 → mI → mP → Prop} {I : mI} {P : mP} (x0 : Nat) (x1 : Nat) (x2 : Int32) (x3 : Nat) (x4 : Int32) (x5 : Int32) (x6 : Int32) (x7 : Int32) (h : kk 112 x3 = (0, 3) ∧ ((I x3 5) ≤ x5 → V E (d + 1) m_Patch_walk 112 Q 181 [some (.inr x0), some (.inr x1), some (.inl x2), some (.inr x3), some (.inl x4), some (.inl x5), some (.inl x6), some (.inl x7)] [] 112 I P) ∧ (¬ (I x3 5) ≤ x5 → kk 112 x0 = (0, 5) ∧ P x0 1 ≠ 0 ∧ kk 112 x0 = (0, 5) ∧ kk 112 x3 = (0, 3) ∧ P x3 0 ≠ 0 ∧ (kk 112 (P x3 0)).1 = 1 ∧ vp_in x5 (kk 112 (P x3 0)).2 ∧ (kk 112 (P x0 1)).1 = 1 ∧ vp_in (I x0 2) (kk 112 (P x0 1)).2 ∧ V E (d + 1) m_Patch_walk 112 Q 181 [some (.inr x0), some (.inr x1), some (.inl x2), some (.inr x3), some (.inl x4), some (.inl (x5 + (nI 1))), some (.inl x6), some (.inl x7)] [] 112 (uI I (P x0 1) (I x0 2).toNatClampNeg ((nI 3000) + (I (P x3 0) x5.toNatClampNeg))) P)) : V E (d + 1) m_Patch_walk 112 Q 149 [some (.inr x0), some (.inr x1), some (.inl x2), some (.inr x3), some (.inl x4), some (.inl x5), some (.inl x6), some (.inl x7)] [] 112 I P := V_run 19 78 rfl h
set_option maxRecDepth 20000 in
theorem x_Patch_walk_181 {E : XE} {d : Nat} {Q : Int32 → mI → mP → Prop} {I : mI} {P : mP} (x0 : Nat) (x1 : Nat) (x2 : Int32) (x3 : Nat) (x4 : Int32) (x5 : Int32) (x6 : Int32) (x7 : Int32) (h : kk 112 x0 = (0, 5) ∧ kk 112 x0 = (0, 5) ∧ V E (d + 1) m_Patch_walk 112 Q 32 [some (.inr x0), some (.inr x1), some (.inl x2), some (.inr x3), some (.inl x4), some (.inl x5), some (.inl x6), some (.inl (x7 + (nI 1)))] [] 112 (uI I x0 2 ((I x0 2) + (nI 1))) P) : V E (d + 1) m_Patch_walk 112 Q 181 [some (.inr x0), some (.inr x1), some (.inl x2), some (.inr x3), some (.inl x4), some (.inl x5), some (.inl x6), some (.inl x7)] [] 112 I P := V_run 11 94 rfl h
set_option maxRecDepth 20000 in
theorem x_Patch_deletes_0 {E : XE} {d : Nat} {Q : Int32 → mI → mP → Prop} {I : mI} {P : mP} (x0 : Nat) (x1 : Int32) (x2 : Int32) (h : kk 112 x0 = (0, 5) ∧ P x0 0 ≠ 0 ∧ (kk 112 (P x0 0)).1 = 1 ∧ vp_in ((x1 * (nI 121)) + x2) (kk 112 (P x0 0)).2 ∧ kk 112 x0 = (0, 5) ∧ P x0 0 ≠ 0 ∧ (kk 112 (P x0 0)).1 = 1 ∧ vp_in (((x1 + (nI 1)) * (nI 121)) + x2) (kk 112 (P x0 0)).2 ∧ (¬ (I (P x0 0) ((x1 * (nI 121)) + x2).toNatClampNeg) = ((nI 1) + (I (P x0 0) (((x1 + (nI 1)) * (nI 121)) + x2).toNatClampNeg)) → zb (nI 0) ∧ Q (nI 0) I P) ∧ ((I (P x0 0) ((x1 * (nI 121)) + x2).toNatClampNeg) = ((nI 1) + (I (P x0 0) (((x1 + (nI 1)) * (nI 121)) + x2).toNatClampNeg)) → zb (nI 1) ∧ Q (nI 1) I P)) : V E d m_Patch_deletes 112 Q 0 [some (.inr x0), some (.inl x1), some (.inl x2)] [] 112 I P := V_run 26 0 rfl h
set_option maxRecDepth 20000 in
theorem x_RR_step_0 {E : XE} {d : Nat} {Q : Int32 → mI → mP → Prop} {I : mI} {P : mP} (x0 : Nat) (x1 : Int32) (h : kk 112 x0 = (0, 0) ∧ P x0 8 ≠ 0 ∧ kk 112 x0 = (0, 0) ∧ P x0 2 ≠ 0 ∧ kk 112 x0 = (0, 0) ∧ kk 112 x0 = (0, 0) ∧ P x0 6 ≠ 0 ∧ kk 112 (P x0 6) = (0, 2) ∧ P (P x0 6) 0 ≠ 0 ∧ kk 112 (P x0 8) = (0, 5) ∧ V E d m_Patch_trace 112 (fun _ I1 P1 => (x1 < 0 → Q (-(nI 1)) I1 P1) ∧ (¬ x1 < 0 → kk 112 x0 = (0, 0) ∧ P1 x0 8 ≠ 0 ∧ kk 112 (P1 x0 8) = (0, 5) ∧ ((I1 (P1 x0 8) 2) ≤ x1 → Q (-(nI 1)) I1 P1) ∧ (¬ (I1 (P1 x0 8) 2) ≤ x1 → kk 112 x0 = (0, 0) ∧ P1 x0 8 ≠ 0 ∧ kk 112 (P1 x0 8) = (0, 5) ∧ P1 (P1 x0 8) 1 ≠ 0 ∧ (kk 112 (P1 (P1 x0 8) 1)).1 = 1 ∧ vp_in x1 (kk 112 (P1 (P1 x0 8) 1)).2 ∧ Q (I1 (P1 (P1 x0 8) 1) x1.toNatClampNeg) I1 P1))) 0 [some (.inr (P x0 8)), some (.inr (P x0 2)), some (.inl (I x0 3)), some (.inr (P (P x0 6) 0))] [] 112 I P) : V E (d + 1) m_RR_step 112 Q 0 [some (.inr x0), some (.inl x1)] [] 112 I P := V_run 26 0 rfl h
set_option maxRecDepth 20000 in
theorem x_Model_init_0 {E : XE} {d : Nat} {K K1 : Nat} {Q : Int32 → mI → mP → Prop} {I : mI} {P : mP} (x0 : Nat) (h : kd K = (1, (nI 640).toNatClampNeg) ∧ ¬ (nI 640) < 0 ∧ K < K1 ∧ kk (K + 1) x0 = (0, 6) ∧ K ≠ 0 ∧ V E (d + 1) m_Model_init K1 Q 13 [some (.inr x0)] [] (K + 1) (sI I K fun _ => 0) (uP (sP P K fun _ => 0) x0 0 K)) : V E (d + 1) m_Model_init K1 Q 0 [some (.inr x0)] [] K I P := V_run 9 0 rfl h
set_option maxRecDepth 20000 in
theorem x_Model_init_13 {E : XE} {d : Nat} {K K1 : Nat} {Q : Int32 → mI → mP → Prop} {I : mI} {P : mP} (x0 : Nat) (h : kd K = (1, (nI 128).toNatClampNeg) ∧ ¬ (nI 128) < 0 ∧ K < K1 ∧ kk (K + 1) x0 = (0, 6) ∧ K ≠ 0 ∧ V E (d + 1) m_Model_init K1 Q 22 [some (.inr x0)] [] (K + 1) (sI I K fun _ => 0) (uP (sP P K fun _ => 0) x0 1 K)) : V E (d + 1) m_Model_init K1 Q 13 [some (.inr x0)] [] K I P := V_run 7 6 rfl h
set_option maxRecDepth 20000 in
theorem x_Model_init_22 {E : XE} {d : Nat} {K K1 : Nat} {Q : Int32 → mI → mP → Prop} {I : mI} {P : mP} (x0 : Nat) (h : kd K = (1, (nI 6).toNatClampNeg) ∧ ¬ (nI 6) < 0 ∧ K < K1 ∧ kk (K + 1) x0 = (0, 6) ∧ K ≠ 0 ∧ V E (d + 1) m_Model_init K1 Q 30 [some (.inr x0)] [] (K + 1) (sI I K fun _ => 0) (uP (sP P K fun _ => 0) x0 6 K)) : V E (d + 1) m_Model_init K1 Q 22 [some (.inr x0)] [] K I P := V_run 7 10 rfl h
set_option maxRecDepth 20000 in
theorem x_Model_init_30 {E : XE} {d : Nat} {K K1 : Nat} {Q : Int32 → mI → mP → Prop} {I : mI} {P : mP} (x0 : Nat) (h : kd K = (1, (nI 192).toNatClampNeg) ∧ ¬ (nI 192) < 0 ∧ K < K1 ∧ kk (K + 1) x0 = (0, 6) ∧ K ≠ 0 ∧ V E (d + 1) m_Model_init K1 Q 39 [some (.inr x0)] [] (K + 1) (sI I K fun _ => 0) (uP (sP P K fun _ => 0) x0 9 K)) : V E (d + 1) m_Model_init K1 Q 30 [some (.inr x0)] [] K I P := V_run 7 14 rfl h
set_option maxRecDepth 20000 in
theorem x_Model_init_39 {E : XE} {d : Nat} {K K1 : Nat} {Q : Int32 → mI → mP → Prop} {I : mI} {P : mP} (x0 : Nat) (h : kd K = (1, (nI 192).toNatClampNeg) ∧ ¬ (nI 192) < 0 ∧ K < K1 ∧ kk (K + 1) x0 = (0, 6) ∧ K ≠ 0 ∧ V E (d + 1) m_Model_init K1 Q 48 [some (.inr x0)] [] (K + 1) (sI I K fun _ => 0) (uP (sP P K fun _ => 0) x0 10 K)) : V E (d + 1) m_Model_init K1 Q 39 [some (.inr x0)] [] K I P := V_run 7 18 rfl h
set_option maxRecDepth 20000 in
theorem x_Model_init_48 {E : XE} {d : Nat} {K K1 : Nat} {Q : Int32 → mI → mP → Prop} {I : mI} {P : mP} (x0 : Nat) (h : kd K = (1, (nI 192).toNatClampNeg) ∧ ¬ (nI 192) < 0 ∧ K < K1 ∧ kk (K + 1) x0 = (0, 6) ∧ K ≠ 0 ∧ V E (d + 1) m_Model_init K1 Q 57 [some (.inr x0)] [] (K + 1) (sI I K fun _ => 0) (uP (sP P K fun _ => 0) x0 11 K)) : V E (d + 1) m_Model_init K1 Q 48 [some (.inr x0)] [] K I P := V_run 7 22 rfl h
set_option maxRecDepth 20000 in
theorem x_Model_init_57 {E : XE} {d : Nat} {K K1 : Nat} {Q : Int32 → mI → mP → Prop} {I : mI} {P : mP} (x0 : Nat) (h : kd K = (1, (nI 192).toNatClampNeg) ∧ ¬ (nI 192) < 0 ∧ K < K1 ∧ kk (K + 1) x0 = (0, 6) ∧ K ≠ 0 ∧ V E (d + 1) m_Model_init K1 Q 66 [some (.inr x0)] [] (K + 1) (sI I K fun _ => 0) (uP (sP P K fun _ => 0) x0 12 K)) : V E (d + 1) m_Model_init K1 Q 57 [some (.inr x0)] [] K I P := V_run 7 26 rfl h
set_option maxRecDepth 20000 in
theorem x_Model_init_66 {E : XE} {d : Nat} {K K1 : Nat} {Q : Int32 → mI → mP → Prop} {I : mI} {P : mP} (x0 : Nat) (h : kd K = (1, (nI 192).toNatClampNeg) ∧ ¬ (nI 192) < 0 ∧ K < K1 ∧ kk (K + 1) x0 = (0, 6) ∧ K ≠ 0 ∧ V E (d + 1) m_Model_init K1 Q 75 [some (.inr x0)] [] (K + 1) (sI I K fun _ => 0) (uP (sP P K fun _ => 0) x0 13 K)) : V E (d + 1) m_Model_init K1 Q 66 [some (.inr x0)] [] K I P := V_run 7 30 rfl h
set_option maxRecDepth 20000 in
theorem x_Model_init_75 {E : XE} {d : Nat} {K K1 : Nat} {Q : Int32 → mI → mP → Prop} {I : mI} {P : mP} (x0 : Nat) (h : kd K = (2, (nI 128).toNatClampNeg) ∧ ¬ (nI 128) < 0 ∧ K < K1 ∧ kk (K + 1) x0 = (0, 6) ∧ K ≠ 0 ∧ V E (d + 1) m_Model_init K1 Q 84 [some (.inr x0)] [] (K + 1) (sI I K fun _ => 0) (uP (sP P K fun _ => 0) x0 14 K)) : V E (d + 1) m_Model_init K1 Q 75 [some (.inr x0)] [] K I P := V_run 7 34 rfl h
set_option maxRecDepth 20000 in
theorem x_Model_init_84 {E : XE} {d : Nat} {K K1 : Nat} {Q : Int32 → mI → mP → Prop} {I : mI} {P : mP} (x0 : Nat) (h : kd K = (1, (nI 128).toNatClampNeg) ∧ ¬ (nI 128) < 0 ∧ K < K1 ∧ kk (K + 1) x0 = (0, 6) ∧ K ≠ 0 ∧ V E (d + 1) m_Model_init K1 Q 93 [some (.inr x0)] [] (K + 1) (sI I K fun _ => 0) (uP (sP P K fun _ => 0) x0 15 K)) : V E (d + 1) m_Model_init K1 Q 84 [some (.inr x0)] [] K I P := V_run 7 38 rfl h
set_option maxRecDepth 20000 in
theorem x_Model_init_93 {E : XE} {d : Nat} {K K1 : Nat} {Q : Int32 → mI → mP → Prop} {I : mI} {P : mP} (x0 : Nat) (h : kd K = (1, (nI 10).toNatClampNeg) ∧ ¬ (nI 10) < 0 ∧ K < K1 ∧ kk (K + 1) x0 = (0, 6) ∧ K ≠ 0 ∧ V E (d + 1) m_Model_init K1 Q 101 [some (.inr x0)] [] (K + 1) (sI I K fun _ => 0) (uP (sP P K fun _ => 0) x0 19 K)) : V E (d + 1) m_Model_init K1 Q 93 [some (.inr x0)] [] K I P := V_run 7 42 rfl h
set_option maxRecDepth 20000 in
theorem x_Model_init_101 {E : XE} {d : Nat} {K K1 : Nat} {Q : Int32 → mI → mP → Prop} {I : mI} {P : mP} (x0 : Nat) (h : kd K = (1, (nI 128).toNatClampNeg) ∧ ¬ (nI 128) < 0 ∧ K < K1 ∧ kk (K + 1) x0 = (0, 6) ∧ K ≠ 0 ∧ V E (d + 1) m_Model_init K1 Q 110 [some (.inr x0)] [] (K + 1) (sI I K fun _ => 0) (uP (sP P K fun _ => 0) x0 20 K)) : V E (d + 1) m_Model_init K1 Q 101 [some (.inr x0)] [] K I P := V_run 7 46 rfl h
set_option maxRecDepth 20000 in
theorem x_Model_init_110 {E : XE} {d : Nat} {K K1 : Nat} {Q : Int32 → mI → mP → Prop} {I : mI} {P : mP} (x0 : Nat) (h : kd K = (1, (nI 128).toNatClampNeg) ∧ ¬ (nI 128) < 0 ∧ K < K1 ∧ kk (K + 1) x0 = (0, 6) ∧ K ≠ 0 ∧ V E (d + 1) m_Model_init K1 Q 119 [some (.inr x0)] [] (K + 1) (sI I K fun _ => 0) (uP (sP P K fun _ => 0) x0 21 K)) : V E (d + 1) m_Model_init K1 Q 110 [some (.inr x0)] [] K I P := V_run 7 50 rfl h
set_option maxRecDepth 20000 in
theorem x_Model_init_119 {E : XE} {d : Nat} {K K1 : Nat} {Q : Int32 → mI → mP → Prop} {I : mI} {P : mP} (x0 : Nat) (h : kd K = (1, (nI 128).toNatClampNeg) ∧ ¬ (nI 128) < 0 ∧ K < K1 ∧ kk (K + 1) x0 = (0, 6) ∧ K ≠ 0 ∧ V E (d + 1) m_Model_init K1 Q 128 [some (.inr x0)] [] (K + 1) (sI I K fun _ => 0) (uP (sP P K fun _ => 0) x0 23 K)) : V E (d + 1) m_Model_init K1 Q 119 [some (.inr x0)] [] K I P := V_run 7 54 rfl h
set_option maxRecDepth 20000 in
theorem x_Model_init_128 {E : XE} {d : Nat} {K K1 : Nat} {Q : Int32 → mI → mP → Prop} {I : mI} {P : mP} (x0 : Nat) (h : kd K = (1, (nI 128).toNatClampNeg) ∧ ¬ (nI 128) < 0 ∧ K < K1 ∧ kk (K + 1) x0 = (0, 6) ∧ K ≠ 0 ∧ V E (d + 1) m_Model_init K1 Q 137 [some (.inr x0)] [] (K + 1) (sI I K fun _ => 0) (uP (sP P K fun _ => 0) x0 24 K)) : V E (d + 1) m_Model_init K1 Q 128 [some (.inr x0)] [] K I P := V_run 7 58 rfl h
set_option maxRecDepth 20000 in
theorem x_Model_init_137 {E : XE} {d : Nat} {K K1 : Nat} {Q : Int32 → mI → mP → Prop} {I : mI} {P : mP} (x0 : Nat) (h : kd K = (1, (nI 7381).toNatClampNeg) ∧ ¬ (nI 7381) < 0 ∧ K < K1 ∧ kk (K + 1) x0 = (0, 6) ∧ K ≠ 0 ∧ retk (K + 1) K1 (Q (nI 0) (sI I K fun _ => 0) (uP (sP P K fun _ => 0) x0 25 K))) : V E (d + 1) m_Model_init K1 Q 137 [some (.inr x0)] [] K I P := V_run 7 62 rfl h
set_option maxRecDepth 20000 in
theorem x_Model_type_0 {E : XE} {d : Nat} {Q : Int32 → mI → mP → Prop} {I : mI} {P : mP} (x0 : Nat) (x1 : Int32) (h : (x1 = (nI 10) → kk 112 x0 = (0, 6) ∧ ((I x0 4) < (nI 60) → kk 112 x0 = (0, 6) ∧ P x0 0 ≠ 0 ∧ kk 112 x0 = (0, 6) ∧ (kk 112 (P x0 0)).1 = 1 ∧ vp_in ((nI 192) + (I x0 4)) (kk 112 (P x0 0)).2 ∧ kk 112 x0 = (0, 6) ∧ kk 112 x0 = (0, 6) ∧ zb (nI 1) ∧ Q (nI 1) (uI (uI I (P x0 0) ((nI 192) + (I x0 4)).toNatClampNeg x1) x0 4 (((uI I (P x0 0) ((nI 192) + (I x0 4)).toNatClampNeg x1) x0 4) + (nI 1))) P) ∧ (¬ (I x0 4) < (nI 60) → zb (nI 0) ∧ Q (nI 0) I P)) ∧ (¬ x1 = (nI 10) → (x1 < (nI 32) → zb (nI 0) ∧ Q (nI 0) I P) ∧ (¬ x1 < (nI 32) → ((nI 126) < x1 → zb (nI 0) ∧ Q (nI 0) I P) ∧ (¬ (nI 126) < x1 → kk 112 x0 = (0, 6) ∧ ((I x0 4) < (nI 60) → kk 112 x0 = (0, 6) ∧ P x0 0 ≠ 0 ∧ kk 112 x0 = (0, 6) ∧ (kk 112 (P x0 0)).1 = 1 ∧ vp_in ((nI 192) + (I x0 4)) (kk 112 (P x0 0)).2 ∧ kk 112 x0 = (0, 6) ∧ kk 112 x0 = (0, 6) ∧ zb (nI 1) ∧ Q (nI 1) (uI (uI I (P x0 0) ((nI 192) + (I x0 4)).toNatClampNeg x1) x0 4 (((uI I (P x0 0) ((nI 192) + (I x0 4)).toNatClampNeg x1) x0 4) + (nI 1))) P) ∧ (¬ (I x0 4) < (nI 60) → zb (nI 0) ∧ Q (nI 0) I P))))) : V E d m_Model_type 112 Q 0 [some (.inr x0), some (.inl x1)] [] 112 I P := V_run 31 0 rfl h
set_option maxRecDepth 20000 in
theorem x_Model_clear_0 {E : XE} {d : Nat} {Q : Int32 → mI → mP → Prop} {I : mI} {P : mP} (x0 : Nat) (h : kk 112 x0 = (0, 6) ∧ Q (nI 0) (uI I x0 4 (nI 0)) P) : V E d m_Model_clear 112 Q 0 [some (.inr x0)] [] 112 I P := V_run 6 0 rfl h
set_option maxRecDepth 20000 in
theorem x_Model_buffered_0 {E : XE} {d : Nat} {Q : Int32 → mI → mP → Prop} {I : mI} {P : mP} (x0 : Nat) (h : kk 112 x0 = (0, 6) ∧ Q (I x0 4) I P) : V E d m_Model_buffered 112 Q 0 [some (.inr x0)] [] 112 I P := V_run 5 0 rfl h
set_option maxRecDepth 20000 in
theorem x_Model_load_0 {E : XE} {d : Nat} {Q : Int32 → mI → mP → Prop} {I : mI} {P : mP} (x0 : Nat) (h : V E (d + 1) m_Model_load 112 Q 2 [some (.inr x0), some (.inl (nI 0))] [] 112 I P) : V E (d + 1) m_Model_load 112 Q 0 [some (.inr x0), none] [] 112 I P := V_run 5 0 rfl h
set_option maxRecDepth 20000 in
theorem x_Model_load_2 {E : XE} {d : Nat} {Q : Int32 → mI → mP → Prop} {I : mI} {P : mP} (x0 : Nat) (x1 : Int32) (h : kk 112 x0 = (0, 6) ∧ ((I x0 4) ≤ x1 → kk 112 x0 = (0, 6) ∧ kk 112 x0 = (0, 6) ∧ kk 112 x0 = (0, 6) ∧ kk 112 x0 = (0, 6) ∧ kk 112 x0 = (0, 6) ∧ kk 112 x0 = (0, 6) ∧ kk 112 x0 = (0, 6) ∧ kk 112 x0 = (0, 6) ∧ V E d m_Model_read 112 (fun _ I1 P1 => kk 112 x0 = (0, 6) ∧ Q (I1 x0 17) I1 P1) 0 [some (.inr x0), none, none, none, none] [] 112 (uI (uI (uI (uI (uI I x0 2 (I x0 4)) x0 3 ((uI I x0 2 (I x0 4)) x0 4)) x0 4 (nI 0)) x0 7 (nI 0)) x0 8 (nI 0)) P) ∧ (¬ (I x0 4) ≤ x1 → kk 112 x0 = (0, 6) ∧ P x0 0 ≠ 0 ∧ kk 112 x0 = (0, 6) ∧ P x0 0 ≠ 0 ∧ (kk 112 (P x0 0)).1 = 1 ∧ vp_in ((nI 192) + x1) (kk 112 (P x0 0)).2 ∧ (kk 112 (P x0 0)).1 = 1 ∧ vp_in x1 (kk 112 (P x0 0)).2 ∧ kk 112 x0 = (0, 6) ∧ P x0 0 ≠ 0 ∧ kk 112 x0 = (0, 6) ∧ P x0 0 ≠ 0 ∧ (kk 112 (P x0 0)).1 = 1 ∧ vp_in ((nI 192) + x1) (kk 112 (P x0 0)).2 ∧ (kk 112 (P x0 0)).1 = 1 ∧ vp_in ((nI 128) + x1) (kk 112 (P x0 0)).2 ∧ kk 112 x0 = (0, 6) ∧ P x0 1 ≠ 0 ∧ (kk 112 (P x0 1)).1 = 1 ∧ vp_in x1 (kk 112 (P x0 1)).2 ∧ V E (d + 1) m_Model_load 112 Q 2 [some (.inr x0), some (.inl (x1 + (nI 1)))] [] 112 (uI (uI (uI I (P x0 0) x1.toNatClampNeg (I (P x0 0) ((nI 192) + x1).toNatClampNeg)) (P x0 0) ((nI 128) + x1).toNatClampNeg ((uI I (P x0 0) x1.toNatClampNeg (I (P x0 0) ((nI 192) + x1).toNatClampNeg)) (P x0 0) ((nI 192) + x1).toNatClampNeg)) (P x0 1) x1.toNatClampNeg (nI 0)) P)) : V E (d + 1) m_Model_load 112 Q 2 [some (.inr x0), some (.inl x1)] [] 112 I P := V_run 36 2 rfl h
set_option maxRecDepth 20000 in
theorem x_Model_read_0 {E : XE} {d : Nat} {Q : Int32 → mI → mP → Prop} {I : mI} {P : mP} (x0 : Nat) (h : kk 112 x0 = (0, 6) ∧ kk 112 x0 = (0, 6) ∧ V E d m_Model_tokenise 112 (fun r1 I1 P1 => kk 112 x0 = (0, 6) ∧ kk 112 x0 = (0, 6) ∧ kk 112 x0 = (0, 6) ∧ V E d m_Model_structure 112 (fun _ I2 P2 => kk 112 x0 = (0, 6) ∧ V E (d + 1) m_Model_read 112 Q 30 [some (.inr x0), some (.inl (nI 0)), none, none, none] [] 112 (uI I2 x0 17 (nI 0)) P2) 0 [some (.inr x0), some (.inl (nI 0)), some (.inl ((uI I1 x0 16 r1) x0 16)), none, none, none] [] 112 (uI I1 x0 16 r1) P1) 0 [some (.inr x0), some (.inl (nI 0)), some (.inl (I x0 2)), some (.inl (nI 0)), none, none, none, none] [] 112 I P) : V E (d + 1) m_Model_read 112 Q 0 [some (.inr x0), none, none, none, none] [] 112 I P := V_run 21 0 rfl h
set_option maxRecDepth 20000 in
theorem x_Model_read_30 {E : XE} {d : Nat} {Q : Int32 → mI → mP → Prop} {I : mI} {P : mP} (x0 : Nat) (x1 : Int32) (h : kk 112 x0 = (0, 6) ∧ ((I x0 16) ≤ x1 → Q (nI 0) I P) ∧ (¬ (I x0 16) ≤ x1 → V E (d + 1) m_Model_read 112 Q 40 [some (.inr x0), some (.inl x1), some (.inl x1), none, none] [] 112 I P)) : V E (d + 1) m_Model_read 112 Q 30 [some (.inr x0), some (.inl x1), none, none, none] [] 112 I P := V_run 9 18 rfl h
set_option maxRecDepth 20000 in
theorem x_Model_read_40 {E : XE} {d : Nat} {Q : Int32 → mI → mP → Prop} {I : mI} {P : mP} (x0 : Nat) (x1 : Int32) (x2 : Int32) (h : kk 112 x0 = (0, 6) ∧ (((I x0 16) - (nI 1)) ≤ x2 → V E (d + 1) m_Model_read 112 Q 67 [some (.inr x0), some (.inl x1), some (.inl x2), none, none] [] 112 I P) ∧ (¬ ((I x0 16) - (nI 1)) ≤ x2 → kk 112 x0 = (0, 6) ∧ P x0 9 ≠ 0 ∧ (kk 112 (P x0 9)).1 = 1 ∧ vp_in x2 (kk 112 (P x0 9)).2 ∧ ((I (P x0 9) x2.toNatClampNeg) = (nI 59) → V E (d + 1) m_Model_read 112 Q 67 [some (.inr x0), some (.inl x1), some (.inl x2), none, none] [] 112 I P) ∧ (¬ (I (P x0 9) x2.toNatClampNeg) = (nI 59) → V E (d + 1) m_Model_read 112 Q 40 [some (.inr x0), some (.inl x1), some (.inl (x2 + (nI 1))), none, none] [] 112 I P))) : V E (d + 1) m_Model_read 112 Q 40 [some (.inr x0), some (.inl x1), some (.inl x2), none, none] [] 112 I P := V_run 17 24 rfl h
set_option maxRecDepth 20000 in
theorem x_Model_read_67 {E : XE} {d : Nat} {Q : Int32 → mI → mP → Prop} {I : mI} {P : mP} (x0 : Nat) (x1 : Int32) (x2 : Int32) (h : kk 112 x0 = (0, 6) ∧ P x0 9 ≠ 0 ∧ (kk 112 (P x0 9)).1 = 1 ∧ vp_in x2 (kk 112 (P x0 9)).2 ∧ (¬ (I (P x0 9) x2.toNatClampNeg) = (nI 59) → V E (d + 1) m_Model_read 112 Q 112 [some (.inr x0), some (.inl x1), some (.inl x2), some (.inl (nI 0)), none] [] 112 I P) ∧ ((I (P x0 9) x2.toNatClampNeg) = (nI 59) → (x2 ≤ x1 → V E (d + 1) m_Model_read 112 Q 112 [some (.inr x0), some (.inl x1), some (.inl x2), some (.inl (nI 0)), none] [] 112 I P) ∧ (¬ x2 ≤ x1 → kk 112 x0 = (0, 6) ∧ P x0 12 ≠ 0 ∧ (kk 112 (P x0 12)).1 = 1 ∧ vp_in x1 (kk 112 (P x0 12)).2 ∧ (¬ (I (P x0 12) x1.toNatClampNeg) = (x2 - (nI 1)) → V E (d + 1) m_Model_read 112 Q 112 [some (.inr x0), some (.inl x1), some (.inl x2), some (.inl (nI 0)), none] [] 112 I P) ∧ ((I (P x0 12) x1.toNatClampNeg) = (x2 - (nI 1)) → kk 112 x0 = (0, 6) ∧ P x0 13 ≠ 0 ∧ (kk 112 (P x0 13)).1 = 1 ∧ vp_in x1 (kk 112 (P x0 13)).2 ∧ ((nI 12) < (I (P x0 13) x1.toNatClampNeg) → V E (d + 1) m_Model_read 112 Q 112 [some (.inr x0), some (.inl x1), some (.inl x2), some (.inl (nI 0)), none] [] 112 I P) ∧ (¬ (nI 12) < (I (P x0 13) x1.toNatClampNeg) → V E (d + 1) m_Model_read 112 Q 112 [some (.inr x0), some (.inl x1), some (.inl x2), some (.inl (nI 1)), none] [] 112 I P))))) : V E (d + 1) m_Model_read 112 Q 67 [some (.inr x0), some (.inl x1), some (.inl x2), none, none] [] 112 I P := V_run 29 38 rfl h
set_option maxRecDepth 20000 in
theorem x_Model_read_112 {E : XE} {d : Nat} {Q : Int32 → mI → mP → Prop} {I : mI} {P : mP} (x0 : Nat) (x1 : Int32) (x2 : Int32) (x3 : Int32) (h : V E (d + 1) m_Model_read 112 Q 115 [some (.inr x0), none, some (.inl x2), some (.inl x3), some (.inl x1)] [] 112 I P) : V E (d + 1) m_Model_read 112 Q 112 [some (.inr x0), some (.inl x1), some (.inl x2), some (.inl x3), none] [] 112 I P := V_run 5 65 rfl h
set_option maxRecDepth 20000 in
theorem x_Model_read_115 {E : XE} {d : Nat} {Q : Int32 → mI → mP → Prop} {I : mI} {P : mP} (x0 : Nat) (x2 : Int32) (x3 : Int32) (x4 : Int32) (h : (x2 < x4 → V E (d + 1) m_Model_read 112 Q 146 [some (.inr x0), none, some (.inl x2), none, none] [] 112 I P) ∧ (¬ x2 < x4 → kk 112 x0 = (0, 6) ∧ P x0 14 ≠ 0 ∧ (kk 112 (P x0 14)).1 = 2 ∧ vp_in x4 (kk 112 (P x0 14)).2 ∧ kk 112 x0 = (0, 6) ∧ P x0 15 ≠ 0 ∧ kk 112 x0 = (0, 6) ∧ (kk 112 (P x0 15)).1 = 1 ∧ vp_in x4 (kk 112 (P x0 15)).2 ∧ V E (d + 1) m_Model_read 112 Q 115 [some (.inr x0), none, some (.inl x2), some (.inl x3), some (.inl (x4 + (nI 1)))] [] 112 (uI (uI I (P x0 14) x4.toNatClampNeg (vp_nar .boolean x3)) (P x0 15) x4.toNatClampNeg ((uI I (P x0 14) x4.toNatClampNeg (vp_nar .boolean x3)) x0 17)) P)) : V E (d + 1) m_Model_read 112 Q 115 [some (.inr x0), none, some (.inl x2), some (.inl x3), some (.inl x4)] [] 112 I P := V_run 19 67 rfl h
set_option maxRecDepth 20000 in
theorem x_Model_read_146 {E : XE} {d : Nat} {Q : Int32 → mI → mP → Prop} {I : mI} {P : mP} (x0 : Nat) (x2 : Int32) (h : kk 112 x0 = (0, 6) ∧ kk 112 x0 = (0, 6) ∧ V E (d + 1) m_Model_read 112 Q 30 [some (.inr x0), some (.inl (x2 + (nI 1))), none, none, none] [] 112 (uI I x0 17 ((I x0 17) + (nI 1))) P) : V E (d + 1) m_Model_read 112 Q 146 [some (.inr x0), none, some (.inl x2), none, none] [] 112 I P := V_run 14 83 rfl h
set_option maxRecDepth 20000 in
theorem x_Model_tokenise_0 {E : XE} {d : Nat} {Q : Int32 → mI → mP → Prop} {I : mI} {P : mP} (x0 : Nat) (x1 : Int32) (x2 : Int32) (x3 : Int32) (h : V E (d + 1) m_Model_tokenise 112 Q 11 [some (.inr x0), none, none, some (.inl x3), some (.inl (nI 0)), some (.inl x1), some (.inl (x1 + x2)), none] [] 112 I P) : V E (d + 1) m_Model_tokenise 112 Q 0 [some (.inr x0), some (.inl x1), some (.inl x2), some (.inl x3), none, none, none, none] [] 112 I P := V_run 11 0 rfl h
set_option maxRecDepth 20000 in
theorem x_Model_tokenise_11 {E : XE} {d : Nat} {Q : Int32 → mI → mP → Prop} {I : mI} {P : mP} (x0 : Nat) (x3 : Int32) (x4 : Int32) (x5 : Int32) (x6 : Int32) (h : (x6 ≤ x5 → Q x4 I P) ∧ (¬ x6 ≤ x5 → kk 112 x0 = (0, 6) ∧ P x0 0 ≠ 0 ∧ (kk 112 (P x0 0)).1 = 1 ∧ vp_in x5 (kk 112 (P x0 0)).2 ∧ ((I (P x0 0) x5.toNatClampNeg) = (nI 32) → V E (d + 1) m_Model_tokenise 112 Q 11 [some (.inr x0), none, none, some (.inl x3), some (.inl x4), some (.inl (x5 + (nI 1))), some (.inl x6), none] [] 112 I P) ∧ (¬ (I (P x0 0) x5.toNatClampNeg) = (nI 32) → kk 112 x0 = (0, 6) ∧ P x0 0 ≠ 0 ∧ (kk 112 (P x0 0)).1 = 1 ∧ vp_in x5 (kk 112 (P x0 0)).2 ∧ (¬ (I (P x0 0) x5.toNatClampNeg) = (nI 10) → kk 112 x0 = (0, 6) ∧ P x0 0 ≠ 0 ∧ (kk 112 (P x0 0)).1 = 1 ∧ vp_in x5 (kk 112 (P x0 0)).2 ∧ (¬ (I (P x0 0) x5.toNatClampNeg) = (nI 35) → kk 112 x0 = (0, 6) ∧ V E d m_Model_sortAt 112 (fun r1 I1 P1 => kk 112 x0 = (0, 6) ∧ P1 x0 9 ≠ 0 ∧ (kk 112 (P1 x0 9)).1 = 1 ∧ vp_in (x3 + x4) (kk 112 (P1 x0 9)).2 ∧ kk 112 x0 = (0, 6) ∧ P1 x0 10 ≠ 0 ∧ (kk 112 (P1 x0 10)).1 = 1 ∧ vp_in (x3 + x4) (kk 112 (P1 x0 10)).2 ∧ kk 112 x0 = (0, 6) ∧ V E d m_Model_endAt 112 (fun r2 I2 P2 => kk 112 x0 = (0, 6) ∧ P2 x0 11 ≠ 0 ∧ (kk 112 (P2 x0 11)).1 = 1 ∧ vp_in (x3 + x4) (kk 112 (P2 x0 11)).2 ∧ V E (d + 1) m_Model_tokenise 112 Q 11 [some (.inr x0), none, none, some (.inl x3), some (.inl (x4 + (nI 1))), some (.inl r2), some (.inl x6), none] [] 112 (uI I2 (P2 x0 11) (x3 + x4).toNatClampNeg r2) P2) 0 [some (.inr x0), some (.inl x5), some (.inl x6), some (.inl r1), none] [] 112 (uI (uI I1 (P1 x0 9) (x3 + x4).toNatClampNeg r1) (P1 x0 10) (x3 + x4).toNatClampNeg x5) P1) 0 [some (.inr x0), some (.inl x5), some (.inl x6), none] [] 112 I P) ∧ ((I (P x0 0) x5.toNatClampNeg) = (nI 35) → V E (d + 1) m_Model_tokenise 112 Q 60 [some (.inr x0), none, none, some (.inl x3), some (.inl x4), some (.inl x5), some (.inl x6), none] [] 112 I P)) ∧ ((I (P x0 0) x5.toNatClampNeg) = (nI 10) → V E (d + 1) m_Model_tokenise 112 Q 11 [some (.inr x0), none, none, some (.inl x3), some (.inl x4), some (.inl (x5 + (nI 1))), some (.inl x6), none] [] 112 I P)))) : V E (d + 1) m_Model_tokenise 112 Q 11 [some (.inr x0), none, none, some (.inl x3), some (.inl x4), some (.inl x5), some (.inl x6), none] [] 112 I P := V_run 58 8 rfl h
set_option maxRecDepth 20000 in
theorem x_Model_tokenise_60 {E : XE} {d : Nat} {Q : Int32 → mI → mP → Prop} {I : mI} {P : mP} (x0 : Nat) (x3 : Int32) (x4 : Int32) (x5 : Int32) (x6 : Int32) (h : (x6 ≤ x5 → V E (d + 1) m_Model_tokenise 112 Q 11 [some (.inr x0), none, none, some (.inl x3), some (.inl x4), some (.inl x5), some (.inl x6), none] [] 112 I P) ∧ (¬ x6 ≤ x5 → kk 112 x0 = (0, 6) ∧ P x0 0 ≠ 0 ∧ (kk 112 (P x0 0)).1 = 1 ∧ vp_in x5 (kk 112 (P x0 0)).2 ∧ ((I (P x0 0) x5.toNatClampNeg) = (nI 10) → V E (d + 1) m_Model_tokenise 112 Q 11 [some (.inr x0), none, none, some (.inl x3), some (.inl x4), some (.inl x5), some (.inl x6), none] [] 112 I P) ∧ (¬ (I (P x0 0) x5.toNatClampNeg) = (nI 10) → V E (d + 1) m_Model_tokenise 112 Q 60 [some (.inr x0), none, none, some (.inl x3), some (.inl x4), some (.inl (x5 + (nI 1))), some (.inl x6), none] [] 112 I P))) : V E (d + 1) m_Model_tokenise 112 Q 60 [some (.inr x0), none, none, some (.inl x3), some (.inl x4), some (.inl x5), some (.inl x6), none] [] 112 I P := V_run 14 31 rfl h
set_option maxRecDepth 20000 in
theorem x_Model_sortAt_0 {E : XE} {d : Nat} {Q : Int32 → mI → mP → Prop} {I : mI} {P : mP} (x0 : Nat) (x1 : Int32) (x2 : Int32) (h : kk 112 x0 = (0, 6) ∧ P x0 0 ≠ 0 ∧ (kk 112 (P x0 0)).1 = 1 ∧ vp_in x1 (kk 112 (P x0 0)).2 ∧ V E d m_Model_letter 112 (fun r1 I1 P1 => (r1 = 0 → V E d m_Model_figure 112 (fun r2 I2 P2 => (r2 = 0 → (¬ (I (P x0 0) x1.toNatClampNeg) = (nI 36) → V E d m_Model_mere 112 (fun r3 I3 P3 => (r3 = 0 → Q (nI 4) I3 P3) ∧ (¬ r3 = 0 → Q (I (P x0 0) x1.toNatClampNeg) I3 P3)) 0 [some (.inl (I (P x0 0) x1.toNatClampNeg))] [] 112 I2 P2) ∧ ((I (P x0 0) x1.toNatClampNeg) = (nI 36) → (x2 ≤ (x1 + (nI 1)) → V E d m_Model_mere 112 (fun r4 I4 P4 => (r4 = 0 → Q (nI 4) I4 P4) ∧ (¬ r4 = 0 → Q (I (P x0 0) x1.toNatClampNeg) I4 P4)) 0 [some (.inl (I (P x0 0) x1.toNatClampNeg))] [] 112 I2 P2) ∧ (¬ x2 ≤ (x1 + (nI 1)) → kk 112 x0 = (0, 6) ∧ P2 x0 0 ≠ 0 ∧ (kk 112 (P2 x0 0)).1 = 1 ∧ vp_in (x1 + (nI 1)) (kk 112 (P2 x0 0)).2 ∧ V E d m_Model_figure 112 (fun r5 I5 P5 => (r5 = 0 → V E d m_Model_mere 112 (fun r6 I6 P6 => (r6 = 0 → Q (nI 4) I6 P6) ∧ (¬ r6 = 0 → Q (I (P x0 0) x1.toNatClampNeg) I6 P6)) 0 [some (.inl (I (P x0 0) x1.toNatClampNeg))] [] 112 I5 P5) ∧ (¬ r5 = 0 → Q (nI 3) I5 P5)) 0 [some (.inl (I2 (P2 x0 0) (x1 + (nI 1)).toNatClampNeg))] [] 112 I2 P2))) ∧ (¬ r2 = 0 → Q (nI 2) I2 P2)) 0 [some (.inl (I (P x0 0) x1.toNatClampNeg))] [] 112 I1 P1) ∧ (¬ r1 = 0 → Q (nI 1) I1 P1)) 0 [some (.inl (I (P x0 0) x1.toNatClampNeg))] [] 112 I P) : V E (d + 1) m_Model_sortAt 112 Q 0 [some (.inr x0), some (.inl x1), some (.inl x2), none] [] 112 I P := V_run 35 0 rfl h
set_option maxRecDepth 20000 in
theorem x_Model_letter_0 {E : XE} {d : Nat} {Q : Int32 → mI → mP → Prop} {I : mI} {P : mP} (x0 : Int32) (h : (x0 < (nI 97) → (x0 < (nI 65) → zb (nI 0) ∧ Q (nI 0) I P) ∧ (¬ x0 < (nI 65) → ((nI 90) < x0 → zb (nI 0) ∧ Q (nI 0) I P) ∧ (¬ (nI 90) < x0 → zb (nI 1) ∧ Q (nI 1) I P))) ∧ (¬ x0 < (nI 97) → (x0 ≤ (nI 122) → zb (nI 1) ∧ Q (nI 1) I P) ∧ (¬ x0 ≤ (nI 122) → (x0 < (nI 65) → zb (nI 0) ∧ Q (nI 0) I P) ∧ (¬ x0 < (nI 65) → ((nI 90) < x0 → zb (nI 0) ∧ Q (nI 0) I P) ∧ (¬ (nI 90) < x0 → zb (nI 1) ∧ Q (nI 1) I P))))) : V E d m_Model_letter 112 Q 0 [some (.inl x0)] [] 112 I P := V_run 17 0 rfl h
set_option maxRecDepth 20000 in
theorem x_Model_figure_0 {E : XE} {d : Nat} {Q : Int32 → mI → mP → Prop} {I : mI} {P : mP} (x0 : Int32) (h : (x0 < (nI 48) → zb (nI 0) ∧ Q (nI 0) I P) ∧ (¬ x0 < (nI 48) → ((nI 57) < x0 → zb (nI 0) ∧ Q (nI 0) I P) ∧ (¬ (nI 57) < x0 → zb (nI 1) ∧ Q (nI 1) I P))) : V E d m_Model_figure 112 Q 0 [some (.inl x0)] [] 112 I P := V_run 11 0 rfl h
set_option maxRecDepth 20000 in
theorem x_Model_mere_0 {E : XE} {d : Nat} {Q : Int32 → mI → mP → Prop} {I : mI} {P : mP} (x0 : Int32) (h : (x0 = (nI 40) → zb (nI 1) ∧ Q (nI 1) I P) ∧ (¬ x0 = (nI 40) → (x0 = (nI 41) → zb (nI 1) ∧ Q (nI 1) I P) ∧ (¬ x0 = (nI 41) → (x0 = (nI 44) → zb (nI 1) ∧ Q (nI 1) I P) ∧ (¬ x0 = (nI 44) → (x0 = (nI 59) → zb (nI 1) ∧ Q (nI 1) I P) ∧ (¬ x0 = (nI 59) → (¬ x0 = (nI 62) → zb (nI 0) ∧ Q (nI 0) I P) ∧ (x0 = (nI 62) → zb (nI 1) ∧ Q (nI 1) I P)))))) : V E d m_Model_mere 112 Q 0 [some (.inl x0)] [] 112 I P := V_run 20 0 rfl h
set_option maxRecDepth 20000 in
theorem x_Model_endAt_0 {E : XE} {d : Nat} {Q : Int32 → mI → mP → Prop} {I : mI} {P : mP} (x0 : Nat) (x1 : Int32) (x2 : Int32) (x3 : Int32) (h : (¬ x3 = (nI 3) → (¬ x3 = (nI 1) → (¬ x3 = (nI 2) → Q (x1 + (nI 1)) I P) ∧ (x3 = (nI 2) → V E (d + 1) m_Model_endAt 112 Q 63 [some (.inr x0), none, some (.inl x2), none, some (.inl (x1 + (nI 1)))] [] 112 I P)) ∧ (x3 = (nI 1) → V E (d + 1) m_Model_endAt 112 Q 20 [some (.inr x0), none, some (.inl x2), none, some (.inl (x1 + (nI 1)))] [] 112 I P)) ∧ (x3 = (nI 3) → Q ((x1 + (nI 1)) + (nI 1)) I P)) : V E (d + 1) m_Model_endAt 112 Q 0 [some (.inr x0), some (.inl x1), some (.inl x2), some (.inl x3), none] [] 112 I P := V_run 17 0 rfl h
set_option maxRecDepth 20000 in
theorem x_Model_endAt_20 {E : XE} {d : Nat} {Q : Int32 → mI → mP → Prop} {I : mI} {P : mP} (x0 : Nat) (x2 : Int32) (x4 : Int32) (h : (x2 ≤ x4 → Q x4 I P) ∧ (¬ x2 ≤ x4 → kk 112 x0 = (0, 6) ∧ P x0 0 ≠ 0 ∧ (kk 112 (P x0 0)).1 = 1 ∧ vp_in x4 (kk 112 (P x0 0)).2 ∧ V E d m_Model_letter 112 (fun r1 I1 P1 => (¬ r1 = 0 → V E (d + 1) m_Model_endAt 112 Q 20 [some (.inr x0), none, some (.inl x2), none, some (.inl (x4 + (nI 1)))] [] 112 I1 P1) ∧ (r1 = 0 → kk 112 x0 = (0, 6) ∧ P1 x0 0 ≠ 0 ∧ (kk 112 (P1 x0 0)).1 = 1 ∧ vp_in x4 (kk 112 (P1 x0 0)).2 ∧ V E d m_Model_figure 112 (fun r2 I2 P2 => (r2 = 0 → Q x4 I2 P2) ∧ (¬ r2 = 0 → V E (d + 1) m_Model_endAt 112 Q 20 [some (.inr x0), none, some (.inl x2), none, some (.inl (x4 + (nI 1)))] [] 112 I2 P2)) 0 [some (.inl (I1 (P1 x0 0) x4.toNatClampNeg))] [] 112 I1 P1)) 0 [some (.inl (I (P x0 0) x4.toNatClampNeg))] [] 112 I P)) : V E (d + 1) m_Model_endAt 112 Q 20 [some (.inr x0), none, some (.inl x2), none, some (.inl x4)] [] 112 I P := V_run 20 14 rfl h
set_option maxRecDepth 20000 in
theorem x_Model_endAt_63 {E : XE} {d : Nat} {Q : Int32 → mI → mP → Prop} {I : mI} {P : mP} (x0 : Nat) (x2 : Int32) (x4 : Int32) (h : (x2 ≤ x4 → Q x4 I P) ∧ (¬ x2 ≤ x4 → kk 112 x0 = (0, 6) ∧ P x0 0 ≠ 0 ∧ (kk 112 (P x0 0)).1 = 1 ∧ vp_in x4 (kk 112 (P x0 0)).2 ∧ V E d m_Model_figure 112 (fun r1 I1 P1 => (r1 = 0 → Q x4 I1 P1) ∧ (¬ r1 = 0 → V E (d + 1) m_Model_endAt 112 Q 63 [some (.inr x0), none, some (.inl x2), none, some (.inl (x4 + (nI 1)))] [] 112 I1 P1)) 0 [some (.inl (I (P x0 0) x4.toNatClampNeg))] [] 112 I P)) : V E (d + 1) m_Model_endAt 112 Q 63 [some (.inr x0), none, some (.inl x2), none, some (.inl x4)] [] 112 I P := V_run 14 34 rfl h
set_option maxRecDepth 20000 in
theorem x_Model_structure_0 {E : XE} {d : Nat} {Q : Int32 → mI → mP → Prop} {I : mI} {P : mP} (x0 : Nat) (x1 : Int32) (x2 : Int32) (h : V E (d + 1) m_Model_structure 112 Q 4 [some (.inr x0), some (.inl x1), some (.inl x2), some (.inl (x2 - (nI 1))), none, none] [] 112 I P) : V E (d + 1) m_Model_structure 112 Q 0 [some (.inr x0), some (.inl x1), some (.inl x2), none, none, none] [] 112 I P := V_run 7 0 rfl h
set_option maxRecDepth 20000 in
theorem x_Model_structure_4 {E : XE} {d : Nat} {Q : Int32 → mI → mP → Prop} {I : mI} {P : mP} (x0 : Nat) (x1 : Int32) (x2 : Int32) (x3 : Int32) (h : (x3 < 0 → Q (nI 0) I P) ∧ (¬ x3 < 0 → kk 112 x0 = (0, 6) ∧ P x0 9 ≠ 0 ∧ (kk 112 (P x0 9)).1 = 1 ∧ vp_in (x1 + x3) (kk 112 (P x0 9)).2 ∧ kk 112 x0 = (0, 6) ∧ P x0 12 ≠ 0 ∧ (kk 112 (P x0 12)).1 = 1 ∧ vp_in (x1 + x3) (kk 112 (P x0 12)).2 ∧ kk 112 x0 = (0, 6) ∧ P x0 13 ≠ 0 ∧ (kk 112 (P x0 13)).1 = 1 ∧ vp_in (x1 + x3) (kk 112 (P x0 13)).2 ∧ (¬ (I (P x0 9) (x1 + x3).toNatClampNeg) = (nI 1) → V E (d + 1) m_Model_structure 112 Q 71 [some (.inr x0), some (.inl x1), some (.inl x2), some (.inl x3), some (.inl (I (P x0 9) (x1 + x3).toNatClampNeg)), some (.inl (nI 0))] [] 112 (uI (uI I (P x0 12) (x1 + x3).toNatClampNeg (-(nI 1))) (P x0 13) (x1 + x3).toNatClampNeg (nI 0)) P) ∧ ((I (P x0 9) (x1 + x3).toNatClampNeg) = (nI 1) → (x2 ≤ (x3 + (nI 1)) → V E (d + 1) m_Model_structure 112 Q 71 [some (.inr x0), some (.inl x1), some (.inl x2), some (.inl x3), some (.inl (I (P x0 9) (x1 + x3).toNatClampNeg)), some (.inl (nI 0))] [] 112 (uI (uI I (P x0 12) (x1 + x3).toNatClampNeg (-(nI 1))) (P x0 13) (x1 + x3).toNatClampNeg (nI 0)) P) ∧ (¬ x2 ≤ (x3 + (nI 1)) → kk 112 x0 = (0, 6) ∧ P x0 9 ≠ 0 ∧ (kk 112 (P x0 9)).1 = 1 ∧ vp_in ((x1 + x3) + (nI 1)) (kk 112 (P x0 9)).2 ∧ (¬ ((uI (uI I (P x0 12) (x1 + x3).toNatClampNeg (-(nI 1))) (P x0 13) (x1 + x3).toNatClampNeg (nI 0)) (P x0 9) ((x1 + x3) + (nI 1)).toNatClampNeg) = (nI 40) → V E (d + 1) m_Model_structure 112 Q 71 [some (.inr x0), some (.inl x1), some (.inl x2), some (.inl x3), some (.inl (I (P x0 9) (x1 + x3).toNatClampNeg)), some (.inl (nI 0))] [] 112 (uI (uI I (P x0 12) (x1 + x3).toNatClampNeg (-(nI 1))) (P x0 13) (x1 + x3).toNatClampNeg (nI 0)) P) ∧ (((uI (uI I (P x0 12) (x1 + x3).toNatClampNeg (-(nI 1))) (P x0 13) (x1 + x3).toNatClampNeg (nI 0)) (P x0 9) ((x1 + x3) + (nI 1)).toNatClampNeg) = (nI 40) → V E (d + 1) m_Model_structure 112 Q 71 [some (.inr x0), some (.inl x1), some (.inl x2), some (.inl x3), some (.inl (I (P x0 9) (x1 + x3).toNatClampNeg)), some (.inl (nI 1))] [] 112 (uI (uI I (P x0 12) (x1 + x3).toNatClampNeg (-(nI 1))) (P x0 13) (x1 + x3).toNatClampNeg (nI 0)) P))))) : V E (d + 1) m_Model_structure 112 Q 4 [some (.inr x0), some (.inl x1), some (.inl x2), some (.inl x3), none, none] [] 112 I P := V_run 47 4 rfl h
set_option maxRecDepth 20000 in
theorem x_Model_structure_71 {E : XE} {d : Nat} {Q : Int32 → mI → mP → Prop} {I : mI} {P : mP} (x0 : Nat) (x1 : Int32) (x2 : Int32) (x3 : Int32) (x4 : Int32) (x5 : Int32) (h : (x5 = 0 → (x4 = (nI 1) → kk 112 x0 = (0, 6) ∧ P x0 12 ≠ 0 ∧ (kk 112 (P x0 12)).1 = 1 ∧ vp_in (x1 + x3) (kk 112 (P x0 12)).2 ∧ V E (d + 1) m_Model_structure 112 Q 117 [some (.inr x0), some (.inl x1), some (.inl x2), some (.inl x3), none, none] [] 112 (uI I (P x0 12) (x1 + x3).toNatClampNeg x3) P) ∧ (¬ x4 = (nI 1) → (x4 = (nI 2) → kk 112 x0 = (0, 6) ∧ P x0 12 ≠ 0 ∧ (kk 112 (P x0 12)).1 = 1 ∧ vp_in (x1 + x3) (kk 112 (P x0 12)).2 ∧ V E (d + 1) m_Model_structure 112 Q 117 [some (.inr x0), some (.inl x1), some (.inl x2), some (.inl x3), none, none] [] 112 (uI I (P x0 12) (x1 + x3).toNatClampNeg x3) P) ∧ (¬ x4 = (nI 2) → (¬ x4 = (nI 3) → V E (d + 1) m_Model_structure 112 Q 117 [some (.inr x0), some (.inl x1), some (.inl x2), some (.inl x3), none, none] [] 112 I P) ∧ (x4 = (nI 3) → (x1 ≤ 0 → V E (d + 1) m_Model_structure 112 Q 117 [some (.inr x0), some (.inl x1), some (.inl x2), some (.inl x3), none, none] [] 112 I P) ∧ (¬ x1 ≤ 0 → kk 112 x0 = (0, 6) ∧ P x0 12 ≠ 0 ∧ (kk 112 (P x0 12)).1 = 1 ∧ vp_in (x1 + x3) (kk 112 (P x0 12)).2 ∧ V E (d + 1) m_Model_structure 112 Q 117 [some (.inr x0), some (.inl x1), some (.inl x2), some (.inl x3), none, none] [] 112 (uI I (P x0 12) (x1 + x3).toNatClampNeg x3) P))))) ∧ (¬ x5 = 0 → kk 112 x0 = (0, 6) ∧ V E d m_Model_called 112 (fun _ I1 P1 => V E (d + 1) m_Model_structure 112 Q 117 [some (.inr x0), some (.inl x1), some (.inl x2), some (.inl x3), none, none] [] 112 I1 P1) 0 [some (.inr x0), some (.inl x1), some (.inl x2), some (.inl x3), none, none, none, none] [] 112 I P)) : V E (d + 1) m_Model_structure 112 Q 71 [some (.inr x0), some (.inl x1), some (.inl x2), some (.inl x3), some (.inl x4), some (.inl x5)] [] 112 I P := V_run 23 49 rfl h
set_option maxRecDepth 20000 in
theorem x_Model_structure_117 {E : XE} {d : Nat} {Q : Int32 → mI → mP → Prop} {I : mI} {P : mP} (x0 : Nat) (x1 : Int32) (x2 : Int32) (x3 : Int32) (h : V E (d + 1) m_Model_structure 112 Q 4 [some (.inr x0), some (.inl x1), some (.inl x2), some (.inl (x3 + (-(nI 1)))), none, none] [] 112 I P) : V E (d + 1) m_Model_structure 112 Q 117 [some (.inr x0), some (.inl x1), some (.inl x2), some (.inl x3), none, none] [] 112 I P := V_run 5 75 rfl h
set_option maxRecDepth 20000 in
theorem x_Model_called_0 {E : XE} {d : Nat} {Q : Int32 → mI → mP → Prop} {I : mI} {P : mP} (x0 : Nat) (x1 : Int32) (x2 : Int32) (x3 : Int32) (h : (x2 ≤ (x3 + (nI 2)) → V E d m_Model_called 112 Q 21 [some (.inr x0), some (.inl x1), some (.inl x2), some (.inl x3), some (.inl (x3 + (nI 2))), some (.inl (nI 0)), some (.inl (nI 0)), none] [] 112 I P) ∧ (¬ x2 ≤ (x3 + (nI 2)) → V E d m_Model_called 112 Q 21 [some (.inr x0), some (.inl x1), some (.inl x2), some (.inl x3), some (.inl (x3 + (nI 2))), some (.inl (nI 0)), some (.inl (nI 1)), none] [] 112 I P)) : V E d m_Model_called 112 Q 0 [some (.inr x0), some (.inl x1), some (.inl x2), some (.inl x3), none, none, none, none] [] 112 I P := V_run 15 0 rfl h
set_option maxRecDepth 20000 in
theorem x_Model_called_21 {E : XE} {d : Nat} {Q : Int32 → mI → mP → Prop} {I : mI} {P : mP} (x0 : Nat) (x1 : Int32) (x2 : Int32) (x3 : Int32) (x4 : Int32) (x5 : Int32) (x6 : Int32) (h : (x6 = 0 → V E d m_Model_called 112 Q 60 [some (.inr x0), some (.inl x1), some (.inl x2), some (.inl x3), some (.inl x4), some (.inl x5), some (.inl x6), none] [] 112 I P) ∧ (¬ x6 = 0 → kk 112 x0 = (0, 6) ∧ P x0 9 ≠ 0 ∧ (kk 112 (P x0 9)).1 = 1 ∧ vp_in (x1 + x4) (kk 112 (P x0 9)).2 ∧ (¬ (I (P x0 9) (x1 + x4).toNatClampNeg) = (nI 41) → V E d m_Model_called 112 Q 60 [some (.inr x0), some (.inl x1), some (.inl x2), some (.inl x3), some (.inl x4), some (.inl x5), some (.inl x6), none] [] 112 I P) ∧ ((I (P x0 9) (x1 + x4).toNatClampNeg) = (nI 41) → kk 112 x0 = (0, 6) ∧ P x0 12 ≠ 0 ∧ (kk 112 (P x0 12)).1 = 1 ∧ vp_in (x1 + x3) (kk 112 (P x0 12)).2 ∧ kk 112 x0 = (0, 6) ∧ P x0 13 ≠ 0 ∧ (kk 112 (P x0 13)).1 = 1 ∧ vp_in (x1 + x3) (kk 112 (P x0 13)).2 ∧ Q (nI 0) (uI (uI I (P x0 12) (x1 + x3).toNatClampNeg x4) (P x0 13) (x1 + x3).toNatClampNeg (nI 1)) P))) : V E d m_Model_called 112 Q 21 [some (.inr x0), some (.inl x1), some (.inl x2), some (.inl x3), some (.inl x4), some (.inl x5), some (.inl x6), none] [] 112 I P := V_run 27 13 rfl h
set_option maxRecDepth 20000 in
theorem x_Model_called_60 {E : XE} {d : Nat} {Q : Int32 → mI → mP → Prop} {I : mI} {P : mP} (x0 : Nat) (x1 : Int32) (x2 : Int32) (x3 : Int32) (x4 : Int32) (x5 : Int32) (x6 : Int32) (h : (x6 = 0 → Q (nI 0) I P) ∧ (¬ x6 = 0 → kk 112 x0 = (0, 6) ∧ P x0 12 ≠ 0 ∧ (kk 112 (P x0 12)).1 = 1 ∧ vp_in (x1 + x4) (kk 112 (P x0 12)).2 ∧ (0 ≤ (I (P x0 12) (x1 + x4).toNatClampNeg) → kk 112 x0 = (0, 6) ∧ P x0 13 ≠ 0 ∧ (kk 112 (P x0 13)).1 = 1 ∧ vp_in (x1 + x4) (kk 112 (P x0 13)).2 ∧ ((I (P x0 13) (x1 + x4).toNatClampNeg) ≤ x5 → V E d m_Model_called 112 Q 108 [some (.inr x0), some (.inl x1), some (.inl x2), some (.inl x3), some (.inl x4), some (.inl x5), none, none] [] 112 I P) ∧ (¬ (I (P x0 13) (x1 + x4).toNatClampNeg) ≤ x5 → kk 112 x0 = (0, 6) ∧ P x0 13 ≠ 0 ∧ (kk 112 (P x0 13)).1 = 1 ∧ vp_in (x1 + x4) (kk 112 (P x0 13)).2 ∧ V E d m_Model_called 112 Q 108 [some (.inr x0), some (.inl x1), some (.inl x2), some (.inl x3), some (.inl x4), some (.inl (I (P x0 13) (x1 + x4).toNatClampNeg)), none, none] [] 112 I P)) ∧ (¬ 0 ≤ (I (P x0 12) (x1 + x4).toNatClampNeg) → Q (nI 0) I P))) : V E d m_Model_called 112 Q 60 [some (.inr x0), some (.inl x1), some (.inl x2), some (.inl x3), some (.inl x4), some (.inl x5), some (.inl x6), none] [] 112 I P := V_run 28 38 rfl h
set_option maxRecDepth 20000 in
theorem x_Model_called_108 {E : XE} {d : Nat} {Q : Int32 → mI → mP → Prop} {I : mI} {P : mP} (x0 : Nat) (x1 : Int32) (x2 : Int32) (x3 : Int32) (x4 : Int32) (x5 : Int32) (h : kk 112 x0 = (0, 6) ∧ P x0 12 ≠ 0 ∧ (kk 112 (P x0 12)).1 = 1 ∧ vp_in (x1 + x4) (kk 112 (P x0 12)).2 ∧ (x2 ≤ ((I (P x0 12) (x1 + x4).toNatClampNeg) + (nI 1)) → V E d m_Model_called 112 Q 142 [some (.inr x0), some (.inl x1), some (.inl x2), some (.inl x3), some (.inl ((I (P x0 12) (x1 + x4).toNatClampNeg) + (nI 1))), some (.inl x5), none, some (.inl (nI 0))] [] 112 I P) ∧ (¬ x2 ≤ ((I (P x0 12) (x1 + x4).toNatClampNeg) + (nI 1)) → kk 112 x0 = (0, 6) ∧ P x0 9 ≠ 0 ∧ (kk 112 (P x0 9)).1 = 1 ∧ vp_in (x1 + ((I (P x0 12) (x1 + x4).toNatClampNeg) + (nI 1))) (kk 112 (P x0 9)).2 ∧ V E d m_Model_called 112 Q 142 [some (.inr x0), some (.inl x1), some (.inl x2), some (.inl x3), some (.inl ((I (P x0 12) (x1 + x4).toNatClampNeg) + (nI 1))), some (.inl x5), none, some (.inl (I (P x0 9) (x1 + ((I (P x0 12) (x1 + x4).toNatClampNeg) + (nI 1))).toNatClampNeg))] [] 112 I P)) : V E d m_Model_called 112 Q 108 [some (.inr x0), some (.inl x1), some (.inl x2), some (.inl x3), some (.inl x4), some (.inl x5), none, none] [] 112 I P := V_run 23 65 rfl h
set_option maxRecDepth 20000 in
theorem x_Model_called_142 {E : XE} {d : Nat} {Q : Int32 → mI → mP → Prop} {I : mI} {P : mP} (x0 : Nat) (x1 : Int32) (x2 : Int32) (x3 : Int32) (x4 : Int32) (x5 : Int32) (x7 : Int32) (h : (¬ x7 = (nI 41) → V E d m_Model_called 112 Q 171 [some (.inr x0), some (.inl x1), some (.inl x2), some (.inl x3), some (.inl x4), some (.inl x5), none, some (.inl x7)] [] 112 I P) ∧ (x7 = (nI 41) → kk 112 x0 = (0, 6) ∧ P x0 12 ≠ 0 ∧ (kk 112 (P x0 12)).1 = 1 ∧ vp_in (x1 + x3) (kk 112 (P x0 12)).2 ∧ kk 112 x0 = (0, 6) ∧ P x0 13 ≠ 0 ∧ (kk 112 (P x0 13)).1 = 1 ∧ vp_in (x1 + x3) (kk 112 (P x0 13)).2 ∧ V E d m_Model_called 112 Q 171 [some (.inr x0), some (.inl x1), some (.inl x2), some (.inl x3), some (.inl x4), some (.inl x5), none, some (.inl x7)] [] 112 (uI (uI I (P x0 12) (x1 + x3).toNatClampNeg x4) (P x0 13) (x1 + x3).toNatClampNeg (x5 + (nI 1))) P)) : V E d m_Model_called 112 Q 142 [some (.inr x0), some (.inl x1), some (.inl x2), some (.inl x3), some (.inl x4), some (.inl x5), none, some (.inl x7)] [] 112 I P := V_run 22 86 rfl h
set_option maxRecDepth 20000 in
theorem x_Model_called_171 {E : XE} {d : Nat} {Q : Int32 → mI → mP → Prop} {I : mI} {P : mP} (x0 : Nat) (x1 : Int32) (x2 : Int32) (x3 : Int32) (x4 : Int32) (x5 : Int32) (x7 : Int32) (h : (¬ x7 = (nI 44) → V E d m_Model_called 112 Q 194 [some (.inr x0), some (.inl x1), some (.inl x2), some (.inl x3), some (.inl (x4 + (nI 1))), some (.inl x5), some (.inl (nI 0)), none] [] 112 I P) ∧ (x7 = (nI 44) → (x2 ≤ (x4 + (nI 1)) → V E d m_Model_called 112 Q 194 [some (.inr x0), some (.inl x1), some (.inl x2), some (.inl x3), some (.inl (x4 + (nI 1))), some (.inl x5), some (.inl (nI 0)), none] [] 112 I P) ∧ (¬ x2 ≤ (x4 + (nI 1)) → V E d m_Model_called 112 Q 194 [some (.inr x0), some (.inl x1), some (.inl x2), some (.inl x3), some (.inl (x4 + (nI 1))), some (.inl x5), some (.inl (nI 1)), none] [] 112 I P))) : V E d m_Model_called 112 Q 171 [some (.inr x0), some (.inl x1), some (.inl x2), some (.inl x3), some (.inl x4), some (.inl x5), none, some (.inl x7)] [] 112 I P := V_run 13 105 rfl h
set_option maxRecDepth 20000 in
theorem x_Model_called_194 {E : XE} {d : Nat} {Q : Int32 → mI → mP → Prop} {I : mI} {P : mP} (x0 : Nat) (x1 : Int32) (x2 : Int32) (x3 : Int32) (x4 : Int32) (x5 : Int32) (x6 : Int32) (h : V E d m_Model_called 112 Q 60 [some (.inr x0), some (.inl x1), some (.inl x2), some (.inl x3), some (.inl x4), some (.inl x5), some (.inl x6), none] [] 112 I P) : V E d m_Model_called 112 Q 194 [some (.inr x0), some (.inl x1), some (.inl x2), some (.inl x3), some (.inl x4), some (.inl x5), some (.inl x6), none] [] 112 I P := V_run 4 116 rfl h
set_option maxRecDepth 20000 in
theorem x_Model_rule_0 {E : XE} {d : Nat} {Q : Int32 → mI → mP → Prop} {I : mI} {P : mP} (x0 : Nat) (h : kk 112 x0 = (0, 6) ∧ ((I x0 5) < (nI 6) → kk 112 x0 = (0, 6) ∧ kk 112 x0 = (0, 6) ∧ V E d m_Model_readRule 112 (fun _ I1 P1 => kk 112 x0 = (0, 6) ∧ V E d m_Model_isRule 112 (fun r2 I2 P2 => (¬ r2 = 0 → V E (d + 1) m_Model_rule 112 Q 33 [some (.inr x0), some (.inl (nI 0))] [] 112 I2 P2) ∧ (r2 = 0 → Q (-(nI 1)) I2 P2)) 0 [some (.inr x0), none, none, none, none, none] [] 112 I1 P1) 0 [some (.inr x0), some (.inl (nI 192)), some (.inl (I x0 4))] [] 112 I P) ∧ (¬ (I x0 5) < (nI 6) → Q (-(nI 1)) I P)) : V E (d + 1) m_Model_rule 112 Q 0 [some (.inr x0), none] [] 112 I P := V_run 17 0 rfl h
set_option maxRecDepth 20000 in
theorem x_Model_rule_33 {E : XE} {d : Nat} {Q : Int32 → mI → mP → Prop} {I : mI} {P : mP} (x0 : Nat) (x1 : Int32) (h : kk 112 x0 = (0, 6) ∧ ((I x0 4) ≤ x1 → kk 112 x0 = (0, 6) ∧ P x0 6 ≠ 0 ∧ kk 112 x0 = (0, 6) ∧ kk 112 x0 = (0, 6) ∧ (kk 112 (P x0 6)).1 = 1 ∧ vp_in (I x0 5) (kk 112 (P x0 6)).2 ∧ kk 112 x0 = (0, 6) ∧ kk 112 x0 = (0, 6) ∧ kk 112 x0 = (0, 6) ∧ kk 112 x0 = (0, 6) ∧ Q (((uI (uI (uI I (P x0 6) (I x0 5).toNatClampNeg (I x0 4)) x0 4 (nI 0)) x0 5 (((uI (uI I (P x0 6) (I x0 5).toNatClampNeg (I x0 4)) x0 4 (nI 0)) x0 5) + (nI 1))) x0 5) - (nI 1)) (uI (uI (uI I (P x0 6) (I x0 5).toNatClampNeg (I x0 4)) x0 4 (nI 0)) x0 5 (((uI (uI I (P x0 6) (I x0 5).toNatClampNeg (I x0 4)) x0 4 (nI 0)) x0 5) + (nI 1))) P) ∧ (¬ (I x0 4) ≤ x1 → kk 112 x0 = (0, 6) ∧ P x0 0 ≠ 0 ∧ kk 112 x0 = (0, 6) ∧ kk 112 x0 = (0, 6) ∧ P x0 0 ≠ 0 ∧ (kk 112 (P x0 0)).1 = 1 ∧ vp_in ((nI 192) + x1) (kk 112 (P x0 0)).2 ∧ (kk 112 (P x0 0)).1 = 1 ∧ vp_in (((nI 256) + ((nI 64) * (I x0 5))) + x1) (kk 112 (P x0 0)).2 ∧ V E (d + 1) m_Model_rule 112 Q 33 [some (.inr x0), some (.inl (x1 + (nI 1)))] [] 112 (uI I (P x0 0) (((nI 256) + ((nI 64) * (I x0 5))) + x1).toNatClampNeg (I (P x0 0) ((nI 192) + x1).toNatClampNeg)) P)) : V E (d + 1) m_Model_rule 112 Q 33 [some (.inr x0), some (.inl x1)] [] 112 I P := V_run 27 18 rfl h
set_option maxRecDepth 20000 in
theorem x_Model_readRule_0 {E : XE} {d : Nat} {Q : Int32 → mI → mP → Prop} {I : mI} {P : mP} (x0 : Nat) (x1 : Int32) (x2 : Int32) (h : kk 112 x0 = (0, 6) ∧ V E d m_Model_tokenise 112 (fun r1 I1 P1 => kk 112 x0 = (0, 6) ∧ kk 112 x0 = (0, 6) ∧ kk 112 x0 = (0, 6) ∧ V E d m_Model_structure 112 (fun _ I2 P2 => Q (nI 0) I2 P2) 0 [some (.inr x0), some (.inl (nI 128)), some (.inl ((uI I1 x0 18 r1) x0 18)), none, none, none] [] 112 (uI I1 x0 18 r1) P1) 0 [some (.inr x0), some (.inl x1), some (.inl x2), some (.inl (nI 128)), none, none, none, none] [] 112 I P) : V E (d + 1) m_Model_readRule 112 Q 0 [some (.inr x0), some (.inl x1), some (.inl x2)] [] 112 I P := V_run 15 0 rfl h
set_option maxRecDepth 20000 in
theorem x_Model_isRule_0 {E : XE} {d : Nat} {Q : Int32 → mI → mP → Prop} {I : mI} {P : mP} (x0 : Nat) (h : kk 112 x0 = (0, 6) ∧ ((I x0 18) < (nI 3) → zb (nI 0) ∧ Q (nI 0) I P) ∧ (¬ (I x0 18) < (nI 3) → kk 112 x0 = (0, 6) ∧ P x0 12 ≠ 0 ∧ (kk 112 (P x0 12)).1 = 1 ∧ vp_in (nI 128) (kk 112 (P x0 12)).2 ∧ (0 ≤ (I (P x0 12) (nI 128).toNatClampNeg) → kk 112 x0 = (0, 6) ∧ P x0 12 ≠ 0 ∧ (kk 112 (P x0 12)).1 = 1 ∧ vp_in (nI 128) (kk 112 (P x0 12)).2 ∧ kk 112 x0 = (0, 6) ∧ ((I x0 18) ≤ (((I (P x0 12) (nI 128).toNatClampNeg) + (nI 1)) + (nI 1)) → zb (nI 0) ∧ Q (nI 0) I P) ∧ (¬ (I x0 18) ≤ (((I (P x0 12) (nI 128).toNatClampNeg) + (nI 1)) + (nI 1)) → kk 112 x0 = (0, 6) ∧ P x0 9 ≠ 0 ∧ (kk 112 (P x0 9)).1 = 1 ∧ vp_in ((nI 128) + ((I (P x0 12) (nI 128).toNatClampNeg) + (nI 1))) (kk 112 (P x0 9)).2 ∧ (¬ (I (P x0 9) ((nI 128) + ((I (P x0 12) (nI 128).toNatClampNeg) + (nI 1))).toNatClampNeg) = (nI 62) → zb (nI 0) ∧ Q (nI 0) I P) ∧ ((I (P x0 9) ((nI 128) + ((I (P x0 12) (nI 128).toNatClampNeg) + (nI 1))).toNatClampNeg) = (nI 62) → kk 112 x0 = (0, 6) ∧ P x0 12 ≠ 0 ∧ (kk 112 (P x0 12)).1 = 1 ∧ vp_in (((nI 128) + ((I (P x0 12) (nI 128).toNatClampNeg) + (nI 1))) + (nI 1)) (kk 112 (P x0 12)).2 ∧ kk 112 x0 = (0, 6) ∧ ((I (P x0 12) (((nI 128) + ((I (P x0 12) (nI 128).toNatClampNeg) + (nI 1))) + (nI 1)).toNatClampNeg) = ((I x0 18) - (nI 1)) → kk 112 x0 = (0, 6) ∧ P x0 13 ≠ 0 ∧ (kk 112 (P x0 13)).1 = 1 ∧ vp_in (nI 128) (kk 112 (P x0 13)).2 ∧ ((nI 12) < (I (P x0 13) (nI 128).toNatClampNeg) → zb (nI 0) ∧ Q (nI 0) I P) ∧ (¬ (nI 12) < (I (P x0 13) (nI 128).toNatClampNeg) → kk 112 x0 = (0, 6) ∧ P x0 13 ≠ 0 ∧ (kk 112 (P x0 13)).1 = 1 ∧ vp_in (((nI 128) + ((I (P x0 12) (nI 128).toNatClampNeg) + (nI 1))) + (nI 1)) (kk 112 (P x0 13)).2 ∧ ((I (P x0 13) (((nI 128) + ((I (P x0 12) (nI 128).toNatClampNeg) + (nI 1))) + (nI 1)).toNatClampNeg) ≤ (nI 12) → V E (d + 1) m_Model_isRule 112 Q 110 [some (.inr x0), none, some (.inl (((nI 128) + ((I (P x0 12) (nI 128).toNatClampNeg) + (nI 1))) + (nI 1))), some (.inl (((nI 128) + ((I (P x0 12) (nI 128).toNatClampNeg) + (nI 1))) + (nI 1))), none, none] [] 112 I P) ∧ (¬ (I (P x0 13) (((nI 128) + ((I (P x0 12) (nI 128).toNatClampNeg) + (nI 1))) + (nI 1)).toNatClampNeg) ≤ (nI 12) → zb (nI 0) ∧ Q (nI 0) I P))) ∧ (¬ (I (P x0 12) (((nI 128) + ((I (P x0 12) (nI 128).toNatClampNeg) + (nI 1))) + (nI 1)).toNatClampNeg) = ((I x0 18) - (nI 1)) → zb (nI 0) ∧ Q (nI 0) I P)))) ∧ (¬ 0 ≤ (I (P x0 12) (nI 128).toNatClampNeg) → zb (nI 0) ∧ Q (nI 0) I P))) : V E (d + 1) m_Model_isRule 112 Q 0 [some (.inr x0), none, none, none, none, none] [] 112 I P := V_run 62 0 rfl h
set_option maxRecDepth 20000 in
theorem x_Model_isRule_110 {E : XE} {d : Nat} {Q : Int32 → mI → mP → Prop} {I : mI} {P : mP} (x0 : Nat) (x2 : Int32) (x3 : Int32) (h : kk 112 x0 = (0, 6) ∧ (((nI 128) + (I x0 18)) ≤ x3 → zb (nI 1) ∧ Q (nI 1) I P) ∧ (¬ ((nI 128) + (I x0 18)) ≤ x3 → kk 112 x0 = (0, 6) ∧ P x0 9 ≠ 0 ∧ (kk 112 (P x0 9)).1 = 1 ∧ vp_in x3 (kk 112 (P x0 9)).2 ∧ ((I (P x0 9) x3.toNatClampNeg) = (nI 3) → V E (d + 1) m_Model_isRule 112 Q 139 [some (.inr x0), none, some (.inl x2), some (.inl x3), some (.inl (nI 0)), none] [] 112 I P) ∧ (¬ (I (P x0 9) x3.toNatClampNeg) = (nI 3) → V E (d + 1) m_Model_isRule 112 Q 139 [some (.inr x0), none, some (.inl x2), some (.inl x3), some (.inl (nI 1)), none] [] 112 I P))) : V E (d + 1) m_Model_isRule 112 Q 110 [some (.inr x0), none, some (.inl x2), some (.inl x3), none, none] [] 112 I P := V_run 18 65 rfl h
set_option maxRecDepth 20000 in
theorem x_Model_isRule_139 {E : XE} {d : Nat} {Q : Int32 → mI → mP → Prop} {I : mI} {P : mP} (x0 : Nat) (x2 : Int32) (x3 : Int32) (x4 : Int32) (h : V E (d + 1) m_Model_isRule 112 Q 144 [some (.inr x0), none, some (.inl x2), some (.inl x3), some (.inl x4), some (.inl (nI 128))] [] 112 I P) : V E (d + 1) m_Model_isRule 112 Q 139 [some (.inr x0), none, some (.inl x2), some (.inl x3), some (.inl x4), none] [] 112 I P := V_run 5 81 rfl h
set_option maxRecDepth 20000 in
theorem x_Model_isRule_144 {E : XE} {d : Nat} {Q : Int32 → mI → mP → Prop} {I : mI} {P : mP} (x0 : Nat) (x2 : Int32) (x3 : Int32) (x4 : Int32) (x5 : Int32) (h : (x2 ≤ x5 → (¬ x4 = 0 → V E (d + 1) m_Model_isRule 112 Q 110 [some (.inr x0), none, some (.inl x2), some (.inl (x3 + (nI 1))), none, none] [] 112 I P) ∧ (x4 = 0 → zb (nI 0) ∧ Q (nI 0) I P)) ∧ (¬ x2 ≤ x5 → (¬ x4 = 0 → V E (d + 1) m_Model_isRule 112 Q 172 [some (.inr x0), none, some (.inl x2), some (.inl x3), some (.inl (nI 1)), some (.inl x5)] [] 112 I P) ∧ (x4 = 0 → kk 112 x0 = (0, 6) ∧ V E d m_Model_sameToken 112 (fun r1 I1 P1 => (r1 = 0 → V E (d + 1) m_Model_isRule 112 Q 172 [some (.inr x0), none, some (.inl x2), some (.inl x3), some (.inl (nI 0)), some (.inl x5)] [] 112 I1 P1) ∧ (¬ r1 = 0 → V E (d + 1) m_Model_isRule 112 Q 172 [some (.inr x0), none, some (.inl x2), some (.inl x3), some (.inl (nI 1)), some (.inl x5)] [] 112 I1 P1)) 0 [some (.inr x0), some (.inl x3), some (.inl x5), none] [] 112 I P))) : V E (d + 1) m_Model_isRule 112 Q 144 [some (.inr x0), none, some (.inl x2), some (.inl x3), some (.inl x4), some (.inl x5)] [] 112 I P := V_run 16 83 rfl h
set_option maxRecDepth 20000 in
theorem x_Model_isRule_172 {E : XE} {d : Nat} {Q : Int32 → mI → mP → Prop} {I : mI} {P : mP} (x0 : Nat) (x2 : Int32) (x3 : Int32) (x4 : Int32) (x5 : Int32) (h : V E (d + 1) m_Model_isRule 112 Q 144 [some (.inr x0), none, some (.inl x2), some (.inl x3), some (.inl x4), some (.inl (x5 + (nI 1)))] [] 112 I P) : V E (d + 1) m_Model_isRule 112 Q 172 [some (.inr x0), none, some (.inl x2), some (.inl x3), some (.inl x4), some (.inl x5)] [] 112 I P := V_run 5 97 rfl h
set_option maxRecDepth 20000 in
theorem x_Model_sameToken_0 {E : XE} {d : Nat} {Q : Int32 → mI → mP → Prop} {I : mI} {P : mP} (x0 : Nat) (x1 : Int32) (x2 : Int32) (h : kk 112 x0 = (0, 6) ∧ P x0 9 ≠ 0 ∧ (kk 112 (P x0 9)).1 = 1 ∧ vp_in x1 (kk 112 (P x0 9)).2 ∧ kk 112 x0 = (0, 6) ∧ P x0 9 ≠ 0 ∧ (kk 112 (P x0 9)).1 = 1 ∧ vp_in x2 (kk 112 (P x0 9)).2 ∧ (¬ (I (P x0 9) x1.toNatClampNeg) = (I (P x0 9) x2.toNatClampNeg) → zb (nI 0) ∧ Q (nI 0) I P) ∧ ((I (P x0 9) x1.toNatClampNeg) = (I (P x0 9) x2.toNatClampNeg) → kk 112 x0 = (0, 6) ∧ P x0 11 ≠ 0 ∧ (kk 112 (P x0 11)).1 = 1 ∧ vp_in x1 (kk 112 (P x0 11)).2 ∧ kk 112 x0 = (0, 6) ∧ P x0 10 ≠ 0 ∧ (kk 112 (P x0 10)).1 = 1 ∧ vp_in x1 (kk 112 (P x0 10)).2 ∧ kk 112 x0 = (0, 6) ∧ P x0 11 ≠ 0 ∧ (kk 112 (P x0 11)).1 = 1 ∧ vp_in x2 (kk 112 (P x0 11)).2 ∧ kk 112 x0 = (0, 6) ∧ P x0 10 ≠ 0 ∧ (kk 112 (P x0 10)).1 = 1 ∧ vp_in x2 (kk 112 (P x0 10)).2 ∧ (((I (P x0 11) x1.toNatClampNeg) - (I (P x0 10) x1.toNatClampNeg)) = ((I (P x0 11) x2.toNatClampNeg) - (I (P x0 10) x2.toNatClampNeg)) → V E d m_Model_sameToken 112 Q 48 [some (.inr x0), some (.inl x1), some (.inl x2), some (.inl (nI 0))] [] 112 I P) ∧ (¬ ((I (P x0 11) x1.toNatClampNeg) - (I (P x0 10) x1.toNatClampNeg)) = ((I (P x0 11) x2.toNatClampNeg) - (I (P x0 10) x2.toNatClampNeg)) → zb (nI 0) ∧ Q (nI 0) I P))) : V E d m_Model_sameToken 112 Q 0 [some (.inr x0), some (.inl x1), some (.inl x2), none] [] 112 I P := V_run 33 0 rfl h
set_option maxRecDepth 20000 in
theorem x_Model_sameToken_48 {E : XE} {d : Nat} {Q : Int32 → mI → mP → Prop} {I : mI} {P : mP} (x0 : Nat) (x1 : Int32) (x2 : Int32) (x3 : Int32) (h : kk 112 x0 = (0, 6) ∧ P x0 11 ≠ 0 ∧ (kk 112 (P x0 11)).1 = 1 ∧ vp_in x1 (kk 112 (P x0 11)).2 ∧ kk 112 x0 = (0, 6) ∧ P x0 10 ≠ 0 ∧ (kk 112 (P x0 10)).1 = 1 ∧ vp_in x1 (kk 112 (P x0 10)).2 ∧ (((I (P x0 11) x1.toNatClampNeg) - (I (P x0 10) x1.toNatClampNeg)) ≤ x3 → zb (nI 1) ∧ Q (nI 1) I P) ∧ (¬ ((I (P x0 11) x1.toNatClampNeg) - (I (P x0 10) x1.toNatClampNeg)) ≤ x3 → kk 112 x0 = (0, 6) ∧ P x0 0 ≠ 0 ∧ kk 112 x0 = (0, 6) ∧ P x0 10 ≠ 0 ∧ (kk 112 (P x0 10)).1 = 1 ∧ vp_in x1 (kk 112 (P x0 10)).2 ∧ (kk 112 (P x0 0)).1 = 1 ∧ vp_in ((I (P x0 10) x1.toNatClampNeg) + x3) (kk 112 (P x0 0)).2 ∧ kk 112 x0 = (0, 6) ∧ P x0 0 ≠ 0 ∧ kk 112 x0 = (0, 6) ∧ P x0 10 ≠ 0 ∧ (kk 112 (P x0 10)).1 = 1 ∧ vp_in x2 (kk 112 (P x0 10)).2 ∧ (kk 112 (P x0 0)).1 = 1 ∧ vp_in ((I (P x0 10) x2.toNatClampNeg) + x3) (kk 112 (P x0 0)).2 ∧ ((I (P x0 0) ((I (P x0 10) x1.toNatClampNeg) + x3).toNatClampNeg) = (I (P x0 0) ((I (P x0 10) x2.toNatClampNeg) + x3).toNatClampNeg) → V E d m_Model_sameToken 112 Q 48 [some (.inr x0), some (.inl x1), some (.inl x2), some (.inl (x3 + (nI 1)))] [] 112 I P) ∧ (¬ (I (P x0 0) ((I (P x0 10) x1.toNatClampNeg) + x3).toNatClampNeg) = (I (P x0 0) ((I (P x0 10) x2.toNatClampNeg) + x3).toNatClampNeg) → zb (nI 0) ∧ Q (nI 0) I P))) : V E d m_Model_sameToken 112 Q 48 [some (.inr x0), some (.inl x1), some (.inl x2), some (.inl x3)] [] 112 I P := V_run 35 32 rfl h
set_option maxRecDepth 20000 in
theorem x_Model_rules_0 {E : XE} {d : Nat} {Q : Int32 → mI → mP → Prop} {I : mI} {P : mP} (x0 : Nat) (h : kk 112 x0 = (0, 6) ∧ Q (I x0 5) I P) : V E d m_Model_rules 112 Q 0 [some (.inr x0)] [] 112 I P := V_run 5 0 rfl h
set_option maxRecDepth 20000 in
theorem x_Model_run_0 {E : XE} {d : Nat} {Q : Int32 → mI → mP → Prop} {I : mI} {P : mP} (x0 : Nat) (x1 : Int32) (h : (x1 < (nI 1) → Q (-(nI 1)) I P) ∧ (¬ x1 < (nI 1) → (x1 ≤ (nI 9) → kk 112 x0 = (0, 6) ∧ kk 112 x0 = (0, 6) ∧ V E (d + 1) m_Model_run 112 Q 26 [some (.inr x0), some (.inl x1), some (.inl (I x0 2)), some (.inl (I x0 7)), some (.inl (nI 0)), none, none, none] [] 112 I P) ∧ (¬ x1 ≤ (nI 9) → Q (-(nI 1)) I P))) : V E (d + 1) m_Model_run 112 Q 0 [some (.inr x0), some (.inl x1), none, none, none, none, none, none] [] 112 I P := V_run 17 0 rfl h
set_option maxRecDepth 20000 in
theorem x_Model_run_26 {E : XE} {d : Nat} {Q : Int32 → mI → mP → Prop} {I : mI} {P : mP} (x0 : Nat) (x1 : Int32) (x2 : Int32) (x3 : Int32) (x4 : Int32) (h : kk 112 x0 = (0, 6) ∧ ((I x0 2) ≤ x4 → V E (d + 1) m_Model_run 112 Q 75 [some (.inr x0), some (.inl x1), some (.inl x2), some (.inl x3), some (.inl (nI 0)), some (.inl (nI 1)), none, none] [] 112 I P) ∧ (¬ (I x0 2) ≤ x4 → kk 112 x0 = (0, 6) ∧ P x0 23 ≠ 0 ∧ kk 112 x0 = (0, 6) ∧ P x0 0 ≠ 0 ∧ (kk 112 (P x0 0)).1 = 1 ∧ vp_in x4 (kk 112 (P x0 0)).2 ∧ (kk 112 (P x0 23)).1 = 1 ∧ vp_in x4 (kk 112 (P x0 23)).2 ∧ kk 112 x0 = (0, 6) ∧ P x0 24 ≠ 0 ∧ kk 112 x0 = (0, 6) ∧ P x0 1 ≠ 0 ∧ (kk 112 (P x0 1)).1 = 1 ∧ vp_in x4 (kk 112 (P x0 1)).2 ∧ (kk 112 (P x0 24)).1 = 1 ∧ vp_in x4 (kk 112 (P x0 24)).2 ∧ V E (d + 1) m_Model_run 112 Q 26 [some (.inr x0), some (.inl x1), some (.inl x2), some (.inl x3), some (.inl (x4 + (nI 1))), none, none, none] [] 112 (uI (uI I (P x0 23) x4.toNatClampNeg (I (P x0 0) x4.toNatClampNeg)) (P x0 24) x4.toNatClampNeg ((uI I (P x0 23) x4.toNatClampNeg (I (P x0 0) x4.toNatClampNeg)) (P x0 1) x4.toNatClampNeg)) P)) : V E (d + 1) m_Model_run 112 Q 26 [some (.inr x0), some (.inl x1), some (.inl x2), some (.inl x3), some (.inl x4), none, none, none] [] 112 I P := V_run 25 16 rfl h
set_option maxRecDepth 20000 in
theorem x_Model_run_75 {E : XE} {d : Nat} {Q : Int32 → mI → mP → Prop} {I : mI} {P : mP} (x0 : Nat) (x1 : Int32) (x2 : Int32) (x3 : Int32) (x4 : Int32) (x5 : Int32) (h : (x1 ≤ x4 → kk 112 x0 = (0, 6) ∧ kk 112 x0 = (0, 6) ∧ Q (((uI I x0 8 x4) x0 7) - x3) (uI I x0 8 x4) P) ∧ (¬ x1 ≤ x4 → (x5 = 0 → kk 112 x0 = (0, 6) ∧ kk 112 x0 = (0, 6) ∧ Q (((uI I x0 8 x4) x0 7) - x3) (uI I x0 8 x4) P) ∧ (¬ x5 = 0 → kk 112 x0 = (0, 6) ∧ V E (d + 1) m_Model_run 112 Q 95 [some (.inr x0), some (.inl x1), some (.inl x2), some (.inl x3), some (.inl x4), none, some (.inl (I x0 7)), some (.inl (nI 0))] [] 112 I P))) : V E (d + 1) m_Model_run 112 Q 75 [some (.inr x0), some (.inl x1), some (.inl x2), some (.inl x3), some (.inl x4), some (.inl x5), none, none] [] 112 I P := V_run 15 42 rfl h
set_option maxRecDepth 20000 in
theorem x_Model_run_95 {E : XE} {d : Nat} {Q : Int32 → mI → mP → Prop} {I : mI} {P : mP} (x0 : Nat) (x1 : Int32) (x2 : Int32) (x3 : Int32) (x4 : Int32) (x6 : Int32) (x7 : Int32) (h : kk 112 x0 = (0, 6) ∧ ((I x0 5) ≤ x7 → kk 112 x0 = (0, 6) ∧ ((I x0 7) ≤ x6 → V E (d + 1) m_Model_run 112 Q 144 [some (.inr x0), some (.inl x1), some (.inl x2), some (.inl x3), some (.inl x4), some (.inl (nI 0)), none, none] [] 112 I P) ∧ (¬ (I x0 7) ≤ x6 → V E (d + 1) m_Model_run 112 Q 144 [some (.inr x0), some (.inl x1), some (.inl x2), some (.inl x3), some (.inl x4), some (.inl (nI 1)), none, none] [] 112 I P)) ∧ (¬ (I x0 5) ≤ x7 → kk 112 x0 = (0, 6) ∧ V E d m_Model_pass 112 (fun r1 I1 P1 => (¬ r1 = 0 → V E (d + 1) m_Model_run 112 Q 95 [some (.inr x0), some (.inl x1), some (.inl x2), some (.inl x3), some (.inl x4), none, some (.inl x6), some (.inl (x7 + (nI 1)))] [] 112 I1 P1) ∧ (r1 = 0 → kk 112 x0 = (0, 6) ∧ V E d m_Model_back 112 (fun _ I2 P2 => Q (-(nI 2)) I2 P2) 0 [some (.inr x0), some (.inl x2), some (.inl x3), none] [] 112 I1 P1)) 0 [some (.inr x0), some (.inl x7), none, none, none, none] [] 112 I P)) : V E (d + 1) m_Model_run 112 Q 95 [some (.inr x0), some (.inl x1), some (.inl x2), some (.inl x3), some (.inl x4), none, some (.inl x6), some (.inl x7)] [] 112 I P := V_run 16 52 rfl h
set_option maxRecDepth 20000 in
theorem x_Model_run_144 {E : XE} {d : Nat} {Q : Int32 → mI → mP → Prop} {I : mI} {P : mP} (x0 : Nat) (x1 : Int32) (x2 : Int32) (x3 : Int32) (x4 : Int32) (x5 : Int32) (h : V E (d + 1) m_Model_run 112 Q 75 [some (.inr x0), some (.inl x1), some (.inl x2), some (.inl x3), some (.inl (x4 + (nI 1))), some (.inl x5), none, none] [] 112 I P) : V E (d + 1) m_Model_run 112 Q 144 [some (.inr x0), some (.inl x1), some (.inl x2), some (.inl x3), some (.inl x4), some (.inl x5), none, none] [] 112 I P := V_run 5 76 rfl h
set_option maxRecDepth 20000 in
theorem x_Model_pass_0 {E : XE} {d : Nat} {Q : Int32 → mI → mP → Prop} {I : mI} {P : mP} (x0 : Nat) (x1 : Int32) (h : kk 112 x0 = (0, 6) ∧ P x0 6 ≠ 0 ∧ (kk 112 (P x0 6)).1 = 1 ∧ vp_in x1 (kk 112 (P x0 6)).2 ∧ kk 112 x0 = (0, 6) ∧ V E d m_Model_readRule 112 (fun _ I1 P1 => kk 112 x0 = (0, 6) ∧ V E d m_Model_read 112 (fun _ I2 P2 => kk 112 x0 = (0, 6) ∧ V E d m_Model_nextBehind 112 (fun r3 I3 P3 => V E (d + 1) m_Model_pass 112 Q 33 [some (.inr x0), none, none, some (.inl r3), some (.inl (nI 0)), none] [] 112 I3 P3) 0 [some (.inr x0), some (.inl (nI 0)), none, none] [] 112 I2 P2) 0 [some (.inr x0), none, none, none, none] [] 112 I1 P1) 0 [some (.inr x0), some (.inl ((nI 256) + ((nI 64) * x1))), some (.inl (I (P x0 6) x1.toNatClampNeg))] [] 112 I P) : V E (d + 1) m_Model_pass 112 Q 0 [some (.inr x0), some (.inl x1), none, none, none, none] [] 112 I P := V_run 24 0 rfl h
set_option maxRecDepth 20000 in
theorem x_Model_pass_33 {E : XE} {d : Nat} {Q : Int32 → mI → mP → Prop} {I : mI} {P : mP} (x0 : Nat) (x3 : Int32) (x4 : Int32) (h : ((nI 1000) ≤ x4 → zb (nI 1) ∧ Q (nI 1) I P) ∧ (¬ (nI 1000) ≤ x4 → (x3 < 0 → zb (nI 1) ∧ Q (nI 1) I P) ∧ (¬ x3 < 0 → kk 112 x0 = (0, 6) ∧ V E d m_Model_spanEnd 112 (fun r1 I1 P1 => kk 112 x0 = (0, 6) ∧ P1 x0 10 ≠ 0 ∧ (kk 112 (P1 x0 10)).1 = 1 ∧ vp_in x3 (kk 112 (P1 x0 10)).2 ∧ kk 112 x0 = (0, 6) ∧ V E d m_Model_fitsAt 112 (fun r2 I2 P2 => (r2 = 0 → kk 112 x0 = (0, 6) ∧ V E d m_Model_nextBehind 112 (fun r3 I3 P3 => V E (d + 1) m_Model_pass 112 Q 33 [some (.inr x0), none, none, some (.inl r3), some (.inl (x4 + (nI 1))), none] [] 112 I3 P3) 0 [some (.inr x0), some (.inl r1), none, none] [] 112 I2 P2) ∧ (¬ r2 = 0 → kk 112 x0 = (0, 6) ∧ V E d m_Model_rewrite 112 (fun r4 I4 P4 => (¬ r4 = 0 → kk 112 x0 = (0, 6) ∧ kk 112 x0 = (0, 6) ∧ V E d m_Model_nextBehind 112 (fun r5 I5 P5 => V E (d + 1) m_Model_pass 112 Q 33 [some (.inr x0), none, none, some (.inl r5), some (.inl (x4 + (nI 1))), none] [] 112 I5 P5) 0 [some (.inr x0), some (.inl ((I1 (P1 x0 10) x3.toNatClampNeg) + (I4 x0 22))), none, none] [] 112 I4 P4) ∧ (r4 = 0 → zb (nI 0) ∧ Q (nI 0) I4 P4)) 0 [some (.inr x0), some (.inl x3), none, none, none] [] 112 I2 P2)) 0 [some (.inr x0), some (.inl x3), none, none, none] [] 112 I1 P1) 0 [some (.inr x0), some (.inl x3)] [] 112 I P))) : V E (d + 1) m_Model_pass 112 Q 33 [some (.inr x0), none, none, some (.inl x3), some (.inl x4), none] [] 112 I P := V_run 36 21 rfl h
set_option maxRecDepth 20000 in
theorem x_Model_nextBehind_0 {E : XE} {d : Nat} {Q : Int32 → mI → mP → Prop} {I : mI} {P : mP} (x0 : Nat) (x1 : Int32) (h : V E (d + 1) m_Model_nextBehind 112 Q 4 [some (.inr x0), some (.inl x1), some (.inl (-(nI 1))), some (.inl (nI 0))] [] 112 I P) : V E (d + 1) m_Model_nextBehind 112 Q 0 [some (.inr x0), some (.inl x1), none, none] [] 112 I P := V_run 7 0 rfl h
set_option maxRecDepth 20000 in
theorem x_Model_nextBehind_4 {E : XE} {d : Nat} {Q : Int32 → mI → mP → Prop} {I : mI} {P : mP} (x0 : Nat) (x1 : Int32) (x2 : Int32) (x3 : Int32) (h : kk 112 x0 = (0, 6) ∧ ((I x0 16) ≤ x3 → Q x2 I P) ∧ (¬ (I x0 16) ≤ x3 → kk 112 x0 = (0, 6) ∧ V E d m_Model_begins 112 (fun r1 I1 P1 => (r1 = 0 → V E (d + 1) m_Model_nextBehind 112 Q 4 [some (.inr x0), some (.inl x1), some (.inl x2), some (.inl (x3 + (nI 1)))] [] 112 I1 P1) ∧ (¬ r1 = 0 → kk 112 x0 = (0, 6) ∧ V E d m_Model_spanEnd 112 (fun r2 I2 P2 => (r2 ≤ x1 → V E (d + 1) m_Model_nextBehind 112 Q 4 [some (.inr x0), some (.inl x1), some (.inl x2), some (.inl (x3 + (nI 1)))] [] 112 I2 P2) ∧ (¬ r2 ≤ x1 → (x2 < 0 → V E (d + 1) m_Model_nextBehind 112 Q 4 [some (.inr x0), some (.inl x1), some (.inl x3), some (.inl (x3 + (nI 1)))] [] 112 I2 P2) ∧ (¬ x2 < 0 → kk 112 x0 = (0, 6) ∧ V E d m_Model_spanEnd 112 (fun r3 I3 P3 => kk 112 x0 = (0, 6) ∧ V E d m_Model_spanEnd 112 (fun r4 I4 P4 => (r4 ≤ r3 → V E (d + 1) m_Model_nextBehind 112 Q 4 [some (.inr x0), some (.inl x1), some (.inl x2), some (.inl (x3 + (nI 1)))] [] 112 I4 P4) ∧ (¬ r4 ≤ r3 → V E (d + 1) m_Model_nextBehind 112 Q 4 [some (.inr x0), some (.inl x1), some (.inl x3), some (.inl (x3 + (nI 1)))] [] 112 I4 P4)) 0 [some (.inr x0), some (.inl x2)] [] 112 I3 P3) 0 [some (.inr x0), some (.inl x3)] [] 112 I2 P2))) 0 [some (.inr x0), some (.inl x3)] [] 112 I1 P1)) 0 [some (.inr x0), some (.inl x3)] [] 112 I P)) : V E (d + 1) m_Model_nextBehind 112 Q 4 [some (.inr x0), some (.inl x1), some (.inl x2), some (.inl x3)] [] 112 I P := V_run 29 4 rfl h
set_option maxRecDepth 20000 in
theorem x_Model_begins_0 {E : XE} {d : Nat} {Q : Int32 → mI → mP → Prop} {I : mI} {P : mP} (x0 : Nat) (x1 : Int32) (h : kk 112 x0 = (0, 6) ∧ P x0 14 ≠ 0 ∧ (kk 112 (P x0 14)).1 = 2 ∧ vp_in x1 (kk 112 (P x0 14)).2 ∧ ((I (P x0 14) x1.toNatClampNeg) = 0 → zb (nI 0) ∧ Q (nI 0) I P) ∧ (¬ (I (P x0 14) x1.toNatClampNeg) = 0 → kk 112 x0 = (0, 6) ∧ P x0 9 ≠ 0 ∧ (kk 112 (P x0 9)).1 = 1 ∧ vp_in x1 (kk 112 (P x0 9)).2 ∧ ((I (P x0 9) x1.toNatClampNeg) = (nI 1) → zb (nI 1) ∧ Q (nI 1) I P) ∧ (¬ (I (P x0 9) x1.toNatClampNeg) = (nI 1) → kk 112 x0 = (0, 6) ∧ P x0 9 ≠ 0 ∧ (kk 112 (P x0 9)).1 = 1 ∧ vp_in x1 (kk 112 (P x0 9)).2 ∧ (¬ (I (P x0 9) x1.toNatClampNeg) = (nI 2) → zb (nI 0) ∧ Q (nI 0) I P) ∧ ((I (P x0 9) x1.toNatClampNeg) = (nI 2) → zb (nI 1) ∧ Q (nI 1) I P)))) : V E d m_Model_begins 112 Q 0 [some (.inr x0), some (.inl x1)] [] 112 I P := V_run 22 0 rfl h
set_option maxRecDepth 20000 in
theorem x_Model_spanEnd_0 {E : XE} {d : Nat} {Q : Int32 → mI → mP → Prop} {I : mI} {P : mP} (x0 : Nat) (x1 : Int32) (h : kk 112 x0 = (0, 6) ∧ P x0 11 ≠ 0 ∧ kk 112 x0 = (0, 6) ∧ P x0 12 ≠ 0 ∧ (kk 112 (P x0 12)).1 = 1 ∧ vp_in x1 (kk 112 (P x0 12)).2 ∧ (kk 112 (P x0 11)).1 = 1 ∧ vp_in (I (P x0 12) x1.toNatClampNeg) (kk 112 (P x0 11)).2 ∧ Q (I (P x0 11) (I (P x0 12) x1.toNatClampNeg).toNatClampNeg) I P) : V E d m_Model_spanEnd 112 Q 0 [some (.inr x0), some (.inl x1)] [] 112 I P := V_run 10 0 rfl h
set_option maxRecDepth 20000 in
theorem x_Model_fitsAt_0 {E : XE} {d : Nat} {Q : Int32 → mI → mP → Prop} {I : mI} {P : mP} (x0 : Nat) (x1 : Int32) (h : V E (d + 1) m_Model_fitsAt 112 Q 2 [some (.inr x0), some (.inl x1), some (.inl (nI 0)), none, none] [] 112 I P) : V E (d + 1) m_Model_fitsAt 112 Q 0 [some (.inr x0), some (.inl x1), none, none, none] [] 112 I P := V_run 5 0 rfl h
set_option maxRecDepth 20000 in
theorem x_Model_fitsAt_2 {E : XE} {d : Nat} {Q : Int32 → mI → mP → Prop} {I : mI} {P : mP} (x0 : Nat) (x1 : Int32) (x2 : Int32) (h : ((nI 10) ≤ x2 → V E (d + 1) m_Model_fitsAt 112 Q 27 [some (.inr x0), some (.inl x1), some (.inl x1), some (.inl (nI 128)), none] [] 112 I P) ∧ (¬ (nI 10) ≤ x2 → kk 112 x0 = (0, 6) ∧ P x0 19 ≠ 0 ∧ (kk 112 (P x0 19)).1 = 1 ∧ vp_in x2 (kk 112 (P x0 19)).2 ∧ V E (d + 1) m_Model_fitsAt 112 Q 2 [some (.inr x0), some (.inl x1), some (.inl (x2 + (nI 1))), none, none] [] 112 (uI I (P x0 19) x2.toNatClampNeg (-(nI 1))) P)) : V E (d + 1) m_Model_fitsAt 112 Q 2 [some (.inr x0), some (.inl x1), some (.inl x2), none, none] [] 112 I P := V_run 13 2 rfl h
set_option maxRecDepth 20000 in
theorem x_Model_fitsAt_27 {E : XE} {d : Nat} {Q : Int32 → mI → mP → Prop} {I : mI} {P : mP} (x0 : Nat) (x1 : Int32) (x2 : Int32) (x3 : Int32) (h : kk 112 x0 = (0, 6) ∧ P x0 12 ≠ 0 ∧ (kk 112 (P x0 12)).1 = 1 ∧ vp_in (nI 128) (kk 112 (P x0 12)).2 ∧ (((nI 128) + (I (P x0 12) (nI 128).toNatClampNeg)) < x3 → V E (d + 1) m_Model_fitsAt 112 Q 178 [some (.inr x0), some (.inl x1), some (.inl x2), none, none] [] 112 I P) ∧ (¬ ((nI 128) + (I (P x0 12) (nI 128).toNatClampNeg)) < x3 → kk 112 x0 = (0, 6) ∧ P x0 12 ≠ 0 ∧ (kk 112 (P x0 12)).1 = 1 ∧ vp_in x1 (kk 112 (P x0 12)).2 ∧ (x2 ≤ (I (P x0 12) x1.toNatClampNeg) → kk 112 x0 = (0, 6) ∧ P x0 9 ≠ 0 ∧ (kk 112 (P x0 9)).1 = 1 ∧ vp_in x3 (kk 112 (P x0 9)).2 ∧ (¬ (I (P x0 9) x3.toNatClampNeg) = (nI 3) → kk 112 x0 = (0, 6) ∧ V E d m_Model_sameToken 112 (fun r1 I1 P1 => (¬ r1 = 0 → V E (d + 1) m_Model_fitsAt 112 Q 172 [some (.inr x0), some (.inl x1), some (.inl (x2 + (nI 1))), some (.inl x3), none] [] 112 I1 P1) ∧ (r1 = 0 → zb (nI 0) ∧ Q (nI 0) I1 P1)) 0 [some (.inr x0), some (.inl x3), some (.inl x2), none] [] 112 I P) ∧ ((I (P x0 9) x3.toNatClampNeg) = (nI 3) → kk 112 x0 = (0, 6) ∧ P x0 0 ≠ 0 ∧ kk 112 x0 = (0, 6) ∧ P x0 10 ≠ 0 ∧ (kk 112 (P x0 10)).1 = 1 ∧ vp_in x3 (kk 112 (P x0 10)).2 ∧ (kk 112 (P x0 0)).1 = 1 ∧ vp_in ((I (P x0 10) x3.toNatClampNeg) + (nI 1)) (kk 112 (P x0 0)).2 ∧ V E (d + 1) m_Model_fitsAt 112 Q 83 [some (.inr x0), some (.inl x1), some (.inl x2), some (.inl x3), some (.inl ((I (P x0 0) ((I (P x0 10) x3.toNatClampNeg) + (nI 1)).toNatClampNeg) - (nI 48)))] [] 112 I P)) ∧ (¬ x2 ≤ (I (P x0 12) x1.toNatClampNeg) → zb (nI 0) ∧ Q (nI 0) I P))) : V E (d + 1) m_Model_fitsAt 112 Q 27 [some (.inr x0), some (.inl x1), some (.inl x2), some (.inl x3), none] [] 112 I P := V_run 35 16 rfl h
set_option maxRecDepth 20000 in
theorem x_Model_fitsAt_83 {E : XE} {d : Nat} {Q : Int32 → mI → mP → Prop} {I : mI} {P : mP} (x0 : Nat) (x1 : Int32) (x2 : Int32) (x3 : Int32) (x4 : Int32) (h : kk 112 x0 = (0, 6) ∧ V E d m_Model_begins 112 (fun r1 I1 P1 => (r1 = 0 → zb (nI 0) ∧ Q (nI 0) I1 P1) ∧ (¬ r1 = 0 → kk 112 x0 = (0, 6) ∧ P1 x0 19 ≠ 0 ∧ (kk 112 (P1 x0 19)).1 = 1 ∧ vp_in x4 (kk 112 (P1 x0 19)).2 ∧ ((I1 (P1 x0 19) x4.toNatClampNeg) < 0 → V E (d + 1) m_Model_fitsAt 112 Q 118 [some (.inr x0), some (.inl x1), some (.inl x2), some (.inl x3), some (.inl x4)] [] 112 I1 P1) ∧ (¬ (I1 (P1 x0 19) x4.toNatClampNeg) < 0 → kk 112 x0 = (0, 6) ∧ P1 x0 19 ≠ 0 ∧ (kk 112 (P1 x0 19)).1 = 1 ∧ vp_in x4 (kk 112 (P1 x0 19)).2 ∧ kk 112 x0 = (0, 6) ∧ V E d m_Model_sameTokens 112 (fun r2 I2 P2 => (¬ r2 = 0 → V E (d + 1) m_Model_fitsAt 112 Q 118 [some (.inr x0), some (.inl x1), some (.inl x2), some (.inl x3), some (.inl x4)] [] 112 I2 P2) ∧ (r2 = 0 → zb (nI 0) ∧ Q (nI 0) I2 P2)) 0 [some (.inr x0), some (.inl (I1 (P1 x0 19) x4.toNatClampNeg)), some (.inl x2), none] [] 112 I1 P1))) 0 [some (.inr x0), some (.inl x2)] [] 112 I P) : V E (d + 1) m_Model_fitsAt 112 Q 83 [some (.inr x0), some (.inl x1), some (.inl x2), some (.inl x3), some (.inl x4)] [] 112 I P := V_run 21 50 rfl h
set_option maxRecDepth 20000 in
theorem x_Model_fitsAt_118 {E : XE} {d : Nat} {Q : Int32 → mI → mP → Prop} {I : mI} {P : mP} (x0 : Nat) (x1 : Int32) (x2 : Int32) (x3 : Int32) (x4 : Int32) (h : kk 112 x0 = (0, 6) ∧ P x0 19 ≠ 0 ∧ kk 112 x0 = (0, 6) ∧ P x0 19 ≠ 0 ∧ (kk 112 (P x0 19)).1 = 1 ∧ vp_in x4 (kk 112 (P x0 19)).2 ∧ (0 ≤ (I (P x0 19) x4.toNatClampNeg) → kk 112 x0 = (0, 6) ∧ P x0 19 ≠ 0 ∧ (kk 112 (P x0 19)).1 = 1 ∧ vp_in x4 (kk 112 (P x0 19)).2 ∧ (kk 112 (P x0 19)).1 = 1 ∧ vp_in x4 (kk 112 (P x0 19)).2 ∧ V E (d + 1) m_Model_fitsAt 112 Q 146 [some (.inr x0), some (.inl x1), some (.inl x2), some (.inl x3), none] [] 112 (uI I (P x0 19) x4.toNatClampNeg (I (P x0 19) x4.toNatClampNeg)) P) ∧ (¬ 0 ≤ (I (P x0 19) x4.toNatClampNeg) → (kk 112 (P x0 19)).1 = 1 ∧ vp_in x4 (kk 112 (P x0 19)).2 ∧ V E (d + 1) m_Model_fitsAt 112 Q 146 [some (.inr x0), some (.inl x1), some (.inl x2), some (.inl x3), none] [] 112 (uI I (P x0 19) x4.toNatClampNeg x2) P)) : V E (d + 1) m_Model_fitsAt 112 Q 118 [some (.inr x0), some (.inl x1), some (.inl x2), some (.inl x3), some (.inl x4)] [] 112 I P := V_run 16 69 rfl h
set_option maxRecDepth 20000 in
theorem x_Model_fitsAt_146 {E : XE} {d : Nat} {Q : Int32 → mI → mP → Prop} {I : mI} {P : mP} (x0 : Nat) (x1 : Int32) (x2 : Int32) (x3 : Int32) (h : kk 112 x0 = (0, 6) ∧ P x0 12 ≠ 0 ∧ (kk 112 (P x0 12)).1 = 1 ∧ vp_in x2 (kk 112 (P x0 12)).2 ∧ V E (d + 1) m_Model_fitsAt 112 Q 172 [some (.inr x0), some (.inl x1), some (.inl ((I (P x0 12) x2.toNatClampNeg) + (nI 1))), some (.inl x3), none] [] 112 I P) : V E (d + 1) m_Model_fitsAt 112 Q 146 [some (.inr x0), some (.inl x1), some (.inl x2), some (.inl x3), none] [] 112 I P := V_run 11 84 rfl h
set_option maxRecDepth 20000 in
theorem x_Model_fitsAt_172 {E : XE} {d : Nat} {Q : Int32 → mI → mP → Prop} {I : mI} {P : mP} (x0 : Nat) (x1 : Int32) (x2 : Int32) (x3 : Int32) (h : V E (d + 1) m_Model_fitsAt 112 Q 27 [some (.inr x0), some (.inl x1), some (.inl x2), some (.inl (x3 + (nI 1))), none] [] 112 I P) : V E (d + 1) m_Model_fitsAt 112 Q 172 [some (.inr x0), some (.inl x1), some (.inl x2), some (.inl x3), none] [] 112 I P := V_run 5 100 rfl h
set_option maxRecDepth 20000 in
theorem x_Model_fitsAt_178 {E : XE} {d : Nat} {Q : Int32 → mI → mP → Prop} {I : mI} {P : mP} (x0 : Nat) (x1 : Int32) (x2 : Int32) (h : kk 112 x0 = (0, 6) ∧ P x0 12 ≠ 0 ∧ (kk 112 (P x0 12)).1 = 1 ∧ vp_in x1 (kk 112 (P x0 12)).2 ∧ (¬ x2 = ((I (P x0 12) x1.toNatClampNeg) + (nI 1)) → zb (nI 0) ∧ Q (nI 0) I P) ∧ (x2 = ((I (P x0 12) x1.toNatClampNeg) + (nI 1)) → zb (nI 1) ∧ Q (nI 1) I P)) : V E (d + 1) m_Model_fitsAt 112 Q 178 [some (.inr x0), some (.inl x1), some (.inl x2), none, none] [] 112 I P := V_run 13 102 rfl h
set_option maxRecDepth 20000 in
theorem x_Model_sameTokens_0 {E : XE} {d : Nat} {Q : Int32 → mI → mP → Prop} {I : mI} {P : mP} (x0 : Nat) (x1 : Int32) (x2 : Int32) (h : kk 112 x0 = (0, 6) ∧ P x0 12 ≠ 0 ∧ (kk 112 (P x0 12)).1 = 1 ∧ vp_in x1 (kk 112 (P x0 12)).2 ∧ kk 112 x0 = (0, 6) ∧ P x0 12 ≠ 0 ∧ (kk 112 (P x0 12)).1 = 1 ∧ vp_in x2 (kk 112 (P x0 12)).2 ∧ (((I (P x0 12) x1.toNatClampNeg) - x1) = ((I (P x0 12) x2.toNatClampNeg) - x2) → V E (d + 1) m_Model_sameTokens 112 Q 23 [some (.inr x0), some (.inl x1), some (.inl x2), some (.inl (nI 0))] [] 112 I P) ∧ (¬ ((I (P x0 12) x1.toNatClampNeg) - x1) = ((I (P x0 12) x2.toNatClampNeg) - x2) → zb (nI 0) ∧ Q (nI 0) I P)) : V E (d + 1) m_Model_sameTokens 112 Q 0 [some (.inr x0), some (.inl x1), some (.inl x2), none] [] 112 I P := V_run 18 0 rfl h
set_option maxRecDepth 20000 in
theorem x_Model_sameTokens_23 {E : XE} {d : Nat} {Q : Int32 → mI → mP → Prop} {I : mI} {P : mP} (x0 : Nat) (x1 : Int32) (x2 : Int32) (x3 : Int32) (h : kk 112 x0 = (0, 6) ∧ P x0 12 ≠ 0 ∧ (kk 112 (P x0 12)).1 = 1 ∧ vp_in x1 (kk 112 (P x0 12)).2 ∧ (((I (P x0 12) x1.toNatClampNeg) - x1) < x3 → zb (nI 1) ∧ Q (nI 1) I P) ∧ (¬ ((I (P x0 12) x1.toNatClampNeg) - x1) < x3 → kk 112 x0 = (0, 6) ∧ V E d m_Model_sameToken 112 (fun r1 I1 P1 => (¬ r1 = 0 → V E (d + 1) m_Model_sameTokens 112 Q 23 [some (.inr x0), some (.inl x1), some (.inl x2), some (.inl (x3 + (nI 1)))] [] 112 I1 P1) ∧ (r1 = 0 → zb (nI 0) ∧ Q (nI 0) I1 P1)) 0 [some (.inr x0), some (.inl (x1 + x3)), some (.inl (x2 + x3)), none] [] 112 I P)) : V E (d + 1) m_Model_sameTokens 112 Q 23 [some (.inr x0), some (.inl x1), some (.inl x2), some (.inl x3)] [] 112 I P := V_run 22 17 rfl h
set_option maxRecDepth 20000 in
theorem x_Model_rewrite_0 {E : XE} {d : Nat} {Q : Int32 → mI → mP → Prop} {I : mI} {P : mP} (x0 : Nat) (x1 : Int32) (h : kk 112 x0 = (0, 6) ∧ P x0 10 ≠ 0 ∧ (kk 112 (P x0 10)).1 = 1 ∧ vp_in x1 (kk 112 (P x0 10)).2 ∧ kk 112 x0 = (0, 6) ∧ V E d m_Model_spanEnd 112 (fun r1 I1 P1 => kk 112 x0 = (0, 6) ∧ kk 112 x0 = (0, 6) ∧ V E d m_Model_layOut 112 (fun _ I2 P2 => kk 112 x0 = (0, 6) ∧ kk 112 x0 = (0, 6) ∧ ((((I2 x0 2) - (r1 - (I (P x0 10) x1.toNatClampNeg))) + (I2 x0 22)) ≤ (nI 120) → kk 112 x0 = (0, 6) ∧ V E d m_Model_putIn 112 (fun _ I3 P3 => kk 112 x0 = (0, 6) ∧ kk 112 x0 = (0, 6) ∧ kk 112 x0 = (0, 6) ∧ V E d m_Model_read 112 (fun _ I4 P4 => V E (d + 1) m_Model_rewrite 112 Q 66 [some (.inr x0), none, some (.inl (I (P x0 10) x1.toNatClampNeg)), none, some (.inl (nI 0))] [] 112 I4 P4) 0 [some (.inr x0), none, none, none, none] [] 112 (uI I3 x0 7 ((I3 x0 7) + (nI 1))) P3) 0 [some (.inr x0), some (.inl (I (P x0 10) x1.toNatClampNeg)), some (.inl r1), none, none, none] [] 112 I2 P2) ∧ (¬ (((I2 x0 2) - (r1 - (I (P x0 10) x1.toNatClampNeg))) + (I2 x0 22)) ≤ (nI 120) → zb (nI 0) ∧ Q (nI 0) I2 P2)) 0 [some (.inr x0), some (.inl ((I1 x0 7) + (nI 1))), none, none, none, none] [] 112 I1 P1) 0 [some (.inr x0), some (.inl x1)] [] 112 I P) : V E (d + 1) m_Model_rewrite 112 Q 0 [some (.inr x0), some (.inl x1), none, none, none] [] 112 I P := V_run 43 0 rfl h
set_option maxRecDepth 20000 in
theorem x_Model_rewrite_66 {E : XE} {d : Nat} {Q : Int32 → mI → mP → Prop} {I : mI} {P : mP} (x0 : Nat) (x2 : Int32) (x4 : Int32) (h : kk 112 x0 = (0, 6) ∧ P x0 10 ≠ 0 ∧ (kk 112 (P x0 10)).1 = 1 ∧ vp_in x4 (kk 112 (P x0 10)).2 ∧ ((I (P x0 10) x4.toNatClampNeg) = x2 → kk 112 x0 = (0, 6) ∧ P x0 14 ≠ 0 ∧ (kk 112 (P x0 14)).1 = 2 ∧ vp_in x4 (kk 112 (P x0 14)).2 ∧ zb (I (P x0 14) x4.toNatClampNeg) ∧ Q (I (P x0 14) x4.toNatClampNeg) I P) ∧ (¬ (I (P x0 10) x4.toNatClampNeg) = x2 → V E (d + 1) m_Model_rewrite 112 Q 66 [some (.inr x0), none, some (.inl x2), none, some (.inl (x4 + (nI 1)))] [] 112 I P)) : V E (d + 1) m_Model_rewrite 112 Q 66 [some (.inr x0), none, some (.inl x2), none, some (.inl x4)] [] 112 I P := V_run 13 42 rfl h
set_option maxRecDepth 20000 in
theorem x_Model_layOut_0 {E : XE} {d : Nat} {Q : Int32 → mI → mP → Prop} {I : mI} {P : mP} (x0 : Nat) (x1 : Int32) (h : kk 112 x0 = (0, 6) ∧ P x0 12 ≠ 0 ∧ (kk 112 (P x0 12)).1 = 1 ∧ vp_in (nI 128) (kk 112 (P x0 12)).2 ∧ kk 112 x0 = (0, 6) ∧ V E (d + 1) m_Model_layOut 112 Q 22 [some (.inr x0), some (.inl x1), some (.inl (((nI 128) + (I (P x0 12) (nI 128).toNatClampNeg)) + (nI 2))), some (.inl (((nI 128) + (I (P x0 12) (nI 128).toNatClampNeg)) + (nI 2))), none, none] [] 112 (uI I x0 22 (nI 0)) P) : V E (d + 1) m_Model_layOut 112 Q 0 [some (.inr x0), some (.inl x1), none, none, none, none] [] 112 I P := V_run 17 0 rfl h
set_option maxRecDepth 20000 in
theorem x_Model_layOut_22 {E : XE} {d : Nat} {Q : Int32 → mI → mP → Prop} {I : mI} {P : mP} (x0 : Nat) (x1 : Int32) (x2 : Int32) (x3 : Int32) (h : kk 112 x0 = (0, 6) ∧ (((nI 128) + (I x0 18)) ≤ x3 → Q (nI 0) I P) ∧ (¬ ((nI 128) + (I x0 18)) ≤ x3 → (x3 ≤ x2 → kk 112 x0 = (0, 6) ∧ P x0 10 ≠ 0 ∧ (kk 112 (P x0 10)).1 = 1 ∧ vp_in x3 (kk 112 (P x0 10)).2 ∧ V E (d + 1) m_Model_layOut 112 Q 58 [some (.inr x0), some (.inl x1), some (.inl x2), some (.inl x3), some (.inl (I (P x0 10) x3.toNatClampNeg)), none] [] 112 I P) ∧ (¬ x3 ≤ x2 → kk 112 x0 = (0, 6) ∧ P x0 11 ≠ 0 ∧ (kk 112 (P x0 11)).1 = 1 ∧ vp_in (x3 - (nI 1)) (kk 112 (P x0 11)).2 ∧ V E (d + 1) m_Model_layOut 112 Q 58 [some (.inr x0), some (.inl x1), some (.inl x2), some (.inl x3), some (.inl (I (P x0 11) (x3 - (nI 1)).toNatClampNeg)), none] [] 112 I P))) : V E (d + 1) m_Model_layOut 112 Q 22 [some (.inr x0), some (.inl x1), some (.inl x2), some (.inl x3), none, none] [] 112 I P := V_run 20 14 rfl h
set_option maxRecDepth 20000 in
theorem x_Model_layOut_58 {E : XE} {d : Nat} {Q : Int32 → mI → mP → Prop} {I : mI} {P : mP} (x0 : Nat) (x1 : Int32) (x2 : Int32) (x3 : Int32) (x4 : Int32) (h : kk 112 x0 = (0, 6) ∧ P x0 10 ≠ 0 ∧ (kk 112 (P x0 10)).1 = 1 ∧ vp_in x3 (kk 112 (P x0 10)).2 ∧ ((I (P x0 10) x3.toNatClampNeg) ≤ x4 → kk 112 x0 = (0, 6) ∧ P x0 9 ≠ 0 ∧ (kk 112 (P x0 9)).1 = 1 ∧ vp_in x3 (kk 112 (P x0 9)).2 ∧ (¬ (I (P x0 9) x3.toNatClampNeg) = (nI 3) → kk 112 x0 = (0, 6) ∧ P x0 10 ≠ 0 ∧ (kk 112 (P x0 10)).1 = 1 ∧ vp_in x3 (kk 112 (P x0 10)).2 ∧ V E (d + 1) m_Model_layOut 112 Q 175 [some (.inr x0), some (.inl x1), some (.inl x2), some (.inl x3), some (.inl (I (P x0 10) x3.toNatClampNeg)), none] [] 112 I P) ∧ ((I (P x0 9) x3.toNatClampNeg) = (nI 3) → kk 112 x0 = (0, 6) ∧ P x0 19 ≠ 0 ∧ kk 112 x0 = (0, 6) ∧ P x0 0 ≠ 0 ∧ kk 112 x0 = (0, 6) ∧ P x0 10 ≠ 0 ∧ (kk 112 (P x0 10)).1 = 1 ∧ vp_in x3 (kk 112 (P x0 10)).2 ∧ (kk 112 (P x0 0)).1 = 1 ∧ vp_in ((I (P x0 10) x3.toNatClampNeg) + (nI 1)) (kk 112 (P x0 0)).2 ∧ (kk 112 (P x0 19)).1 = 1 ∧ vp_in ((I (P x0 0) ((I (P x0 10) x3.toNatClampNeg) + (nI 1)).toNatClampNeg) - (nI 48)) (kk 112 (P x0 19)).2 ∧ kk 112 x0 = (0, 6) ∧ P x0 10 ≠ 0 ∧ (kk 112 (P x0 10)).1 = 1 ∧ vp_in (I (P x0 19) ((I (P x0 0) ((I (P x0 10) x3.toNatClampNeg) + (nI 1)).toNatClampNeg) - (nI 48)).toNatClampNeg) (kk 112 (P x0 10)).2 ∧ V E (d + 1) m_Model_layOut 112 Q 129 [some (.inr x0), some (.inl x1), some (.inl x2), some (.inl x3), some (.inl (I (P x0 19) ((I (P x0 0) ((I (P x0 10) x3.toNatClampNeg) + (nI 1)).toNatClampNeg) - (nI 48)).toNatClampNeg)), some (.inl (I (P x0 10) (I (P x0 19) ((I (P x0 0) ((I (P x0 10) x3.toNatClampNeg) + (nI 1)).toNatClampNeg) - (nI 48)).toNatClampNeg).toNatClampNeg))] [] 112 I P)) ∧ (¬ (I (P x0 10) x3.toNatClampNeg) ≤ x4 → kk 112 x0 = (0, 6) ∧ P x0 0 ≠ 0 ∧ (kk 112 (P x0 0)).1 = 1 ∧ vp_in x4 (kk 112 (P x0 0)).2 ∧ kk 112 x0 = (0, 6) ∧ V E d m_Model_put 112 (fun _ I1 P1 => V E (d + 1) m_Model_layOut 112 Q 58 [some (.inr x0), some (.inl x1), some (.inl x2), some (.inl x3), some (.inl (x4 + (nI 1))), none] [] 112 I1 P1) 0 [some (.inr x0), some (.inl (I (P x0 0) x4.toNatClampNeg)), some (.inl x1)] [] 112 I P)) : V E (d + 1) m_Model_layOut 112 Q 58 [some (.inr x0), some (.inl x1), some (.inl x2), some (.inl x3), some (.inl x4), none] [] 112 I P := V_run 35 35 rfl h
set_option maxRecDepth 20000 in
theorem x_Model_layOut_129 {E : XE} {d : Nat} {Q : Int32 → mI → mP → Prop} {I : mI} {P : mP} (x0 : Nat) (x1 : Int32) (x2 : Int32) (x3 : Int32) (x4 : Int32) (x5 : Int32) (h : kk 112 x0 = (0, 6) ∧ V E d m_Model_spanEnd 112 (fun r1 I1 P1 => (r1 ≤ x5 → V E (d + 1) m_Model_layOut 112 Q 22 [some (.inr x0), some (.inl x1), some (.inl x2), some (.inl (x3 + (nI 1))), none, none] [] 112 I1 P1) ∧ (¬ r1 ≤ x5 → kk 112 x0 = (0, 6) ∧ P1 x0 0 ≠ 0 ∧ (kk 112 (P1 x0 0)).1 = 1 ∧ vp_in x5 (kk 112 (P1 x0 0)).2 ∧ kk 112 x0 = (0, 6) ∧ P1 x0 1 ≠ 0 ∧ (kk 112 (P1 x0 1)).1 = 1 ∧ vp_in x5 (kk 112 (P1 x0 1)).2 ∧ kk 112 x0 = (0, 6) ∧ V E d m_Model_put 112 (fun _ I2 P2 => V E (d + 1) m_Model_layOut 112 Q 129 [some (.inr x0), some (.inl x1), some (.inl x2), some (.inl x3), some (.inl x4), some (.inl (x5 + (nI 1)))] [] 112 I2 P2) 0 [some (.inr x0), some (.inl (I1 (P1 x0 0) x5.toNatClampNeg)), some (.inl (I1 (P1 x0 1) x5.toNatClampNeg))] [] 112 I1 P1)) 0 [some (.inr x0), some (.inl x4)] [] 112 I P) : V E (d + 1) m_Model_layOut 112 Q 129 [some (.inr x0), some (.inl x1), some (.inl x2), some (.inl x3), some (.inl x4), some (.inl x5)] [] 112 I P := V_run 20 76 rfl h
set_option maxRecDepth 20000 in
theorem x_Model_layOut_175 {E : XE} {d : Nat} {Q : Int32 → mI → mP → Prop} {I : mI} {P : mP} (x0 : Nat) (x1 : Int32) (x2 : Int32) (x3 : Int32) (x4 : Int32) (h : kk 112 x0 = (0, 6) ∧ P x0 11 ≠ 0 ∧ (kk 112 (P x0 11)).1 = 1 ∧ vp_in x3 (kk 112 (P x0 11)).2 ∧ ((I (P x0 11) x3.toNatClampNeg) ≤ x4 → V E (d + 1) m_Model_layOut 112 Q 22 [some (.inr x0), some (.inl x1), some (.inl x2), some (.inl (x3 + (nI 1))), none, none] [] 112 I P) ∧ (¬ (I (P x0 11) x3.toNatClampNeg) ≤ x4 → kk 112 x0 = (0, 6) ∧ P x0 0 ≠ 0 ∧ (kk 112 (P x0 0)).1 = 1 ∧ vp_in x4 (kk 112 (P x0 0)).2 ∧ kk 112 x0 = (0, 6) ∧ V E d m_Model_put 112 (fun _ I1 P1 => V E (d + 1) m_Model_layOut 112 Q 175 [some (.inr x0), some (.inl x1), some (.inl x2), some (.inl x3), some (.inl (x4 + (nI 1))), none] [] 112 I1 P1) 0 [some (.inr x0), some (.inl (I (P x0 0) x4.toNatClampNeg)), some (.inl x1)] [] 112 I P)) : V E (d + 1) m_Model_layOut 112 Q 175 [some (.inr x0), some (.inl x1), some (.inl x2), some (.inl x3), some (.inl x4), none] [] 112 I P := V_run 18 99 rfl h
set_option maxRecDepth 20000 in
theorem x_Model_put_0 {E : XE} {d : Nat} {Q : Int32 → mI → mP → Prop} {I : mI} {P : mP} (x0 : Nat) (x1 : Int32) (x2 : Int32) (h : kk 112 x0 = (0, 6) ∧ ((nI 120) < (I x0 22) → Q (nI 0) I P) ∧ (¬ (nI 120) < (I x0 22) → kk 112 x0 = (0, 6) ∧ P x0 20 ≠ 0 ∧ kk 112 x0 = (0, 6) ∧ (kk 112 (P x0 20)).1 = 1 ∧ vp_in (I x0 22) (kk 112 (P x0 20)).2 ∧ kk 112 x0 = (0, 6) ∧ P x0 21 ≠ 0 ∧ kk 112 x0 = (0, 6) ∧ (kk 112 (P x0 21)).1 = 1 ∧ vp_in ((uI I (P x0 20) (I x0 22).toNatClampNeg x1) x0 22) (kk 112 (P x0 21)).2 ∧ kk 112 x0 = (0, 6) ∧ kk 112 x0 = (0, 6) ∧ Q (nI 0) (uI (uI (uI I (P x0 20) (I x0 22).toNatClampNeg x1) (P x0 21) ((uI I (P x0 20) (I x0 22).toNatClampNeg x1) x0 22).toNatClampNeg x2) x0 22 (((uI (uI I (P x0 20) (I x0 22).toNatClampNeg x1) (P x0 21) ((uI I (P x0 20) (I x0 22).toNatClampNeg x1) x0 22).toNatClampNeg x2) x0 22) + (nI 1))) P)) : V E d m_Model_put 112 Q 0 [some (.inr x0), some (.inl x1), some (.inl x2)] [] 112 I P := V_run 25 0 rfl h
set_option maxRecDepth 20000 in
theorem x_Model_putIn_0 {E : XE} {d : Nat} {Q : Int32 → mI → mP → Prop} {I : mI} {P : mP} (x0 : Nat) (x1 : Int32) (x2 : Int32) (h : kk 112 x0 = (0, 6) ∧ V E d m_Model_putIn 112 Q 12 [some (.inr x0), some (.inl x1), some (.inl x2), some (.inl ((I x0 22) - (x2 - x1))), some (.inl (nI 0)), none] [] 112 I P) : V E d m_Model_putIn 112 Q 0 [some (.inr x0), some (.inl x1), some (.inl x2), none, none, none] [] 112 I P := V_run 12 0 rfl h
set_option maxRecDepth 20000 in
theorem x_Model_putIn_12 {E : XE} {d : Nat} {Q : Int32 → mI → mP → Prop} {I : mI} {P : mP} (x0 : Nat) (x1 : Int32) (x2 : Int32) (x3 : Int32) (x4 : Int32) (h : kk 112 x0 = (0, 6) ∧ (((I x0 2) - x2) ≤ x4 → V E d m_Model_putIn 112 Q 86 [some (.inr x0), some (.inl x1), none, some (.inl x3), some (.inl (nI 0)), none] [] 112 I P) ∧ (¬ ((I x0 2) - x2) ≤ x4 → (x3 ≤ 0 → V E d m_Model_putIn 112 Q 45 [some (.inr x0), some (.inl x1), some (.inl x2), some (.inl x3), some (.inl x4), some (.inl (x2 + x4))] [] 112 I P) ∧ (¬ x3 ≤ 0 → kk 112 x0 = (0, 6) ∧ V E d m_Model_putIn 112 Q 45 [some (.inr x0), some (.inl x1), some (.inl x2), some (.inl x3), some (.inl x4), some (.inl (((I x0 2) - (nI 1)) - x4))] [] 112 I P))) : V E d m_Model_putIn 112 Q 12 [some (.inr x0), some (.inl x1), some (.inl x2), some (.inl x3), some (.inl x4), none] [] 112 I P := V_run 19 9 rfl h
set_option maxRecDepth 20000 in
theorem x_Model_putIn_45 {E : XE} {d : Nat} {Q : Int32 → mI → mP → Prop} {I : mI} {P : mP} (x0 : Nat) (x1 : Int32) (x2 : Int32) (x3 : Int32) (x4 : Int32) (x5 : Int32) (h : kk 112 x0 = (0, 6) ∧ P x0 0 ≠ 0 ∧ kk 112 x0 = (0, 6) ∧ P x0 0 ≠ 0 ∧ (kk 112 (P x0 0)).1 = 1 ∧ vp_in x5 (kk 112 (P x0 0)).2 ∧ (kk 112 (P x0 0)).1 = 1 ∧ vp_in (x5 + x3) (kk 112 (P x0 0)).2 ∧ kk 112 x0 = (0, 6) ∧ P x0 1 ≠ 0 ∧ kk 112 x0 = (0, 6) ∧ P x0 1 ≠ 0 ∧ (kk 112 (P x0 1)).1 = 1 ∧ vp_in x5 (kk 112 (P x0 1)).2 ∧ (kk 112 (P x0 1)).1 = 1 ∧ vp_in (x5 + x3) (kk 112 (P x0 1)).2 ∧ V E d m_Model_putIn 112 Q 12 [some (.inr x0), some (.inl x1), some (.inl x2), some (.inl x3), some (.inl (x4 + (nI 1))), none] [] 112 (uI (uI I (P x0 0) (x5 + x3).toNatClampNeg (I (P x0 0) x5.toNatClampNeg)) (P x0 1) (x5 + x3).toNatClampNeg ((uI I (P x0 0) (x5 + x3).toNatClampNeg (I (P x0 0) x5.toNatClampNeg)) (P x0 1) x5.toNatClampNeg)) P) : V E d m_Model_putIn 112 Q 45 [some (.inr x0), some (.inl x1), some (.inl x2), some (.inl x3), some (.inl x4), some (.inl x5)] [] 112 I P := V_run 25 28 rfl h
set_option maxRecDepth 20000 in
theorem x_Model_putIn_86 {E : XE} {d : Nat} {Q : Int32 → mI → mP → Prop} {I : mI} {P : mP} (x0 : Nat) (x1 : Int32) (x3 : Int32) (x4 : Int32) (h : kk 112 x0 = (0, 6) ∧ ((I x0 22) ≤ x4 → kk 112 x0 = (0, 6) ∧ kk 112 x0 = (0, 6) ∧ Q (nI 0) (uI I x0 2 ((I x0 2) + x3)) P) ∧ (¬ (I x0 22) ≤ x4 → kk 112 x0 = (0, 6) ∧ P x0 0 ≠ 0 ∧ kk 112 x0 = (0, 6) ∧ P x0 20 ≠ 0 ∧ (kk 112 (P x0 20)).1 = 1 ∧ vp_in x4 (kk 112 (P x0 20)).2 ∧ (kk 112 (P x0 0)).1 = 1 ∧ vp_in (x1 + x4) (kk 112 (P x0 0)).2 ∧ kk 112 x0 = (0, 6) ∧ P x0 1 ≠ 0 ∧ kk 112 x0 = (0, 6) ∧ P x0 21 ≠ 0 ∧ (kk 112 (P x0 21)).1 = 1 ∧ vp_in x4 (kk 112 (P x0 21)).2 ∧ (kk 112 (P x0 1)).1 = 1 ∧ vp_in (x1 + x4) (kk 112 (P x0 1)).2 ∧ V E d m_Model_putIn 112 Q 86 [some (.inr x0), some (.inl x1), none, some (.inl x3), some (.inl (x4 + (nI 1))), none] [] 112 (uI (uI I (P x0 0) (x1 + x4).toNatClampNeg (I (P x0 20) x4.toNatClampNeg)) (P x0 1) (x1 + x4).toNatClampNeg ((uI I (P x0 0) (x1 + x4).toNatClampNeg (I (P x0 20) x4.toNatClampNeg)) (P x0 21) x4.toNatClampNeg)) P)) : V E d m_Model_putIn 112 Q 86 [some (.inr x0), some (.inl x1), none, some (.inl x3), some (.inl x4), none] [] 112 I P := V_run 29 52 rfl h
set_option maxRecDepth 20000 in
theorem x_Model_back_0 {E : XE} {d : Nat} {Q : Int32 → mI → mP → Prop} {I : mI} {P : mP} (x0 : Nat) (x1 : Int32) (x2 : Int32) (h : kk 112 x0 = (0, 6) ∧ kk 112 x0 = (0, 6) ∧ V E d m_Model_back 112 Q 12 [some (.inr x0), none, none, some (.inl (nI 0))] [] 112 (uI (uI I x0 2 x1) x0 7 x2) P) : V E d m_Model_back 112 Q 0 [some (.inr x0), some (.inl x1), some (.inl x2), none] [] 112 I P := V_run 11 0 rfl h
set_option maxRecDepth 20000 in
theorem x_Model_back_12 {E : XE} {d : Nat} {Q : Int32 → mI → mP → Prop} {I : mI} {P : mP} (x0 : Nat) (x3 : Int32) (h : kk 112 x0 = (0, 6) ∧ ((I x0 2) ≤ x3 → Q (nI 0) I P) ∧ (¬ (I x0 2) ≤ x3 → kk 112 x0 = (0, 6) ∧ P x0 0 ≠ 0 ∧ kk 112 x0 = (0, 6) ∧ P x0 23 ≠ 0 ∧ (kk 112 (P x0 23)).1 = 1 ∧ vp_in x3 (kk 112 (P x0 23)).2 ∧ (kk 112 (P x0 0)).1 = 1 ∧ vp_in x3 (kk 112 (P x0 0)).2 ∧ kk 112 x0 = (0, 6) ∧ P x0 1 ≠ 0 ∧ kk 112 x0 = (0, 6) ∧ P x0 24 ≠ 0 ∧ (kk 112 (P x0 24)).1 = 1 ∧ vp_in x3 (kk 112 (P x0 24)).2 ∧ (kk 112 (P x0 1)).1 = 1 ∧ vp_in x3 (kk 112 (P x0 1)).2 ∧ V E d m_Model_back 112 Q 12 [some (.inr x0), none, none, some (.inl (x3 + (nI 1)))] [] 112 (uI (uI I (P x0 0) x3.toNatClampNeg (I (P x0 23) x3.toNatClampNeg)) (P x0 1) x3.toNatClampNeg ((uI I (P x0 0) x3.toNatClampNeg (I (P x0 23) x3.toNatClampNeg)) (P x0 24) x3.toNatClampNeg)) P)) : V E d m_Model_back 112 Q 12 [some (.inr x0), none, none, some (.inl x3)] [] 112 I P := V_run 25 8 rfl h
set_option maxRecDepth 20000 in
theorem x_Model_cycles_0 {E : XE} {d : Nat} {Q : Int32 → mI → mP → Prop} {I : mI} {P : mP} (x0 : Nat) (h : kk 112 x0 = (0, 6) ∧ Q (I x0 8) I P) : V E d m_Model_cycles 112 Q 0 [some (.inr x0)] [] 112 I P := V_run 5 0 rfl h
set_option maxRecDepth 20000 in
theorem x_Model_rewritings_0 {E : XE} {d : Nat} {Q : Int32 → mI → mP → Prop} {I : mI} {P : mP} (x0 : Nat) (h : kk 112 x0 = (0, 6) ∧ Q (I x0 7) I P) : V E d m_Model_rewritings 112 Q 0 [some (.inr x0)] [] 112 I P := V_run 5 0 rfl h
set_option maxRecDepth 20000 in
theorem x_Model_length_0 {E : XE} {d : Nat} {Q : Int32 → mI → mP → Prop} {I : mI} {P : mP} (x0 : Nat) (h : kk 112 x0 = (0, 6) ∧ Q (I x0 2) I P) : V E d m_Model_length 112 Q 0 [some (.inr x0)] [] 112 I P := V_run 5 0 rfl h
set_option maxRecDepth 20000 in
theorem x_Model_at_0 {E : XE} {d : Nat} {Q : Int32 → mI → mP → Prop} {I : mI} {P : mP} (x0 : Nat) (x1 : Int32) (h : (x1 < 0 → Q (-(nI 1)) I P) ∧ (¬ x1 < 0 → kk 112 x0 = (0, 6) ∧ ((I x0 2) ≤ x1 → Q (-(nI 1)) I P) ∧ (¬ (I x0 2) ≤ x1 → kk 112 x0 = (0, 6) ∧ P x0 0 ≠ 0 ∧ (kk 112 (P x0 0)).1 = 1 ∧ vp_in x1 (kk 112 (P x0 0)).2 ∧ Q (I (P x0 0) x1.toNatClampNeg) I P))) : V E d m_Model_at 112 Q 0 [some (.inr x0), some (.inl x1)] [] 112 I P := V_run 14 0 rfl h
set_option maxRecDepth 20000 in
theorem x_Model_mark_0 {E : XE} {d : Nat} {Q : Int32 → mI → mP → Prop} {I : mI} {P : mP} (x0 : Nat) (x1 : Int32) (h : kk 112 x0 = (0, 6) ∧ V E d m_Model_read 112 (fun _ I1 P1 => V E (d + 1) m_Model_mark 112 Q 8 [some (.inr x0), some (.inl x1), some (.inl (-(nI 1))), some (.inl (nI 0))] [] 112 I1 P1) 0 [some (.inr x0), none, none, none, none] [] 112 I P) : V E (d + 1) m_Model_mark 112 Q 0 [some (.inr x0), some (.inl x1), none, none] [] 112 I P := V_run 9 0 rfl h
set_option maxRecDepth 20000 in
theorem x_Model_mark_8 {E : XE} {d : Nat} {Q : Int32 → mI → mP → Prop} {I : mI} {P : mP} (x0 : Nat) (x1 : Int32) (x2 : Int32) (x3 : Int32) (h : kk 112 x0 = (0, 6) ∧ ((I x0 16) ≤ x3 → (0 ≤ x2 → kk 112 x0 = (0, 6) ∧ P x0 1 ≠ 0 ∧ kk 112 x0 = (0, 6) ∧ P x0 10 ≠ 0 ∧ (kk 112 (P x0 10)).1 = 1 ∧ vp_in x2 (kk 112 (P x0 10)).2 ∧ (kk 112 (P x0 1)).1 = 1 ∧ vp_in (I (P x0 10) x2.toNatClampNeg) (kk 112 (P x0 1)).2 ∧ Q (I (P x0 1) (I (P x0 10) x2.toNatClampNeg).toNatClampNeg) I P) ∧ (¬ 0 ≤ x2 → Q (-(nI 1)) I P)) ∧ (¬ (I x0 16) ≤ x3 → kk 112 x0 = (0, 6) ∧ V E d m_Model_begins 112 (fun r1 I1 P1 => (r1 = 0 → V E (d + 1) m_Model_mark 112 Q 8 [some (.inr x0), some (.inl x1), some (.inl x2), some (.inl (x3 + (nI 1)))] [] 112 I1 P1) ∧ (¬ r1 = 0 → kk 112 x0 = (0, 6) ∧ P1 x0 10 ≠ 0 ∧ (kk 112 (P1 x0 10)).1 = 1 ∧ vp_in x3 (kk 112 (P1 x0 10)).2 ∧ (x1 < (I1 (P1 x0 10) x3.toNatClampNeg) → V E (d + 1) m_Model_mark 112 Q 8 [some (.inr x0), some (.inl x1), some (.inl x2), some (.inl (x3 + (nI 1)))] [] 112 I1 P1) ∧ (¬ x1 < (I1 (P1 x0 10) x3.toNatClampNeg) → kk 112 x0 = (0, 6) ∧ V E d m_Model_spanEnd 112 (fun r2 I2 P2 => (r2 ≤ x1 → V E (d + 1) m_Model_mark 112 Q 8 [some (.inr x0), some (.inl x1), some (.inl x2), some (.inl (x3 + (nI 1)))] [] 112 I2 P2) ∧ (¬ r2 ≤ x1 → V E (d + 1) m_Model_mark 112 Q 8 [some (.inr x0), some (.inl x1), some (.inl x3), some (.inl (x3 + (nI 1)))] [] 112 I2 P2)) 0 [some (.inr x0), some (.inl x3)] [] 112 I1 P1))) 0 [some (.inr x0), some (.inl x3)] [] 112 I P)) : V E (d + 1) m_Model_mark 112 Q 8 [some (.inr x0), some (.inl x1), some (.inl x2), some (.inl x3)] [] 112 I P := V_run 26 6 rfl h
set_option maxRecDepth 20000 in
theorem x_Model_statements_0 {E : XE} {d : Nat} {Q : Int32 → mI → mP → Prop} {I : mI} {P : mP} (x0 : Nat) (h : kk 112 x0 = (0, 6) ∧ V E d m_Model_read 112 (fun _ I1 P1 => kk 112 x0 = (0, 6) ∧ Q (I1 x0 17) I1 P1) 0 [some (.inr x0), none, none, none, none] [] 112 I P) : V E (d + 1) m_Model_statements 112 Q 0 [some (.inr x0)] [] 112 I P := V_run 7 0 rfl h
set_option maxRecDepth 20000 in
theorem x_Model_kind_0 {E : XE} {d : Nat} {Q : Int32 → mI → mP → Prop} {I : mI} {P : mP} (x0 : Nat) (x1 : Int32) (h : kk 112 x0 = (0, 6) ∧ V E d m_Model_read 112 (fun _ I1 P1 => (x1 < 0 → Q (-(nI 1)) I1 P1) ∧ (¬ x1 < 0 → kk 112 x0 = (0, 6) ∧ (x1 < (I1 x0 17) → V E (d + 1) m_Model_kind 112 Q 20 [some (.inr x0), some (.inl x1), some (.inl (nI 0))] [] 112 I1 P1) ∧ (¬ x1 < (I1 x0 17) → Q (-(nI 1)) I1 P1))) 0 [some (.inr x0), none, none, none, none] [] 112 I P) : V E (d + 1) m_Model_kind 112 Q 0 [some (.inr x0), some (.inl x1), none] [] 112 I P := V_run 13 0 rfl h
set_option maxRecDepth 20000 in
theorem x_Model_kind_20 {E : XE} {d : Nat} {Q : Int32 → mI → mP → Prop} {I : mI} {P : mP} (x0 : Nat) (x1 : Int32) (x2 : Int32) (h : kk 112 x0 = (0, 6) ∧ P x0 15 ≠ 0 ∧ (kk 112 (P x0 15)).1 = 1 ∧ vp_in x2 (kk 112 (P x0 15)).2 ∧ ((I (P x0 15) x2.toNatClampNeg) = x1 → kk 112 x0 = (0, 6) ∧ P x0 14 ≠ 0 ∧ (kk 112 (P x0 14)).1 = 2 ∧ vp_in x2 (kk 112 (P x0 14)).2 ∧ (¬ (I (P x0 14) x2.toNatClampNeg) = 0 → kk 112 x0 = (0, 6) ∧ P x0 9 ≠ 0 ∧ (kk 112 (P x0 9)).1 = 1 ∧ vp_in x2 (kk 112 (P x0 9)).2 ∧ (¬ (I (P x0 9) x2.toNatClampNeg) = (nI 2) → kk 112 x0 = (0, 6) ∧ P x0 12 ≠ 0 ∧ (kk 112 (P x0 12)).1 = 1 ∧ vp_in x2 (kk 112 (P x0 12)).2 ∧ ((I (P x0 12) x2.toNatClampNeg) ≤ x2 → Q (nI 1) I P) ∧ (¬ (I (P x0 12) x2.toNatClampNeg) ≤ x2 → Q (nI 3) I P)) ∧ ((I (P x0 9) x2.toNatClampNeg) = (nI 2) → Q (nI 2) I P)) ∧ ((I (P x0 14) x2.toNatClampNeg) = 0 → Q (nI 0) I P)) ∧ (¬ (I (P x0 15) x2.toNatClampNeg) = x1 → V E (d + 1) m_Model_kind 112 Q 20 [some (.inr x0), some (.inl x1), some (.inl (x2 + (nI 1)))] [] 112 I P)) : V E (d + 1) m_Model_kind 112 Q 20 [some (.inr x0), some (.inl x1), some (.inl x2)] [] 112 I P := V_run 28 12 rfl h
set_option maxRecDepth 20000 in
theorem x_Model_expressions_0 {E : XE} {d : Nat} {Q : Int32 → mI → mP → Prop} {I : mI} {P : mP} (x0 : Nat) (h : kk 112 x0 = (0, 6) ∧ V E d m_Model_read 112 (fun _ I1 P1 => V E (d + 1) m_Model_expressions 112 Q 8 [some (.inr x0), some (.inl (nI 0)), some (.inl (nI 0))] [] 112 I1 P1) 0 [some (.inr x0), none, none, none, none] [] 112 I P) : V E (d + 1) m_Model_expressions 112 Q 0 [some (.inr x0), none, none] [] 112 I P := V_run 9 0 rfl h
set_option maxRecDepth 20000 in
theorem x_Model_expressions_8 {E : XE} {d : Nat} {Q : Int32 → mI → mP → Prop} {I : mI} {P : mP} (x0 : Nat) (x1 : Int32) (x2 : Int32) (h : kk 112 x0 = (0, 6) ∧ ((I x0 16) ≤ x2 → Q x1 I P) ∧ (¬ (I x0 16) ≤ x2 → kk 112 x0 = (0, 6) ∧ V E d m_Model_begins 112 (fun r1 I1 P1 => (r1 = 0 → V E (d + 1) m_Model_expressions 112 Q 8 [some (.inr x0), some (.inl (x1 + (nI 0))), some (.inl (x2 + (nI 1)))] [] 112 I1 P1) ∧ (¬ r1 = 0 → V E (d + 1) m_Model_expressions 112 Q 8 [some (.inr x0), some (.inl (x1 + (nI 1))), some (.inl (x2 + (nI 1)))] [] 112 I1 P1)) 0 [some (.inr x0), some (.inl x2)] [] 112 I P)) : V E (d + 1) m_Model_expressions 112 Q 8 [some (.inr x0), some (.inl x1), some (.inl x2)] [] 112 I P := V_run 18 6 rfl h
set_option maxRecDepth 20000 in
theorem x_Model_start_0 {E : XE} {d : Nat} {Q : Int32 → mI → mP → Prop} {I : mI} {P : mP} (x0 : Nat) (x1 : Int32) (h : kk 112 x0 = (0, 6) ∧ V E d m_Model_byEnd 112 (fun r1 I1 P1 => (0 ≤ r1 → kk 112 x0 = (0, 6) ∧ P1 x0 10 ≠ 0 ∧ (kk 112 (P1 x0 10)).1 = 1 ∧ vp_in r1 (kk 112 (P1 x0 10)).2 ∧ Q (I1 (P1 x0 10) r1.toNatClampNeg) I1 P1) ∧ (¬ 0 ≤ r1 → Q (-(nI 1)) I1 P1)) 0 [some (.inr x0), some (.inl x1), none, none, none] [] 112 I P) : V E (d + 1) m_Model_start 112 Q 0 [some (.inr x0), some (.inl x1), none] [] 112 I P := V_run 13 0 rfl h
set_option maxRecDepth 20000 in
theorem x_Model_byEnd_0 {E : XE} {d : Nat} {Q : Int32 → mI → mP → Prop} {I : mI} {P : mP} (x0 : Nat) (x1 : Int32) (h : kk 112 x0 = (0, 6) ∧ V E d m_Model_read 112 (fun _ I1 P1 => (0 ≤ x1 → kk 112 x0 = (0, 6) ∧ V E d m_Model_nextBehind 112 (fun r2 I2 P2 => V E (d + 1) m_Model_byEnd 112 Q 18 [some (.inr x0), some (.inl x1), some (.inl r2), none, none] [] 112 I2 P2) 0 [some (.inr x0), some (.inl (nI 0)), none, none] [] 112 I1 P1) ∧ (¬ 0 ≤ x1 → V E (d + 1) m_Model_byEnd 112 Q 18 [some (.inr x0), some (.inl x1), some (.inl (-(nI 1))), none, none] [] 112 I1 P1)) 0 [some (.inr x0), none, none, none, none] [] 112 I P) : V E (d + 1) m_Model_byEnd 112 Q 0 [some (.inr x0), some (.inl x1), none, none, none] [] 112 I P := V_run 11 0 rfl h
set_option maxRecDepth 20000 in
theorem x_Model_byEnd_18 {E : XE} {d : Nat} {Q : Int32 → mI → mP → Prop} {I : mI} {P : mP} (x0 : Nat) (x1 : Int32) (x2 : Int32) (h : V E (d + 1) m_Model_byEnd 112 Q 20 [some (.inr x0), some (.inl x1), some (.inl x2), some (.inl (nI 0)), none] [] 112 I P) : V E (d + 1) m_Model_byEnd 112 Q 18 [some (.inr x0), some (.inl x1), some (.inl x2), none, none] [] 112 I P := V_run 5 10 rfl h
set_option maxRecDepth 20000 in
theorem x_Model_byEnd_20 {E : XE} {d : Nat} {Q : Int32 → mI → mP → Prop} {I : mI} {P : mP} (x0 : Nat) (x1 : Int32) (x2 : Int32) (x3 : Int32) (h : (x1 ≤ x3 → Q x2 I P) ∧ (¬ x1 ≤ x3 → (x2 < 0 → Q x2 I P) ∧ (¬ x2 < 0 → kk 112 x0 = (0, 6) ∧ V E d m_Model_spanEnd 112 (fun r1 I1 P1 => kk 112 x0 = (0, 6) ∧ V E d m_Model_nextBehind 112 (fun r2 I2 P2 => V E (d + 1) m_Model_byEnd 112 Q 20 [some (.inr x0), some (.inl x1), some (.inl r2), some (.inl (x3 + (nI 1))), none] [] 112 I2 P2) 0 [some (.inr x0), some (.inl r1), none, none] [] 112 I1 P1) 0 [some (.inr x0), some (.inl x2)] [] 112 I P))) : V E (d + 1) m_Model_byEnd 112 Q 20 [some (.inr x0), some (.inl x1), some (.inl x2), some (.inl x3), none] [] 112 I P := V_run 18 12 rfl h
set_option maxRecDepth 20000 in
theorem x_Model_end_0 {E : XE} {d : Nat} {Q : Int32 → mI → mP → Prop} {I : mI} {P : mP} (x0 : Nat) (x1 : Int32) (h : kk 112 x0 = (0, 6) ∧ V E d m_Model_byEnd 112 (fun r1 I1 P1 => (0 ≤ r1 → kk 112 x0 = (0, 6) ∧ V E d m_Model_spanEnd 112 (fun r2 I2 P2 => Q r2 I2 P2) 0 [some (.inr x0), some (.inl r1)] [] 112 I1 P1) ∧ (¬ 0 ≤ r1 → Q (-(nI 1)) I1 P1)) 0 [some (.inr x0), some (.inl x1), none, none, none] [] 112 I P) : V E (d + 1) m_Model_end 112 Q 0 [some (.inr x0), some (.inl x1), none] [] 112 I P := V_run 12 0 rfl h
set_option maxRecDepth 20000 in
theorem x_Model_fits_0 {E : XE} {d : Nat} {Q : Int32 → mI → mP → Prop} {I : mI} {P : mP} (x0 : Nat) (x1 : Int32) (h : (x1 < 0 → Q (-(nI 1)) I P) ∧ (¬ x1 < 0 → kk 112 x0 = (0, 6) ∧ (x1 < (I x0 5) → kk 112 x0 = (0, 6) ∧ P x0 6 ≠ 0 ∧ (kk 112 (P x0 6)).1 = 1 ∧ vp_in x1 (kk 112 (P x0 6)).2 ∧ kk 112 x0 = (0, 6) ∧ V E d m_Model_readRule 112 (fun _ I1 P1 => kk 112 x0 = (0, 6) ∧ V E d m_Model_read 112 (fun _ I2 P2 => V E (d + 1) m_Model_fits 112 Q 40 [some (.inr x0), none, some (.inl (nI 0)), some (.inl (nI 0))] [] 112 I2 P2) 0 [some (.inr x0), none, none, none, none] [] 112 I1 P1) 0 [some (.inr x0), some (.inl ((nI 256) + ((nI 64) * x1))), some (.inl (I (P x0 6) x1.toNatClampNeg))] [] 112 I P) ∧ (¬ x1 < (I x0 5) → Q (-(nI 1)) I P))) : V E (d + 1) m_Model_fits 112 Q 0 [some (.inr x0), some (.inl x1), none, none] [] 112 I P := V_run 26 0 rfl h
set_option maxRecDepth 20000 in
theorem x_Model_fits_40 {E : XE} {d : Nat} {Q : Int32 → mI → mP → Prop} {I : mI} {P : mP} (x0 : Nat) (x2 : Int32) (x3 : Int32) (h : kk 112 x0 = (0, 6) ∧ ((I x0 16) ≤ x3 → Q x2 I P) ∧ (¬ (I x0 16) ≤ x3 → kk 112 x0 = (0, 6) ∧ V E d m_Model_begins 112 (fun r1 I1 P1 => (r1 = 0 → V E (d + 1) m_Model_fits 112 Q 40 [some (.inr x0), none, some (.inl x2), some (.inl (x3 + (nI 1)))] [] 112 I1 P1) ∧ (¬ r1 = 0 → kk 112 x0 = (0, 6) ∧ V E d m_Model_fitsAt 112 (fun r2 I2 P2 => (r2 = 0 → V E (d + 1) m_Model_fits 112 Q 40 [some (.inr x0), none, some (.inl x2), some (.inl (x3 + (nI 1)))] [] 112 I2 P2) ∧ (¬ r2 = 0 → V E (d + 1) m_Model_fits 112 Q 40 [some (.inr x0), none, some (.inl (x2 + (nI 1))), some (.inl (x3 + (nI 1)))] [] 112 I2 P2)) 0 [some (.inr x0), some (.inl x3), none, none, none] [] 112 I1 P1)) 0 [some (.inr x0), some (.inl x3)] [] 112 I P)) : V E (d + 1) m_Model_fits 112 Q 40 [some (.inr x0), none, some (.inl x2), some (.inl x3)] [] 112 I P := V_run 18 25 rfl h
set_option maxRecDepth 20000 in
theorem x_Model_distance_0 {E : XE} {d : Nat} {Q : Int32 → mI → mP → Prop} {I : mI} {P : mP} (x0 : Nat) (h : kk 112 x0 = (0, 6) ∧ V E d m_Model_compare 112 (fun _ I1 P1 => kk 112 x0 = (0, 6) ∧ P1 x0 25 ≠ 0 ∧ (kk 112 (P1 x0 25)).1 = 1 ∧ vp_in (nI 0) (kk 112 (P1 x0 25)).2 ∧ Q (I1 (P1 x0 25) (nI 0).toNatClampNeg) I1 P1) 0 [some (.inr x0), none, none, none, none, none, none] [] 112 I P) : V E (d + 1) m_Model_distance 112 Q 0 [some (.inr x0)] [] 112 I P := V_run 9 0 rfl h
set_option maxRecDepth 20000 in
theorem x_Model_compare_0 {E : XE} {d : Nat} {Q : Int32 → mI → mP → Prop} {I : mI} {P : mP} (x0 : Nat) (h : kk 112 x0 = (0, 6) ∧ V E d m_Model_compare 112 Q 5 [some (.inr x0), some (.inl (I x0 3)), none, none, none, none, none] [] 112 I P) : V E d m_Model_compare 112 Q 0 [some (.inr x0), none, none, none, none, none, none] [] 112 I P := V_run 6 0 rfl h
set_option maxRecDepth 20000 in
theorem x_Model_compare_5 {E : XE} {d : Nat} {Q : Int32 → mI → mP → Prop} {I : mI} {P : mP} (x0 : Nat) (x1 : Int32) (h : (x1 < 0 → Q (nI 0) I P) ∧ (¬ x1 < 0 → kk 112 x0 = (0, 6) ∧ V E d m_Model_compare 112 Q 14 [some (.inr x0), some (.inl x1), some (.inl (I x0 2)), none, none, none, none] [] 112 I P)) : V E d m_Model_compare 112 Q 5 [some (.inr x0), some (.inl x1), none, none, none, none, none] [] 112 I P := V_run 8 3 rfl h
set_option maxRecDepth 20000 in
theorem x_Model_compare_14 {E : XE} {d : Nat} {Q : Int32 → mI → mP → Prop} {I : mI} {P : mP} (x0 : Nat) (x1 : Int32) (x2 : Int32) (h : (x2 < 0 → V E d m_Model_compare 112 Q 5 [some (.inr x0), some (.inl (x1 + (-(nI 1)))), none, none, none, none, none] [] 112 I P) ∧ (¬ x2 < 0 → kk 112 x0 = (0, 6) ∧ (¬ x1 = (I x0 3) → kk 112 x0 = (0, 6) ∧ V E d m_Model_compare 112 Q 42 [some (.inr x0), some (.inl x1), some (.inl x2), some (.inl ((I x0 3) - x1)), none, none, none] [] 112 I P) ∧ (x1 = (I x0 3) → kk 112 x0 = (0, 6) ∧ V E d m_Model_compare 112 Q 42 [some (.inr x0), some (.inl x1), some (.inl x2), some (.inl ((I x0 2) - x2)), none, none, none] [] 112 I P))) : V E d m_Model_compare 112 Q 14 [some (.inr x0), some (.inl x1), some (.inl x2), none, none, none, none] [] 112 I P := V_run 15 8 rfl h
set_option maxRecDepth 20000 in
theorem x_Model_compare_42 {E : XE} {d : Nat} {Q : Int32 → mI → mP → Prop} {I : mI} {P : mP} (x0 : Nat) (x1 : Int32) (x2 : Int32) (x3 : Int32) (h : kk 112 x0 = (0, 6) ∧ ((I x0 3) ≤ x1 → V E d m_Model_compare 112 Q 152 [some (.inr x0), some (.inl x1), some (.inl x2), some (.inl x3), none, none, none] [] 112 I P) ∧ (¬ (I x0 3) ≤ x1 → kk 112 x0 = (0, 6) ∧ ((I x0 2) ≤ x2 → V E d m_Model_compare 112 Q 152 [some (.inr x0), some (.inl x1), some (.inl x2), some (.inl x3), none, none, none] [] 112 I P) ∧ (¬ (I x0 2) ≤ x2 → kk 112 x0 = (0, 6) ∧ P x0 25 ≠ 0 ∧ (kk 112 (P x0 25)).1 = 1 ∧ vp_in ((((nI 121) * x1) + (nI 121)) + x2) (kk 112 (P x0 25)).2 ∧ kk 112 x0 = (0, 6) ∧ P x0 25 ≠ 0 ∧ (kk 112 (P x0 25)).1 = 1 ∧ vp_in ((((nI 121) * x1) + x2) + (nI 1)) (kk 112 (P x0 25)).2 ∧ ((I (P x0 25) ((((nI 121) * x1) + x2) + (nI 1)).toNatClampNeg) ≤ (I (P x0 25) ((((nI 121) * x1) + (nI 121)) + x2).toNatClampNeg) → V E d m_Model_compare 112 Q 106 [some (.inr x0), some (.inl x1), some (.inl x2), some (.inl ((nI 1) + (I (P x0 25) ((((nI 121) * x1) + x2) + (nI 1)).toNatClampNeg))), none, none, none] [] 112 I P) ∧ (¬ (I (P x0 25) ((((nI 121) * x1) + x2) + (nI 1)).toNatClampNeg) ≤ (I (P x0 25) ((((nI 121) * x1) + (nI 121)) + x2).toNatClampNeg) → V E d m_Model_compare 112 Q 106 [some (.inr x0), some (.inl x1), some (.inl x2), some (.inl ((nI 1) + (I (P x0 25) ((((nI 121) * x1) + (nI 121)) + x2).toNatClampNeg))), none, none, none] [] 112 I P)))) : V E d m_Model_compare 112 Q 42 [some (.inr x0), some (.inl x1), some (.inl x2), some (.inl x3), none, none, none] [] 112 I P := V_run 41 24 rfl h
set_option maxRecDepth 20000 in
theorem x_Model_compare_106 {E : XE} {d : Nat} {Q : Int32 → mI → mP → Prop} {I : mI} {P : mP} (x0 : Nat) (x1 : Int32) (x2 : Int32) (x3 : Int32) (h : kk 112 x0 = (0, 6) ∧ P x0 25 ≠ 0 ∧ (kk 112 (P x0 25)).1 = 1 ∧ vp_in (((((nI 121) * x1) + (nI 121)) + x2) + (nI 1)) (kk 112 (P x0 25)).2 ∧ kk 112 x0 = (0, 6) ∧ P x0 0 ≠ 0 ∧ (kk 112 (P x0 0)).1 = 1 ∧ vp_in ((nI 128) + x1) (kk 112 (P x0 0)).2 ∧ kk 112 x0 = (0, 6) ∧ P x0 0 ≠ 0 ∧ (kk 112 (P x0 0)).1 = 1 ∧ vp_in x2 (kk 112 (P x0 0)).2 ∧ (¬ (I (P x0 0) ((nI 128) + x1).toNatClampNeg) = (I (P x0 0) x2.toNatClampNeg) → V E d m_Model_compare 112 Q 152 [some (.inr x0), some (.inl x1), some (.inl x2), some (.inl x3), none, none, none] [] 112 I P) ∧ ((I (P x0 0) ((nI 128) + x1).toNatClampNeg) = (I (P x0 0) x2.toNatClampNeg) → (x3 ≤ (I (P x0 25) (((((nI 121) * x1) + (nI 121)) + x2) + (nI 1)).toNatClampNeg) → V E d m_Model_compare 112 Q 152 [some (.inr x0), some (.inl x1), some (.inl x2), some (.inl x3), none, none, none] [] 112 I P) ∧ (¬ x3 ≤ (I (P x0 25) (((((nI 121) * x1) + (nI 121)) + x2) + (nI 1)).toNatClampNeg) → V E d m_Model_compare 112 Q 152 [some (.inr x0), some (.inl x1), some (.inl x2), some (.inl (I (P x0 25) (((((nI 121) * x1) + (nI 121)) + x2) + (nI 1)).toNatClampNeg)), none, none, none] [] 112 I P))) : V E d m_Model_compare 112 Q 106 [some (.inr x0), some (.inl x1), some (.inl x2), some (.inl x3), none, none, none] [] 112 I P := V_run 32 63 rfl h
set_option maxRecDepth 20000 in
theorem x_Model_compare_152 {E : XE} {d : Nat} {Q : Int32 → mI → mP → Prop} {I : mI} {P : mP} (x0 : Nat) (x1 : Int32) (x2 : Int32) (x3 : Int32) (h : kk 112 x0 = (0, 6) ∧ P x0 25 ≠ 0 ∧ (kk 112 (P x0 25)).1 = 1 ∧ vp_in (((nI 121) * x1) + x2) (kk 112 (P x0 25)).2 ∧ V E d m_Model_compare 112 Q 14 [some (.inr x0), some (.inl x1), some (.inl (x2 + (-(nI 1)))), none, none, none, none] [] 112 (uI I (P x0 25) (((nI 121) * x1) + x2).toNatClampNeg x3) P) : V E d m_Model_compare 112 Q 152 [some (.inr x0), some (.inl x1), some (.inl x2), some (.inl x3), none, none, none] [] 112 I P := V_run 14 92 rfl h
set_option maxRecDepth 20000 in
theorem x_Model_step_0 {E : XE} {d : Nat} {Q : Int32 → mI → mP → Prop} {I : mI} {P : mP} (x0 : Nat) (x1 : Int32) (h : kk 112 x0 = (0, 6) ∧ V E d m_Model_compare 112 (fun _ I1 P1 => V E (d + 1) m_Model_step 112 Q 11 [some (.inr x0), some (.inl x1), some (.inl (nI 0)), some (.inl (nI 0)), some (.inl (nI 0)), none, none, none] [] 112 I1 P1) 0 [some (.inr x0), none, none, none, none, none, none] [] 112 I P) : V E (d + 1) m_Model_step 112 Q 0 [some (.inr x0), some (.inl x1), none, none, none, none, none, none] [] 112 I P := V_run 11 0 rfl h
set_option maxRecDepth 20000 in
theorem x_Model_step_11 {E : XE} {d : Nat} {Q : Int32 → mI → mP → Prop} {I : mI} {P : mP} (x0 : Nat) (x1 : Int32) (x2 : Int32) (x3 : Int32) (x4 : Int32) (h : kk 112 x0 = (0, 6) ∧ (x2 < (I x0 3) → kk 112 x0 = (0, 6) ∧ P x0 25 ≠ 0 ∧ (kk 112 (P x0 25)).1 = 1 ∧ vp_in (((nI 121) * x2) + x3) (kk 112 (P x0 25)).2 ∧ kk 112 x0 = (0, 6) ∧ ((I x0 3) ≤ x2 → V E (d + 1) m_Model_step 112 Q 103 [some (.inr x0), some (.inl x1), some (.inl x2), some (.inl x3), some (.inl x4), some (.inl (I (P x0 25) (((nI 121) * x2) + x3).toNatClampNeg)), some (.inl (nI 0)), none] [] 112 I P) ∧ (¬ (I x0 3) ≤ x2 → kk 112 x0 = (0, 6) ∧ ((I x0 2) ≤ x3 → V E (d + 1) m_Model_step 112 Q 103 [some (.inr x0), some (.inl x1), some (.inl x2), some (.inl x3), some (.inl x4), some (.inl (I (P x0 25) (((nI 121) * x2) + x3).toNatClampNeg)), some (.inl (nI 0)), none] [] 112 I P) ∧ (¬ (I x0 2) ≤ x3 → kk 112 x0 = (0, 6) ∧ P x0 0 ≠ 0 ∧ (kk 112 (P x0 0)).1 = 1 ∧ vp_in ((nI 128) + x2) (kk 112 (P x0 0)).2 ∧ kk 112 x0 = (0, 6) ∧ P x0 0 ≠ 0 ∧ (kk 112 (P x0 0)).1 = 1 ∧ vp_in x3 (kk 112 (P x0 0)).2 ∧ (¬ (I (P x0 0) ((nI 128) + x2).toNatClampNeg) = (I (P x0 0) x3.toNatClampNeg) → V E (d + 1) m_Model_step 112 Q 103 [some (.inr x0), some (.inl x1), some (.inl x2), some (.inl x3), some (.inl x4), some (.inl (I (P x0 25) (((nI 121) * x2) + x3).toNatClampNeg)), some (.inl (nI 0)), none] [] 112 I P) ∧ ((I (P x0 0) ((nI 128) + x2).toNatClampNeg) = (I (P x0 0) x3.toNatClampNeg) → kk 112 x0 = (0, 6) ∧ P x0 25 ≠ 0 ∧ (kk 112 (P x0 25)).1 = 1 ∧ vp_in (((((nI 121) * x2) + (nI 121)) + x3) + (nI 1)) (kk 112 (P x0 25)).2 ∧ (¬ (I (P x0 25) (((((nI 121) * x2) + (nI 121)) + x3) + (nI 1)).toNatClampNeg) = (I (P x0 25) (((nI 121) * x2) + x3).toNatClampNeg) → V E (d + 1) m_Model_step 112 Q 103 [some (.inr x0), some (.inl x1), some (.inl x2), some (.inl x3), some (.inl x4), some (.inl (I (P x0 25) (((nI 121) * x2) + x3).toNatClampNeg)), some (.inl (nI 0)), none] [] 112 I P) ∧ ((I (P x0 25) (((((nI 121) * x2) + (nI 121)) + x3) + (nI 1)).toNatClampNeg) = (I (P x0 25) (((nI 121) * x2) + x3).toNatClampNeg) → V E (d + 1) m_Model_step 112 Q 103 [some (.inr x0), some (.inl x1), some (.inl x2), some (.inl x3), some (.inl x4), some (.inl (I (P x0 25) (((nI 121) * x2) + x3).toNatClampNeg)), some (.inl (nI 1)), none] [] 112 I P))))) ∧ (¬ x2 < (I x0 3) → kk 112 x0 = (0, 6) ∧ ((I x0 2) ≤ x3 → Q (-(nI 1)) I P) ∧ (¬ (I x0 2) ≤ x3 → kk 112 x0 = (0, 6) ∧ P x0 25 ≠ 0 ∧ (kk 112 (P x0 25)).1 = 1 ∧ vp_in (((nI 121) * x2) + x3) (kk 112 (P x0 25)).2 ∧ kk 112 x0 = (0, 6) ∧ ((I x0 3) ≤ x2 → V E (d + 1) m_Model_step 112 Q 103 [some (.inr x0), some (.inl x1), some (.inl x2), some (.inl x3), some (.inl x4), some (.inl (I (P x0 25) (((nI 121) * x2) + x3).toNatClampNeg)), some (.inl (nI 0)), none] [] 112 I P) ∧ (¬ (I x0 3) ≤ x2 → kk 112 x0 = (0, 6) ∧ ((I x0 2) ≤ x3 → V E (d + 1) m_Model_step 112 Q 103 [some (.inr x0), some (.inl x1), some (.inl x2), some (.inl x3), some (.inl x4), some (.inl (I (P x0 25) (((nI 121) * x2) + x3).toNatClampNeg)), some (.inl (nI 0)), none] [] 112 I P) ∧ (¬ (I x0 2) ≤ x3 → kk 112 x0 = (0, 6) ∧ P x0 0 ≠ 0 ∧ (kk 112 (P x0 0)).1 = 1 ∧ vp_in ((nI 128) + x2) (kk 112 (P x0 0)).2 ∧ kk 112 x0 = (0, 6) ∧ P x0 0 ≠ 0 ∧ (kk 112 (P x0 0)).1 = 1 ∧ vp_in x3 (kk 112 (P x0 0)).2 ∧ (¬ (I (P x0 0) ((nI 128) + x2).toNatClampNeg) = (I (P x0 0) x3.toNatClampNeg) → V E (d + 1) m_Model_step 112 Q 103 [some (.inr x0), some (.inl x1), some (.inl x2), some (.inl x3), some (.inl x4), some (.inl (I (P x0 25) (((nI 121) * x2) + x3).toNatClampNeg)), some (.inl (nI 0)), none] [] 112 I P) ∧ ((I (P x0 0) ((nI 128) + x2).toNatClampNeg) = (I (P x0 0) x3.toNatClampNeg) → kk 112 x0 = (0, 6) ∧ P x0 25 ≠ 0 ∧ (kk 112 (P x0 25)).1 = 1 ∧ vp_in (((((nI 121) * x2) + (nI 121)) + x3) + (nI 1)) (kk 112 (P x0 25)).2 ∧ (¬ (I (P x0 25) (((((nI 121) * x2) + (nI 121)) + x3) + (nI 1)).toNatClampNeg) = (I (P x0 25) (((nI 121) * x2) + x3).toNatClampNeg) → V E (d + 1) m_Model_step 112 Q 103 [some (.inr x0), some (.inl x1), some (.inl x2), some (.inl x3), some (.inl x4), some (.inl (I (P x0 25) (((nI 121) * x2) + x3).toNatClampNeg)), some (.inl (nI 0)), none] [] 112 I P) ∧ ((I (P x0 25) (((((nI 121) * x2) + (nI 121)) + x3) + (nI 1)).toNatClampNeg) = (I (P x0 25) (((nI 121) * x2) + x3).toNatClampNeg) → V E (d + 1) m_Model_step 112 Q 103 [some (.inr x0), some (.inl x1), some (.inl x2), some (.inl x3), some (.inl x4), some (.inl (I (P x0 25) (((nI 121) * x2) + x3).toNatClampNeg)), some (.inl (nI 1)), none] [] 112 I P))))))) : V E (d + 1) m_Model_step 112 Q 11 [some (.inr x0), some (.inl x1), some (.inl x2), some (.inl x3), some (.inl x4), none, none, none] [] 112 I P := V_run 56 8 rfl h
set_option maxRecDepth 20000 in
theorem x_Model_step_103 {E : XE} {d : Nat} {Q : Int32 → mI → mP → Prop} {I : mI} {P : mP} (x0 : Nat) (x1 : Int32) (x2 : Int32) (x3 : Int32) (x4 : Int32) (x5 : Int32) (x6 : Int32) (h : (¬ x6 = 0 → V E (d + 1) m_Model_step 112 Q 144 [some (.inr x0), some (.inl x1), some (.inl x2), some (.inl x3), some (.inl x4), none, some (.inl x6), some (.inl (nI 0))] [] 112 I P) ∧ (x6 = 0 → kk 112 x0 = (0, 6) ∧ ((I x0 3) ≤ x2 → V E (d + 1) m_Model_step 112 Q 144 [some (.inr x0), some (.inl x1), some (.inl x2), some (.inl x3), some (.inl x4), none, some (.inl x6), some (.inl (nI 0))] [] 112 I P) ∧ (¬ (I x0 3) ≤ x2 → kk 112 x0 = (0, 6) ∧ P x0 25 ≠ 0 ∧ (kk 112 (P x0 25)).1 = 1 ∧ vp_in ((((nI 121) * x2) + (nI 121)) + x3) (kk 112 (P x0 25)).2 ∧ (¬ ((I (P x0 25) ((((nI 121) * x2) + (nI 121)) + x3).toNatClampNeg) + (nI 1)) = x5 → V E (d + 1) m_Model_step 112 Q 144 [some (.inr x0), some (.inl x1), some (.inl x2), some (.inl x3), some (.inl x4), none, some (.inl x6), some (.inl (nI 0))] [] 112 I P) ∧ (((I (P x0 25) ((((nI 121) * x2) + (nI 121)) + x3).toNatClampNeg) + (nI 1)) = x5 → V E (d + 1) m_Model_step 112 Q 144 [some (.inr x0), some (.inl x1), some (.inl x2), some (.inl x3), some (.inl x4), none, some (.inl x6), some (.inl (nI 1))] [] 112 I P)))) : V E (d + 1) m_Model_step 112 Q 103 [some (.inr x0), some (.inl x1), some (.inl x2), some (.inl x3), some (.inl x4), some (.inl x5), some (.inl x6), none] [] 112 I P := V_run 26 62 rfl h
set_option maxRecDepth 20000 in
theorem x_Model_step_144 {E : XE} {d : Nat} {Q : Int32 → mI → mP → Prop} {I : mI} {P : mP} (x0 : Nat) (x1 : Int32) (x2 : Int32) (x3 : Int32) (x4 : Int32) (x6 : Int32) (x7 : Int32) (h : (¬ x4 = x1 → V E (d + 1) m_Model_step 112 Q 201 [some (.inr x0), some (.inl x1), some (.inl x2), some (.inl x3), some (.inl x4), none, some (.inl x6), some (.inl x7)] [] 112 I P) ∧ (x4 = x1 → (x6 = 0 → (x7 = 0 → kk 112 x0 = (0, 6) ∧ P x0 0 ≠ 0 ∧ (kk 112 (P x0 0)).1 = 1 ∧ vp_in x3 (kk 112 (P x0 0)).2 ∧ Q ((nI 3000) + (I (P x0 0) x3.toNatClampNeg)) I P) ∧ (¬ x7 = 0 → kk 112 x0 = (0, 6) ∧ P x0 0 ≠ 0 ∧ (kk 112 (P x0 0)).1 = 1 ∧ vp_in ((nI 128) + x2) (kk 112 (P x0 0)).2 ∧ Q ((nI 2000) + (I (P x0 0) ((nI 128) + x2).toNatClampNeg)) I P)) ∧ (¬ x6 = 0 → kk 112 x0 = (0, 6) ∧ P x0 0 ≠ 0 ∧ (kk 112 (P x0 0)).1 = 1 ∧ vp_in x3 (kk 112 (P x0 0)).2 ∧ Q ((nI 1000) + (I (P x0 0) x3.toNatClampNeg)) I P))) : V E (d + 1) m_Model_step 112 Q 144 [some (.inr x0), some (.inl x1), some (.inl x2), some (.inl x3), some (.inl x4), none, some (.inl x6), some (.inl x7)] [] 112 I P := V_run 19 86 rfl h
set_option maxRecDepth 20000 in
theorem x_Model_step_201 {E : XE} {d : Nat} {Q : Int32 → mI → mP → Prop} {I : mI} {P : mP} (x0 : Nat) (x1 : Int32) (x2 : Int32) (x3 : Int32) (x4 : Int32) (x6 : Int32) (x7 : Int32) (h : (¬ x6 = 0 → V E (d + 1) m_Model_step 112 Q 219 [some (.inr x0), some (.inl x1), some (.inl (x2 + (nI 1))), some (.inl x3), some (.inl x4), none, none, some (.inl x7)] [] 112 I P) ∧ (x6 = 0 → (x7 = 0 → V E (d + 1) m_Model_step 112 Q 219 [some (.inr x0), some (.inl x1), some (.inl (x2 + (nI 0))), some (.inl x3), some (.inl x4), none, none, some (.inl x7)] [] 112 I P) ∧ (¬ x7 = 0 → V E (d + 1) m_Model_step 112 Q 219 [some (.inr x0), some (.inl x1), some (.inl (x2 + (nI 1))), some (.inl x3), some (.inl x4), none, none, some (.inl x7)] [] 112 I P))) : V E (d + 1) m_Model_step 112 Q 201 [some (.inr x0), some (.inl x1), some (.inl x2), some (.inl x3), some (.inl x4), none, some (.inl x6), some (.inl x7)] [] 112 I P := V_run 12 116 rfl h
set_option maxRecDepth 20000 in
theorem x_Model_step_219 {E : XE} {d : Nat} {Q : Int32 → mI → mP → Prop} {I : mI} {P : mP} (x0 : Nat) (x1 : Int32) (x2 : Int32) (x3 : Int32) (x4 : Int32) (x7 : Int32) (h : (x7 = 0 → V E (d + 1) m_Model_step 112 Q 11 [some (.inr x0), some (.inl x1), some (.inl x2), some (.inl (x3 + (nI 1))), some (.inl (x4 + (nI 1))), none, none, none] [] 112 I P) ∧ (¬ x7 = 0 → V E (d + 1) m_Model_step 112 Q 11 [some (.inr x0), some (.inl x1), some (.inl x2), some (.inl (x3 + (nI 0))), some (.inl (x4 + (nI 1))), none, none, none] [] 112 I P)) : V E (d + 1) m_Model_step 112 Q 219 [some (.inr x0), some (.inl x1), some (.inl x2), some (.inl x3), some (.inl x4), none, none, some (.inl x7)] [] 112 I P := V_run 12 126 rfl h
set_option maxRecDepth 20000 in
theorem x_Law_law_0 {E : XE} {d : Nat} {Q : Int32 → mI → mP → Prop} {I : mI} {P : mP} (x0 : Nat) (h : kd 2 = (0, 0) ∧ 2 < 112 ∧ 95 ≤ 112 ∧ V E d m_RR_init 95 (fun _ I1 P1 => kd 95 = (0, 6) ∧ 95 < 112 ∧ 112 ≤ 112 ∧ V E d m_Model_init 112 (fun _ I2 P2 => V E (d + 1) m_Law_law 112 Q 18 [some (.inr x0), some (.inr 2), some (.inr 95), some (.inl (nI 0))] [] 112 I2 P2) 0 [some (.inr 95)] [] 96 (sI I1 95 fun _ => 0) (sP P1 95 fun _ => 0)) 0 [some (.inr 2), none] [] 3 (sI I 2 fun _ => 0) (sP P 2 fun _ => 0)) : V E (d + 1) m_Law_law 112 Q 0 [some (.inr x0), none, none, none] [] 2 I P := V_run 13 0 rfl h
set_option maxRecDepth 20000 in
theorem x_Law_law_18 {E : XE} {d : Nat} {Q : Int32 → mI → mP → Prop} {I : mI} {P : mP} (x0 : Nat) (x1 : Nat) (x2 : Nat) (x3 : Int32) (h : x0 = 1 ∧ (((nI (xL E)) - (nI 2)) < x3 → zb (nI 1) ∧ Q (nI 1) I P) ∧ (¬ ((nI (xL E)) - (nI 2)) < x3 → x0 = 1 ∧ vp_in x3 (xL E) ∧ (((xx E x3.toNatClampNeg) &&& (nI 31)) = nI 0 → x0 = 1 ∧ vp_in (x3 + (nI 1)) (xL E) ∧ kk 112 x1 = (0, 0) ∧ V E d m_RR_type 112 (fun r39 I39 P39 => x0 = 1 ∧ vp_in (x3 + (nI 1)) (xL E) ∧ kk 112 x2 = (0, 6) ∧ V E d m_Model_type 112 (fun r40 I40 P40 => (r39 = r40 → V E (d + 1) m_Law_law 112 Q 18 [some (.inr x0), some (.inr x1), some (.inr x2), some (.inl (x3 + (nI 2)))] [] 112 I40 P40) ∧ (¬ r39 = r40 → zb (nI 0) ∧ Q (nI 0) I40 P40)) 0 [some (.inr x2), some (.inl (xx E (x3 + (nI 1)).toNatClampNeg))] [] 112 I39 P39) 0 [some (.inr x1), some (.inl (xx E (x3 + (nI 1)).toNatClampNeg)), none] [] 112 I P) ∧ (¬ ((xx E x3.toNatClampNeg) &&& (nI 31)) = nI 0 → (((xx E x3.toNatClampNeg) &&& (nI 31)) = nI 1 → kk 112 x1 = (0, 0) ∧ V E d m_RR_clear 112 (fun _ I37 P37 => kk 112 x2 = (0, 6) ∧ V E d m_Model_clear 112 (fun _ I38 P38 => V E (d + 1) m_Law_law 112 Q 18 [some (.inr x0), some (.inr x1), some (.inr x2), some (.inl (x3 + (nI 2)))] [] 112 I38 P38) 0 [some (.inr x2)] [] 112 I37 P37) 0 [some (.inr x1)] [] 112 I P) ∧ (¬ ((xx E x3.toNatClampNeg) &&& (nI 31)) = nI 1 → (((xx E x3.toNatClampNeg) &&& (nI 31)) = nI 2 → kk 112 x1 = (0, 0) ∧ V E d m_RR_buffered 112 (fun r35 I35 P35 => kk 112 x2 = (0, 6) ∧ V E d m_Model_buffered 112 (fun r36 I36 P36 => (r35 = r36 → V E (d + 1) m_Law_law 112 Q 18 [some (.inr x0), some (.inr x1), some (.inr x2), some (.inl (x3 + (nI 2)))] [] 112 I36 P36) ∧ (¬ r35 = r36 → zb (nI 0) ∧ Q (nI 0) I36 P36)) 0 [some (.inr x2)] [] 112 I35 P35) 0 [some (.inr x1)] [] 112 I P) ∧ (¬ ((xx E x3.toNatClampNeg) &&& (nI 31)) = nI 2 → (((xx E x3.toNatClampNeg) &&& (nI 31)) = nI 3 → kk 112 x1 = (0, 0) ∧ V E d m_RR_load 112 (fun r33 I33 P33 => kk 112 x2 = (0, 6) ∧ V E d m_Model_load 112 (fun r34 I34 P34 => (r33 = r34 → V E (d + 1) m_Law_law 112 Q 18 [some (.inr x0), some (.inr x1), some (.inr x2), some (.inl (x3 + (nI 2)))] [] 112 I34 P34) ∧ (¬ r33 = r34 → zb (nI 0) ∧ Q (nI 0) I34 P34)) 0 [some (.inr x2), none] [] 112 I33 P33) 0 [some (.inr x1)] [] 112 I P) ∧ (¬ ((xx E x3.toNatClampNeg) &&& (nI 31)) = nI 3 → (((xx E x3.toNatClampNeg) &&& (nI 31)) = nI 4 → kk 112 x1 = (0, 0) ∧ V E d m_RR_rule 112 (fun r31 I31 P31 => kk 112 x2 = (0, 6) ∧ V E d m_Model_rule 112 (fun r32 I32 P32 => (r31 = r32 → V E (d + 1) m_Law_law 112 Q 18 [some (.inr x0), some (.inr x1), some (.inr x2), some (.inl (x3 + (nI 2)))] [] 112 I32 P32) ∧ (¬ r31 = r32 → zb (nI 0) ∧ Q (nI 0) I32 P32)) 0 [some (.inr x2), none] [] 112 I31 P31) 0 [some (.inr x1)] [] 112 I P) ∧ (¬ ((xx E x3.toNatClampNeg) &&& (nI 31)) = nI 4 → (((xx E x3.toNatClampNeg) &&& (nI 31)) = nI 5 → kk 112 x1 = (0, 0) ∧ V E d m_RR_rules 112 (fun r29 I29 P29 => kk 112 x2 = (0, 6) ∧ V E d m_Model_rules 112 (fun r30 I30 P30 => (r29 = r30 → V E (d + 1) m_Law_law 112 Q 18 [some (.inr x0), some (.inr x1), some (.inr x2), some (.inl (x3 + (nI 2)))] [] 112 I30 P30) ∧ (¬ r29 = r30 → zb (nI 0) ∧ Q (nI 0) I30 P30)) 0 [some (.inr x2)] [] 112 I29 P29) 0 [some (.inr x1)] [] 112 I P) ∧ (¬ ((xx E x3.toNatClampNeg) &&& (nI 31)) = nI 5 → (((xx E x3.toNatClampNeg) &&& (nI 31)) = nI 6 → x0 = 1 ∧ vp_in (x3 + (nI 1)) (xL E) ∧ kk 112 x1 = (0, 0) ∧ V E d m_RR_run 112 (fun r27 I27 P27 => x0 = 1 ∧ vp_in (x3 + (nI 1)) (xL E) ∧ kk 112 x2 = (0, 6) ∧ V E d m_Model_run 112 (fun r28 I28 P28 => (r27 = r28 → V E (d + 1) m_Law_law 112 Q 18 [some (.inr x0), some (.inr x1), some (.inr x2), some (.inl (x3 + (nI 2)))] [] 112 I28 P28) ∧ (¬ r27 = r28 → zb (nI 0) ∧ Q (nI 0) I28 P28)) 0 [some (.inr x2), some (.inl (xx E (x3 + (nI 1)).toNatClampNeg)), none, none, none, none, none, none] [] 112 I27 P27) 0 [some (.inr x1), some (.inl (xx E (x3 + (nI 1)).toNatClampNeg)), none, none, none, none, none] [] 112 I P) ∧ (¬ ((xx E x3.toNatClampNeg) &&& (nI 31)) = nI 6 → (((xx E x3.toNatClampNeg) &&& (nI 31)) = nI 7 → kk 112 x1 = (0, 0) ∧ V E d m_RR_cycles 112 (fun r25 I25 P25 => kk 112 x2 = (0, 6) ∧ V E d m_Model_cycles 112 (fun r26 I26 P26 => (r25 = r26 → V E (d + 1) m_Law_law 112 Q 18 [some (.inr x0), some (.inr x1), some (.inr x2), some (.inl (x3 + (nI 2)))] [] 112 I26 P26) ∧ (¬ r25 = r26 → zb (nI 0) ∧ Q (nI 0) I26 P26)) 0 [some (.inr x2)] [] 112 I25 P25) 0 [some (.inr x1)] [] 112 I P) ∧ (¬ ((xx E x3.toNatClampNeg) &&& (nI 31)) = nI 7 → (((xx E x3.toNatClampNeg) &&& (nI 31)) = nI 8 → kk 112 x1 = (0, 0) ∧ V E d m_RR_rewritings 112 (fun r23 I23 P23 => kk 112 x2 = (0, 6) ∧ V E d m_Model_rewritings 112 (fun r24 I24 P24 => (r23 = r24 → V E (d + 1) m_Law_law 112 Q 18 [some (.inr x0), some (.inr x1), some (.inr x2), some (.inl (x3 + (nI 2)))] [] 112 I24 P24) ∧ (¬ r23 = r24 → zb (nI 0) ∧ Q (nI 0) I24 P24)) 0 [some (.inr x2)] [] 112 I23 P23) 0 [some (.inr x1)] [] 112 I P) ∧ (¬ ((xx E x3.toNatClampNeg) &&& (nI 31)) = nI 8 → (((xx E x3.toNatClampNeg) &&& (nI 31)) = nI 9 → kk 112 x1 = (0, 0) ∧ V E d m_RR_length 112 (fun r21 I21 P21 => kk 112 x2 = (0, 6) ∧ V E d m_Model_length 112 (fun r22 I22 P22 => (r21 = r22 → V E (d + 1) m_Law_law 112 Q 18 [some (.inr x0), some (.inr x1), some (.inr x2), some (.inl (x3 + (nI 2)))] [] 112 I22 P22) ∧ (¬ r21 = r22 → zb (nI 0) ∧ Q (nI 0) I22 P22)) 0 [some (.inr x2)] [] 112 I21 P21) 0 [some (.inr x1)] [] 112 I P) ∧ (¬ ((xx E x3.toNatClampNeg) &&& (nI 31)) = nI 9 → (((xx E x3.toNatClampNeg) &&& (nI 31)) = nI 10 → x0 = 1 ∧ vp_in (x3 + (nI 1)) (xL E) ∧ kk 112 x1 = (0, 0) ∧ V E d m_RR_at 112 (fun r19 I19 P19 => x0 = 1 ∧ vp_in (x3 + (nI 1)) (xL E) ∧ kk 112 x2 = (0, 6) ∧ V E d m_Model_at 112 (fun r20 I20 P20 => (r19 = r20 → V E (d + 1) m_Law_law 112 Q 18 [some (.inr x0), some (.inr x1), some (.inr x2), some (.inl (x3 + (nI 2)))] [] 112 I20 P20) ∧ (¬ r19 = r20 → zb (nI 0) ∧ Q (nI 0) I20 P20)) 0 [some (.inr x2), some (.inl (xx E (x3 + (nI 1)).toNatClampNeg))] [] 112 I19 P19) 0 [some (.inr x1), some (.inl (xx E (x3 + (nI 1)).toNatClampNeg))] [] 112 I P) ∧ (¬ ((xx E x3.toNatClampNeg) &&& (nI 31)) = nI 10 → (((xx E x3.toNatClampNeg) &&& (nI 31)) = nI 11 → x0 = 1 ∧ vp_in (x3 + (nI 1)) (xL E) ∧ kk 112 x1 = (0, 0) ∧ V E d m_RR_mark 112 (fun r17 I17 P17 => x0 = 1 ∧ vp_in (x3 + (nI 1)) (xL E) ∧ kk 112 x2 = (0, 6) ∧ V E d m_Model_mark 112 (fun r18 I18 P18 => (r17 = r18 → V E (d + 1) m_Law_law 112 Q 18 [some (.inr x0), some (.inr x1), some (.inr x2), some (.inl (x3 + (nI 2)))] [] 112 I18 P18) ∧ (¬ r17 = r18 → zb (nI 0) ∧ Q (nI 0) I18 P18)) 0 [some (.inr x2), some (.inl (xx E (x3 + (nI 1)).toNatClampNeg)), none, none] [] 112 I17 P17) 0 [some (.inr x1), some (.inl (xx E (x3 + (nI 1)).toNatClampNeg))] [] 112 I P) ∧ (¬ ((xx E x3.toNatClampNeg) &&& (nI 31)) = nI 11 → (((xx E x3.toNatClampNeg) &&& (nI 31)) = nI 12 → kk 112 x1 = (0, 0) ∧ V E d m_RR_statements 112 (fun r15 I15 P15 => kk 112 x2 = (0, 6) ∧ V E d m_Model_statements 112 (fun r16 I16 P16 => (r15 = r16 → V E (d + 1) m_Law_law 112 Q 18 [some (.inr x0), some (.inr x1), some (.inr x2), some (.inl (x3 + (nI 2)))] [] 112 I16 P16) ∧ (¬ r15 = r16 → zb (nI 0) ∧ Q (nI 0) I16 P16)) 0 [some (.inr x2)] [] 112 I15 P15) 0 [some (.inr x1)] [] 112 I P) ∧ (¬ ((xx E x3.toNatClampNeg) &&& (nI 31)) = nI 12 → (((xx E x3.toNatClampNeg) &&& (nI 31)) = nI 13 → x0 = 1 ∧ vp_in (x3 + (nI 1)) (xL E) ∧ kk 112 x1 = (0, 0) ∧ V E d m_RR_kind 112 (fun r13 I13 P13 => x0 = 1 ∧ vp_in (x3 + (nI 1)) (xL E) ∧ kk 112 x2 = (0, 6) ∧ V E d m_Model_kind 112 (fun r14 I14 P14 => (r13 = r14 → V E (d + 1) m_Law_law 112 Q 18 [some (.inr x0), some (.inr x1), some (.inr x2), some (.inl (x3 + (nI 2)))] [] 112 I14 P14) ∧ (¬ r13 = r14 → zb (nI 0) ∧ Q (nI 0) I14 P14)) 0 [some (.inr x2), some (.inl (xx E (x3 + (nI 1)).toNatClampNeg)), none] [] 112 I13 P13) 0 [some (.inr x1), some (.inl (xx E (x3 + (nI 1)).toNatClampNeg))] [] 112 I P) ∧ (¬ ((xx E x3.toNatClampNeg) &&& (nI 31)) = nI 13 → (((xx E x3.toNatClampNeg) &&& (nI 31)) = nI 14 → kk 112 x1 = (0, 0) ∧ V E d m_RR_expressions 112 (fun r11 I11 P11 => kk 112 x2 = (0, 6) ∧ V E d m_Model_expressions 112 (fun r12 I12 P12 => (r11 = r12 → V E (d + 1) m_Law_law 112 Q 18 [some (.inr x0), some (.inr x1), some (.inr x2), some (.inl (x3 + (nI 2)))] [] 112 I12 P12) ∧ (¬ r11 = r12 → zb (nI 0) ∧ Q (nI 0) I12 P12)) 0 [some (.inr x2), none, none] [] 112 I11 P11) 0 [some (.inr x1)] [] 112 I P) ∧ (¬ ((xx E x3.toNatClampNeg) &&& (nI 31)) = nI 14 → (((xx E x3.toNatClampNeg) &&& (nI 31)) = nI 15 → x0 = 1 ∧ vp_in (x3 + (nI 1)) (xL E) ∧ kk 112 x1 = (0, 0) ∧ V E d m_RR_start 112 (fun r9 I9 P9 => x0 = 1 ∧ vp_in (x3 + (nI 1)) (xL E) ∧ kk 112 x2 = (0, 6) ∧ V E d m_Model_start 112 (fun r10 I10 P10 => (r9 = r10 → V E (d + 1) m_Law_law 112 Q 18 [some (.inr x0), some (.inr x1), some (.inr x2), some (.inl (x3 + (nI 2)))] [] 112 I10 P10) ∧ (¬ r9 = r10 → zb (nI 0) ∧ Q (nI 0) I10 P10)) 0 [some (.inr x2), some (.inl (xx E (x3 + (nI 1)).toNatClampNeg)), none] [] 112 I9 P9) 0 [some (.inr x1), some (.inl (xx E (x3 + (nI 1)).toNatClampNeg))] [] 112 I P) ∧ (¬ ((xx E x3.toNatClampNeg) &&& (nI 31)) = nI 15 → (((xx E x3.toNatClampNeg) &&& (nI 31)) = nI 16 → x0 = 1 ∧ vp_in (x3 + (nI 1)) (xL E) ∧ kk 112 x1 = (0, 0) ∧ V E d m_RR_end 112 (fun r7 I7 P7 => x0 = 1 ∧ vp_in (x3 + (nI 1)) (xL E) ∧ kk 112 x2 = (0, 6) ∧ V E d m_Model_end 112 (fun r8 I8 P8 => (r7 = r8 → V E (d + 1) m_Law_law 112 Q 18 [some (.inr x0), some (.inr x1), some (.inr x2), some (.inl (x3 + (nI 2)))] [] 112 I8 P8) ∧ (¬ r7 = r8 → zb (nI 0) ∧ Q (nI 0) I8 P8)) 0 [some (.inr x2), some (.inl (xx E (x3 + (nI 1)).toNatClampNeg)), none] [] 112 I7 P7) 0 [some (.inr x1), some (.inl (xx E (x3 + (nI 1)).toNatClampNeg))] [] 112 I P) ∧ (¬ ((xx E x3.toNatClampNeg) &&& (nI 31)) = nI 16 → (((xx E x3.toNatClampNeg) &&& (nI 31)) = nI 17 → x0 = 1 ∧ vp_in (x3 + (nI 1)) (xL E) ∧ kk 112 x1 = (0, 0) ∧ V E d m_RR_fits 112 (fun r5 I5 P5 => x0 = 1 ∧ vp_in (x3 + (nI 1)) (xL E) ∧ kk 112 x2 = (0, 6) ∧ V E d m_Model_fits 112 (fun r6 I6 P6 => (r5 = r6 → V E (d + 1) m_Law_law 112 Q 18 [some (.inr x0), some (.inr x1), some (.inr x2), some (.inl (x3 + (nI 2)))] [] 112 I6 P6) ∧ (¬ r5 = r6 → zb (nI 0) ∧ Q (nI 0) I6 P6)) 0 [some (.inr x2), some (.inl (xx E (x3 + (nI 1)).toNatClampNeg)), none, none] [] 112 I5 P5) 0 [some (.inr x1), some (.inl (xx E (x3 + (nI 1)).toNatClampNeg))] [] 112 I P) ∧ (¬ ((xx E x3.toNatClampNeg) &&& (nI 31)) = nI 17 → (((xx E x3.toNatClampNeg) &&& (nI 31)) = nI 18 → kk 112 x1 = (0, 0) ∧ V E d m_RR_distance 112 (fun r3 I3 P3 => kk 112 x2 = (0, 6) ∧ V E d m_Model_distance 112 (fun r4 I4 P4 => (r3 = r4 → V E (d + 1) m_Law_law 112 Q 18 [some (.inr x0), some (.inr x1), some (.inr x2), some (.inl (x3 + (nI 2)))] [] 112 I4 P4) ∧ (¬ r3 = r4 → zb (nI 0) ∧ Q (nI 0) I4 P4)) 0 [some (.inr x2)] [] 112 I3 P3) 0 [some (.inr x1)] [] 112 I P) ∧ (¬ ((xx E x3.toNatClampNeg) &&& (nI 31)) = nI 18 → (((xx E x3.toNatClampNeg) &&& (nI 31)) = nI 19 → x0 = 1 ∧ vp_in (x3 + (nI 1)) (xL E) ∧ kk 112 x1 = (0, 0) ∧ V E d m_RR_step 112 (fun r1 I1 P1 => x0 = 1 ∧ vp_in (x3 + (nI 1)) (xL E) ∧ kk 112 x2 = (0, 6) ∧ V E d m_Model_step 112 (fun r2 I2 P2 => (r1 = r2 → V E (d + 1) m_Law_law 112 Q 18 [some (.inr x0), some (.inr x1), some (.inr x2), some (.inl (x3 + (nI 2)))] [] 112 I2 P2) ∧ (¬ r1 = r2 → zb (nI 0) ∧ Q (nI 0) I2 P2)) 0 [some (.inr x2), some (.inl (xx E (x3 + (nI 1)).toNatClampNeg)), none, none, none, none, none, none] [] 112 I1 P1) 0 [some (.inr x1), some (.inl (xx E (x3 + (nI 1)).toNatClampNeg))] [] 112 I P) ∧ (¬ ((xx E x3.toNatClampNeg) &&& (nI 31)) = nI 19 → V E (d + 1) m_Law_law 112 Q 18 [some (.inr x0), some (.inr x1), some (.inr x2), some (.inl (x3 + (nI 2)))] [] 112 I P)))))))))))))))))))))) : V E (d + 1) m_Law_law 112 Q 18 [some (.inr x0), some (.inr x1), some (.inr x2), some (.inl x3)] [] 112 I P := V_run 32 10 rfl h
end
section
/-! Leaves of the class Text, and the pure words for them. -/
def bI (b : Bool) : Int32 := match b with
  | true => nI 1
  | false => nI 0
theorem bI_t : bI true = nI 1 := rfl
theorem bI_f : bI false = nI 0 := rfl
theorem bI_z {b : Bool} : bI b = 0 ↔ b = false := by cases b <;> decide
theorem zb_b (b : Bool) : zb (bI b) := by cases b <;> rfl
theorem nI_t {n : Nat} (h : n < 2 ^ 31) : (nI n).toInt = (n : Int) := nI_toInt h
def isL (x : Int32) : Bool := decide ((97 ≤ x.toInt ∧ x.toInt ≤ 122) ∨ (65 ≤ x.toInt ∧ x.toInt ≤ 90))
def isD (x : Int32) : Bool := decide (48 ≤ x.toInt ∧ x.toInt ≤ 57)
theorem ltn {x : Int32} {n : Nat} (h : n < 2 ^ 31) : x < nI n ↔ x.toInt < n := by rw [Int32.lt_iff_toInt_lt, nI_t h]
theorem nlt {x : Int32} {n : Nat} (h : n < 2 ^ 31) : nI n < x ↔ (n : Int) < x.toInt := by rw [Int32.lt_iff_toInt_lt, nI_t h]
theorem len {x : Int32} {n : Nat} (h : n < 2 ^ 31) : x ≤ nI n ↔ x.toInt ≤ n := by rw [Int32.le_iff_toInt_le, nI_t h]
theorem nle {x : Int32} {n : Nat} (h : n < 2 ^ 31) : nI n ≤ x ↔ (n : Int) ≤ x.toInt := by rw [Int32.le_iff_toInt_le, nI_t h]
theorem eqn {x : Int32} {n : Nat} (h : n < 2 ^ 31) : x = nI n ↔ x.toInt = n := by rw [← Int32.toInt_inj, nI_t h]
section LF
variable {E : XE} {d : Nat} {Q : Int32 → mI → mP → Prop} {I : mI} {P : mP}
theorem s_isLetter {x : Int32} (h : Q (bI (isL x)) I P) : V E d m_Text_isLetter 112 Q 0 [some (.inl x)] [] 112 I P := by
  refine x_Text_isLetter_0 x ?_
  simp only [ltn (n := 97) (by decide), ltn (n := 65) (by decide), nlt (n := 90) (by decide), len (n := 122) (by decide)]
  have ht : (97 ≤ x.toInt ∧ x.toInt ≤ 122) ∨ (65 ≤ x.toInt ∧ x.toInt ≤ 90) → zb (nI 1) ∧ Q (nI 1) I P := fun q => ⟨rfl, by rw [isL, decide_eq_true q] at h; exact h⟩
  have hf : ¬ ((97 ≤ x.toInt ∧ x.toInt ≤ 122) ∨ (65 ≤ x.toInt ∧ x.toInt ≤ 90)) → zb (nI 0) ∧ Q (nI 0) I P := fun q => ⟨rfl, by rw [isL, decide_eq_false q] at h; exact h⟩
  refine ⟨fun a => ⟨fun b => hf (by omega), fun b => ⟨fun c => hf (by omega), fun c => ht (by omega)⟩⟩, fun a => ⟨fun b => ht (by omega), fun b => ⟨fun c => hf (by omega), fun c => ⟨fun e => hf (by omega), fun e => ht (by omega)⟩⟩⟩⟩
theorem s_isDigit {x : Int32} (h : Q (bI (isD x)) I P) : V E d m_Text_isDigit 112 Q 0 [some (.inl x)] [] 112 I P := by
  refine x_Text_isDigit_0 x ?_
  simp only [ltn (n := 48) (by decide), nlt (n := 57) (by decide)]
  have ht : (48 ≤ x.toInt ∧ x.toInt ≤ 57) → zb (nI 1) ∧ Q (nI 1) I P := fun q => ⟨rfl, by rw [isD, decide_eq_true q] at h; exact h⟩
  have hf : ¬ (48 ≤ x.toInt ∧ x.toInt ≤ 57) → zb (nI 0) ∧ Q (nI 0) I P := fun q => ⟨rfl, by rw [isD, decide_eq_false q] at h; exact h⟩
  exact ⟨fun a => hf (by omega), fun a => ⟨fun b => hf (by omega), fun b => ht (by omega)⟩⟩
/-- does a name (kind 1) or a number go on with this character? -/
def gO (k : Nat) (x : Int32) : Bool := isD x || (Nat.beq k 1 && isL x)
theorem bI_ne {b : Bool} : ¬ bI b = 0 ↔ b = true := by cases b <;> decide
theorem bz_i {b : Bool} {A B : Prop} (f : b = false → A) (g : b = true → B) : (bI b = 0 → A) ∧ (¬ bI b = 0 → B) := ⟨fun h => f (bI_z.mp h), fun h => g (bI_ne.mp h)⟩
theorem bn_i {b : Bool} {A B : Prop} (f : b = true → A) (g : b = false → B) : (¬ bI b = 0 → A) ∧ (bI b = 0 → B) := ⟨fun h => f (bI_ne.mp h), fun h => g (bI_z.mp h)⟩
theorem s_goesOn {x : Int32} {k : Nat} (hk : k < 2 ^ 31) (h : Q (bI (gO k x)) I P) : V E (d + 1) m_Text_goesOn 112 Q 0 [some (.inl (nI k)), some (.inl x)] [] 112 I P := by
  refine x_Text_goesOn_0 _ _ (s_isDigit ?_)
  unfold gO at h
  refine bn_i (fun a => ?_) (fun a => ?_)
  · rw [a] at h
    exact ⟨rfl, h⟩
  · rw [a, Bool.false_or] at h
    refine ⟨fun b => ?_, fun b => s_isLetter ?_⟩
    · have : k ≠ 1 := fun e => b (by rw [e])
      rw [show Nat.beq k 1 = false from by cases hb : Nat.beq k 1 with
        | false => rfl
        | true => exact absurd (Nat.eq_of_beq_eq_true hb) this] at h
      exact ⟨rfl, h⟩
    · have e : k = 1 := (nI_eq hk (by decide)).mp b
      subst e
      have h : Q (bI (isL x)) I P := h
      refine bz_i (fun c => ?_) (fun c => ?_)
      · rw [c] at h
        exact ⟨rfl, h⟩
      · rw [c] at h
        exact ⟨rfl, h⟩
end LF
/-- a Text object at cell o, its rows of n behind it -/
def TO (P : mP) (o n : Nat) : Prop := kk 112 o = (0, 3) ∧ (P o 0 = o + 1 ∧ kk 112 (o + 1) = (1, n)) ∧ (P o 1 = o + 2 ∧ kk 112 (o + 2) = (1, n)) ∧ (P o 2 = o + 3 ∧ kk 112 (o + 3) = (1, n)) ∧ (P o 3 = o + 4 ∧ kk 112 (o + 4) = (1, n)) ∧ (P o 4 = o + 5 ∧ kk 112 (o + 5) = (1, n))
theorem nz1 {a k : Nat} : (a + (k + 1) ≠ 0) = True := by simp
theorem nzz {a : Nat} (k : Nat) (h : k ≠ 0) : (a + k ≠ 0) = True := by simp [h]
theorem clp {n : Nat} (h : n < 2 ^ 31) : (nI n).toNatClampNeg = n := nI_clamp h
section LT
variable {E : XE} {d : Nat} {Q : Int32 → mI → mP → Prop} {I : mI} {P : mP} {o N : Nat}
/-- the kind of token t (a Nat; -1 where there is none) -/
theorem s_kindAt (hT : TO P o N) {n : Nat} (hN : N < 2 ^ 31) (hn : I o 6 = nI n) (hnN : n ≤ N) {x : Int32} (h0 : ∀ t, t < n → x = nI t → Q (I (o + 3) t) I P) (h1 : (∀ t, t < n → x ≠ nI t) → Q (-(nI 1)) I P) : V E d m_Text_kindAt 112 Q 0 [some (.inr o), some (.inl x)] [] 112 I P := by
  obtain ⟨t0, -, -, ⟨p2, k2⟩, -⟩ := hT
  refine x_Text_kindAt_0 _ _ ?_
  rw [hn]
  simp only [t0, p2, k2, nzz 3 (by decide), true_and]
  rcases pk_ix x (n := n) (by omega) with hx | hx | ⟨t, ht, rfl⟩
  · refine ⟨fun _ => h1 (fun t ht e => ?_), fun a => absurd hx a⟩
    rw [e] at hx
    exact nI_pos (by omega) hx
  · have hx0 : ¬ x < 0 := fun q => by
      rw [Int32.lt_iff_toInt_lt] at q
      rw [nle (by omega)] at hx
      simp at q
      omega
    refine ⟨fun a => absurd a hx0, fun _ => ⟨fun _ => h1 (fun t ht e => ?_), fun a => absurd hx a⟩⟩
    rw [e] at hx
    rw [nI_leI (by omega) (by omega)] at hx
    omega
  · refine ⟨fun a => absurd a (nI_pos (by omega)), fun _ => ⟨fun a => ?_, fun _ => ⟨vp_in_nI (by omega) hN, ?_⟩⟩⟩
    · rw [nI_leI (by omega) (by omega)] at a
      omega
    · rw [clp (by omega)]
      exact h0 t ht rfl
end LT
end
section
/-! Reading of characters into tokens, purely. -/
def isSp (c : Int32) : Bool := c == nI 32 || c == nI 10
/-- the kind of the token that begins with c, before r -/
def tkK (c : Int32) (r : List Int32) : Nat :=
  if isL c = true then 1 else if isD c = true then 2 else if c = nI 36 then (match r with
    | x :: _ => if isD x = true then 3 else 9
    | [] => 9) else if c = nI 40 then 4 else if c = nI 41 then 5 else if c = nI 44 then 6 else if c = nI 59 then 7 else if c = nI 62 then 8 else 9
/-- how many of the first of a list -/
def tw (p : Int32 → Bool) : List Int32 → Nat
  | [] => 0
  | c :: r => if p c = true then tw p r + 1 else 0
theorem tw_le (p : Int32 → Bool) : ∀ r, tw p r ≤ r.length
  | [] => Nat.le_refl _
  | c :: r => by
    unfold tw
    split
    · exact Nat.succ_le_succ (tw_le p r)
    · exact Nat.zero_le _
def tkN (k : Nat) (r : List Int32) : Nat := if k = 3 then 1 else if k = 1 ∨ k = 2 then tw (gO k) r else 0
def cmL (r : List Int32) : Nat := tw (fun x => !(x == nI 10)) r
abbrev ItC : Type := List Int32 × Nat × List Int32
def lx : Nat → List Int32 → List Int32 → List ItC × List Int32
  | 0, _, sp => ([], sp)
  | _ + 1, [], sp => ([], sp)
  | n + 1, c :: r, sp => if isSp c = true then lx n r (sp ++ [c]) else if c = nI 35 then lx n (r.drop (cmL r)) (sp ++ c :: r.take (cmL r)) else
    ((sp, tkK c r, c :: r.take (tkN (tkK c r) r)) :: (lx n (r.drop (tkN (tkK c r) r)) []).1, (lx n (r.drop (tkN (tkK c r) r)) []).2)
theorem lx_cons (n : Nat) (c : Int32) (r sp : List Int32) : lx (n + 1) (c :: r) sp = if isSp c = true then lx n r (sp ++ [c]) else if c = nI 35 then lx n (r.drop (cmL r)) (sp ++ c :: r.take (cmL r)) else
    ((sp, tkK c r, c :: r.take (tkN (tkK c r) r)) :: (lx n (r.drop (tkN (tkK c r) r)) []).1, (lx n (r.drop (tkN (tkK c r) r)) []).2) := rfl
theorem lx_nil (n : Nat) (sp : List Int32) : lx n [] sp = ([], sp) := by cases n <;> rfl
theorem lx_fuel : ∀ (n m : Nat) (s sp : List Int32), s.length ≤ n → s.length ≤ m → lx n s sp = lx m s sp
  | n, m, [], sp, _, _ => by rw [lx_nil, lx_nil]
  | 0, _, c :: r, _, h, _ => by simp at h
  | _, 0, c :: r, _, _, h => by simp at h
  | n + 1, m + 1, c :: r, sp, hn, hm => by
    have h1 : r.length ≤ n := by simpa using hn
    have h2 : r.length ≤ m := by simpa using hm
    have hd : ∀ k, (r.drop k).length ≤ n ∧ (r.drop k).length ≤ m := fun k => by rw [List.length_drop]; omega
    unfold lx
    split
    · exact lx_fuel n m r _ h1 h2
    · split
      · exact lx_fuel n m _ _ (hd _).1 (hd _).2
      · rw [lx_fuel n m (r.drop (tkN (tkK c r) r)) [] (hd _).1 (hd _).2]
/-- the text again -/
def fl : List ItC → List Int32 → List Int32
  | [], t => t
  | (sp, _, w) :: Z, t => sp ++ (w ++ fl Z t)
theorem fl_app (A B : List ItC) (t : List Int32) : fl (A ++ B) t = fl A (fl B t) := by
  induction A with
  | nil => rfl
  | cons a A ih =>
    obtain ⟨sp, k, w⟩ := a
    show sp ++ (w ++ fl (A ++ B) t) = sp ++ (w ++ fl A (fl B t))
    rw [ih]
/-- space in which every comment has ended -/
def clo : Bool → List Int32 → Bool
  | b, [] => !b
  | false, c :: r => if isSp c = true then clo false r else if c = nI 35 then clo true r else false
  | true, c :: r => if c = nI 10 then clo false r else clo true r
/-- the space at the end of a text -/
def tlo : Bool → List Int32 → Bool
  | _, [] => true
  | false, c :: r => if isSp c = true then tlo false r else if c = nI 35 then tlo true r else false
  | true, c :: r => if c = nI 10 then tlo false r else tlo true r
/-- the token's own characters, and what follows -/
def okw (k : Nat) (w r : List Int32) : Prop := ∃ c cs, w = c :: cs ∧ isSp c = false ∧ c ≠ nI 35 ∧ tkK c (cs ++ r) = k ∧ tkN k (cs ++ r) = cs.length
def LX : List ItC → List Int32 → Prop
  | [], t => tlo false t = true
  | (sp, k, w) :: Z, t => clo false sp = true ∧ okw k w (fl Z t) ∧ LX Z t
theorem tw_stop (p : Int32 → Bool) : ∀ (a r : List Int32), (∀ c ∈ a, p c = true) → (∀ c r', r = c :: r' → p c = false) → tw p (a ++ r) = a.length
  | [], r, _, h => by
    cases r with
    | nil => rfl
    | cons c r' =>
      show (if p c = true then _ else _) = _
      rw [h c r' rfl]
      rfl
  | c :: a, r, h1, h2 => by
    show (if p c = true then tw p (a ++ r) + 1 else 0) = _
    rw [if_pos (h1 c List.mem_cons_self), tw_stop p a r (fun x hx => h1 x (List.mem_cons_of_mem _ hx)) h2]
    rfl
/-- closed space is passed over -/
theorem lx_clo : ∀ (sp r acc : List Int32) (n : Nat), clo false sp = true → (sp ++ r).length ≤ n → ∃ m, r.length ≤ m ∧ lx n (sp ++ r) acc = lx m r (acc ++ sp) := by
  intro sp
  -- by strong induction on the length
  have key : ∀ (k : Nat) (sp r acc : List Int32) (n : Nat), sp.length ≤ k → clo false sp = true → (sp ++ r).length ≤ n → ∃ m, r.length ≤ m ∧ lx n (sp ++ r) acc = lx m r (acc ++ sp) := by
    intro k
    induction k with
    | zero =>
      intro sp r acc n hk _ hn
      have : sp = [] := List.length_eq_zero_iff.mp (by omega)
      subst this
      exact ⟨n, hn, by simp⟩
    | succ k ih =>
      intro sp r acc n hk hc hn
      cases sp with
      | nil => exact ⟨n, hn, by simp⟩
      | cons c sp =>
        cases n with
        | zero => simp at hn
        | succ n =>
          have hn' : (sp ++ r).length ≤ n := by simpa using hn
          have hk' : sp.length ≤ k := by simpa using hk
          unfold clo at hc
          by_cases h1 : isSp c = true
          · rw [if_pos h1] at hc
            obtain ⟨m, hm, he⟩ := ih sp r (acc ++ [c]) n hk' hc hn'
            refine ⟨m, hm, ?_⟩
            show lx (n + 1) (c :: (sp ++ r)) acc = _
            rw [lx_cons, if_pos h1, he]
            simp
          · rw [if_neg h1] at hc
            by_cases h2 : c = nI 35
            · rw [if_pos h2] at hc
              -- the comment: up to its line end, which lies in sp
              have hcom : ∀ (a : List Int32), clo true a = true → ∃ x y, a = x ++ y ∧ (∀ c ∈ x, (!(c == nI 10)) = true) ∧ (∃ y', y = nI 10 :: y') ∧ clo false y = true := by
                intro a
                induction a with
                | nil => intro h; simp [clo] at h
                | cons z a iha =>
                  intro h
                  unfold clo at h
                  by_cases hz : z = nI 10
                  · rw [if_pos hz] at h
                    refine ⟨[], z :: a, rfl, by simp, ⟨a, by rw [hz]⟩, ?_⟩
                    unfold clo
                    rw [if_pos (by unfold isSp; rw [hz]; decide)]
                    exact h
                  · rw [if_neg hz] at h
                    obtain ⟨x, y, e1, e2, e3, e4⟩ := iha h
                    refine ⟨z :: x, y, by rw [e1]; rfl, fun w hw => ?_, e3, e4⟩
                    rcases List.mem_cons.mp hw with rfl | hw
                    · simpa using hz
                    · exact e2 w hw
              obtain ⟨x, y, e1, e2, ⟨y', e3⟩, e4⟩ := hcom sp hc
              have hcl : cmL (sp ++ r) = x.length := by
                unfold cmL
                rw [e1, List.append_assoc]
                exact tw_stop _ x (y ++ r) e2 (fun c r' hr => by
                  rw [e3] at hr
                  cases hr
                  rfl)
              have hy : y.length ≤ k := by have : sp.length = x.length + y.length := by rw [e1, List.length_append]
                                           omega
              have hyn : (y ++ r).length ≤ n := by rw [List.length_append] at hn' ⊢; have : sp.length = x.length + y.length := by rw [e1, List.length_append]
                                                   omega
              obtain ⟨m, hm, he⟩ := ih y r (acc ++ c :: x) n hy e4 hyn
              refine ⟨m, hm, ?_⟩
              show lx (n + 1) (c :: (sp ++ r)) acc = _
              rw [lx_cons, if_neg h1, if_pos h2, hcl, e1, List.append_assoc, List.drop_left, List.take_left, he]
              simp
            · rw [if_neg h2] at hc
              cases hc
  exact fun r acc n => key sp.length sp r acc n (Nat.le_refl _)
theorem lx_tlo : ∀ (k : Nat) (t acc : List Int32) (n : Nat), t.length ≤ k → tlo false t = true → t.length ≤ n → lx n t acc = ([], acc ++ t) := by
  intro k
  induction k with
  | zero =>
    intro t acc n hk _ _
    have : t = [] := List.length_eq_zero_iff.mp (by omega)
    subst this
    rw [lx_nil]
    simp
  | succ k ih =>
    intro t acc n hk hc hn
    cases t with
    | nil => rw [lx_nil]; simp
    | cons c t =>
      cases n with
      | zero => simp at hn
      | succ n =>
        have hn' : t.length ≤ n := by simpa using hn
        have hk' : t.length ≤ k := by simpa using hk
        unfold tlo at hc
        rw [lx_cons]
        by_cases h1 : isSp c = true
        · rw [if_pos h1] at hc ⊢
          rw [ih t _ n hk' hc hn']
          simp
        · rw [if_neg h1] at hc ⊢
          by_cases h2 : c = nI 35
          · rw [if_pos h2] at hc ⊢
            have hcom : ∀ (a : List Int32), tlo true a = true → tlo false (a.drop (cmL a)) = true := by
              intro a
              induction a with
              | nil => intro _; rfl
              | cons z a iha =>
                intro h
                unfold tlo at h
                by_cases hz : z = nI 10
                · rw [if_pos hz] at h
                  have : cmL (z :: a) = 0 := by unfold cmL tw; rw [hz]; rfl
                  rw [this, List.drop_zero]
                  unfold tlo
                  rw [if_pos (by unfold isSp; rw [hz]; decide)]
                  exact h
                · rw [if_neg hz] at h
                  have : cmL (z :: a) = cmL a + 1 := by
                    unfold cmL
                    show (if (!(z == nI 10)) = true then _ else _) = _
                    rw [if_pos (by simpa using hz)]
                  rw [this, List.drop_succ_cons]
                  exact iha h
            rw [ih _ _ n (by rw [List.length_drop]; omega) (hcom t hc) (by rw [List.length_drop]; omega)]
            simp
          · rw [if_neg h2] at hc
            cases hc
/-- a valid list of tokens is what is read -/
theorem lx_LX : ∀ (Z : List ItC) (t : List Int32) (n : Nat), LX Z t → (fl Z t).length ≤ n → lx n (fl Z t) [] = (Z, t)
  | [], t, n, h, hn => by
    have := lx_tlo t.length t [] n (Nat.le_refl _) h hn
    show lx n t [] = ([], t)
    simpa using this
  | (sp, k, w) :: Z, t, n, h, hn => by
    obtain ⟨h1, ⟨c, cs, hw, hc1, hc2, hk, hm⟩, h3⟩ := h
    have hn : (sp ++ (w ++ fl Z t)).length ≤ n := hn
    obtain ⟨m, hm1, he⟩ := lx_clo sp (w ++ fl Z t) [] n h1 hn
    show lx n (sp ++ (w ++ fl Z t)) [] = _
    rw [he]
    subst hw
    cases m with
    | zero => simp at hm1
    | succ m =>
      have hm2 : (cs ++ fl Z t).length ≤ m := by simpa using hm1
      show lx (m + 1) (c :: (cs ++ fl Z t)) _ = _
      rw [lx_cons, if_neg (by rw [hc1]; decide), if_neg hc2, hk, hm, List.drop_left, List.take_left, lx_LX Z t m h3 (by rw [List.length_append] at hm2; omega)]
      simp
end
section
/-! Every text reads into a valid list of tokens. -/
def cst : Bool → List Int32 → Option Bool
  | b, [] => some b
  | false, c :: r => if isSp c = true then cst false r else if c = nI 35 then cst true r else none
  | true, c :: r => if c = nI 10 then cst false r else cst true r
theorem cst_clo : ∀ (l : List Int32) (b : Bool), clo b l = true ↔ cst b l = some false
  | [], b => by cases b <;> simp [clo, cst]
  | c :: r, false => by
    unfold clo cst
    split
    · exact cst_clo r false
    · split
      · exact cst_clo r true
      · simp
  | c :: r, true => by
    unfold clo cst
    split
    · exact cst_clo r false
    · exact cst_clo r true
theorem cst_tlo : ∀ (l : List Int32) (b : Bool), tlo b l = true ↔ ∃ b', cst b l = some b'
  | [], b => by cases b <;> simp [tlo, cst]
  | c :: r, false => by
    unfold tlo cst
    split
    · exact cst_tlo r false
    · split
      · exact cst_tlo r true
      · simp
  | c :: r, true => by
    unfold tlo cst
    split
    · exact cst_tlo r false
    · exact cst_tlo r true
theorem cst_app : ∀ (l m : List Int32) (b b' : Bool), cst b l = some b' → cst b (l ++ m) = cst b' m
  | [], m, b, b', h => by
    cases h
    rfl
  | c :: r, m, false, b', h => by
    show cst false (c :: (r ++ m)) = _
    have i1 := cst_app r m false b'
    have i2 := cst_app r m true b'
    generalize cst b' m = X at i1 i2 ⊢
    unfold cst at h ⊢
    split at h
    · rw [if_pos (by assumption)]
      exact i1 h
    · rw [if_neg (by assumption)]
      split at h
      · rw [if_pos (by assumption)]
        exact i2 h
      · cases h
  | c :: r, m, true, b', h => by
    show cst true (c :: (r ++ m)) = _
    have i1 := cst_app r m false b'
    have i2 := cst_app r m true b'
    generalize cst b' m = X at i1 i2 ⊢
    unfold cst at h ⊢
    split at h
    · rw [if_pos (by assumption)]
      exact i1 h
    · rw [if_neg (by assumption)]
      exact i2 h
theorem tkN_le (c : Int32) (r : List Int32) : tkN (tkK c r) r ≤ r.length := by
  unfold tkN
  split
  · rename_i h
    unfold tkK at h
    cases r with
    | nil =>
      dsimp only at h
      repeat' (split at h)
      all_goals (first | omega | cases h)
    | cons x r => simp
  · split
    · exact tw_le _ _
    · exact Nat.zero_le _
theorem cm_all : ∀ (r : List Int32), cst true (r.take (cmL r)) = some true
  | [] => rfl
  | c :: r => by
    by_cases hc : c = nI 10
    · have : cmL (c :: r) = 0 := by unfold cmL tw; rw [hc]; rfl
      rw [this]
      rfl
    · have : cmL (c :: r) = cmL r + 1 := by
        unfold cmL
        show (if (!(c == nI 10)) = true then _ else _) = _
        rw [if_pos (by simpa using hc)]
      rw [this, List.take_succ_cons]
      unfold cst
      rw [if_neg hc]
      exact cm_all r
theorem cm_stop : ∀ (r : List Int32), r.drop (cmL r) = [] ∨ ∃ r', r.drop (cmL r) = nI 10 :: r'
  | [] => Or.inl rfl
  | c :: r => by
    by_cases hc : c = nI 10
    · have : cmL (c :: r) = 0 := by unfold cmL tw; rw [hc]; rfl
      rw [this, hc]
      exact Or.inr ⟨r, rfl⟩
    · have : cmL (c :: r) = cmL r + 1 := by
        unfold cmL
        show (if (!(c == nI 10)) = true then _ else _) = _
        rw [if_pos (by simpa using hc)]
      rw [this, List.drop_succ_cons]
      exact cm_stop r
theorem lx_ok : ∀ (n : Nat) (s acc : List Int32) (b : Bool), s.length ≤ n → cst false acc = some b → (b = true → s = [] ∨ ∃ r, s = nI 10 :: r) → LX (lx n s acc).1 (lx n s acc).2 ∧ fl (lx n s acc).1 (lx n s acc).2 = acc ++ s
  | n, [], acc, b, _, hb, _ => by
    rw [lx_nil]
    exact ⟨(cst_tlo acc false).mpr ⟨b, hb⟩, by simp [fl]⟩
  | 0, c :: r, _, _, h, _, _ => by simp at h
  | n + 1, c :: r, acc, b, hn, hb, hs => by
    have hn' : r.length ≤ n := by simpa using hn
    have hd : ∀ k, (r.drop k).length ≤ n := fun k => by rw [List.length_drop]; omega
    rw [lx_cons]
    have e35 : isSp (nI 35) = false := by decide
    have e10 : isSp (nI 10) = true := by decide
    by_cases h1 : isSp c = true
    · rw [if_pos h1]
      have hc : cst false (acc ++ [c]) = some false := by
        rw [cst_app acc [c] false b hb]
        cases b with
        | false => unfold cst; rw [if_pos h1]; rfl
        | true =>
          rcases hs rfl with h | ⟨r', h⟩
          · cases h
          · cases h
            rfl
      obtain ⟨g1, g2⟩ := lx_ok n r (acc ++ [c]) false hn' hc (fun h => by cases h)
      exact ⟨g1, by rw [g2]; simp⟩
    · rw [if_neg h1]
      have hb0 : b = false := by
        cases b with
        | false => rfl
        | true =>
          rcases hs rfl with h | ⟨r', h⟩
          · cases h
          · cases h
            exact absurd e10 h1
      subst hb0
      by_cases h2 : c = nI 35
      · rw [if_pos h2]
        have hc : cst false (acc ++ c :: r.take (cmL r)) = some true := by
          rw [cst_app acc _ false false hb]
          unfold cst
          rw [if_neg h1, if_pos h2]
          exact cm_all r
        obtain ⟨g1, g2⟩ := lx_ok n (r.drop (cmL r)) _ true (hd _) hc (fun _ => cm_stop r)
        exact ⟨g1, by rw [g2]; simp⟩
      · rw [if_neg h2]
        obtain ⟨g1, g2⟩ := lx_ok n (r.drop (tkN (tkK c r) r)) [] false (hd _) rfl (fun h => by cases h)
        have g2' : fl (lx n (r.drop (tkN (tkK c r) r)) []).1 (lx n (r.drop (tkN (tkK c r) r)) []).2 = r.drop (tkN (tkK c r) r) := by rw [g2]; rfl
        refine ⟨⟨(cst_clo acc false).mpr hb, ⟨c, r.take (tkN (tkK c r) r), rfl, by simpa using h1, h2, ?_, ?_⟩, g1⟩, ?_⟩
        · dsimp only
          rw [g2', List.take_append_drop]
        · dsimp only
          rw [g2', List.take_append_drop, List.length_take, Nat.min_eq_left (tkN_le c r)]
        · show acc ++ (c :: r.take (tkN (tkK c r) r) ++ fl _ _) = _
          rw [g2']
          simp
def lxT (s : List Int32) : List ItC × List Int32 := lx s.length s []
theorem lxT_ok (s : List Int32) : LX (lxT s).1 (lxT s).2 ∧ fl (lxT s).1 (lxT s).2 = s := by
  obtain ⟨h1, h2⟩ := lx_ok s.length s [] false (Nat.le_refl _) rfl (fun h => by cases h)
  exact ⟨h1, h2⟩
theorem lxT_of {Z : List ItC} {t : List Int32} (h : LX Z t) : lxT (fl Z t) = (Z, t) := lx_LX Z t _ h (Nat.le_refl _)
/-- kind, start and end of each token -/
def psn : Nat → List ItC → List (Nat × Nat × Nat)
  | _, [] => []
  | p, (sp, k, w) :: Z => (k, p + sp.length, p + sp.length + w.length) :: psn (p + sp.length + w.length) Z
theorem psn_c (p : Nat) (sp w : List Int32) (k : Nat) (Z : List ItC) : psn p ((sp, k, w) :: Z) = (k, p + sp.length, p + sp.length + w.length) :: psn (p + sp.length + w.length) Z := rfl
theorem psn_len : ∀ (p : Nat) (Z : List ItC), (psn p Z).length = Z.length
  | _, [] => rfl
  | p, (sp, k, w) :: Z => by
    show (psn _ Z).length + 1 = Z.length + 1
    rw [psn_len _ Z]
def ftl (Z : List ItC) : Nat := (fl Z []).length
theorem psn_app : ∀ (p : Nat) (A B : List ItC), psn p (A ++ B) = psn p A ++ psn (p + ftl A) B
  | p, [], B => rfl
  | p, (sp, k, w) :: A, B => by
    show (k, p + sp.length, p + sp.length + w.length) :: psn (p + sp.length + w.length) (A ++ B) = (k, p + sp.length, p + sp.length + w.length) :: (psn (p + sp.length + w.length) A ++ _)
    rw [psn_app (p + sp.length + w.length) A B]
    have : ftl ((sp, k, w) :: A) = sp.length + w.length + ftl A := by
      unfold ftl
      show (sp ++ (w ++ fl A [])).length = _
      rw [List.length_append, List.length_append]
      omega
    rw [this]
    rw [show p + (sp.length + w.length + ftl A) = p + sp.length + w.length + ftl A by omega]
def tks (s : List Int32) : List (Nat × Nat × Nat) := psn 0 (lxT s).1
end
section
/-! The class's reading of characters. -/
def Rc (f : Nat → Int32) (off : Nat) (s : List Int32) : Prop := ∀ (j : Nat) (x : Int32), s[j]? = some x → f (off + j) = x
theorem Rc.at0 {f : Nat → Int32} {s : List Int32} {j : Nat} {x : Int32} (h : Rc f 0 s) (hx : s[j]? = some x) : f j = x := by
  have := h j x hx
  rwa [Nat.zero_add] at this
theorem drop_c {s : List Int32} {p : Nat} (h : p < s.length) : ∃ x, s[p]? = some x ∧ s.drop p = x :: s.drop (p + 1) := by
  refine ⟨s[p], List.getElem?_eq_getElem h, ?_⟩
  rw [List.drop_eq_getElem_cons h]
theorem n1 (p : Nat) : nI p + nI 1 = nI (p + 1) := nI_add p 1
section RD
variable {E : XE} {d : Nat} {Q : Int32 → mI → mP → Prop} {I : mI} {P : mP} {o N : Nat} {s : List Int32}
theorem l_behindComment (hT : TO P o N) (hN : N < 2 ^ 30) (hn : I o 5 = nI s.length) (hs : s.length ≤ N) (hc : Rc (I (o + 1)) 0 s) : ∀ (m p : Nat), s.length - p = m → p ≤ s.length → Q (nI (p + cmL (s.drop p))) I P → V E d m_Text_behindComment 112 Q 2 [some (.inr o), none, some (.inl (nI p))] [] 112 I P := by
  have hT' := hT
  obtain ⟨t0, ⟨p0, k0⟩, -⟩ := hT'
  intro m
  induction m with
  | zero =>
    intro p hm hp hq
    have : p = s.length := by omega
    subst this
    refine x_Text_behindComment_2 _ _ ?_
    rw [hn]
    refine ⟨t0, pk_le s.length s.length (fun _ => ?_) (fun h => absurd h (Nat.lt_irrefl _))⟩
    rw [List.drop_length] at hq
    exact hq
  | succ m ih =>
    intro p hm hp hq
    obtain ⟨x, hx, hd⟩ := drop_c (s := s) (p := p) (by omega)
    refine x_Text_behindComment_2 _ _ ?_
    rw [hn]
    refine ⟨t0, pk_le s.length p (fun h => by omega) (fun _ => ⟨t0, ?_⟩)⟩
    simp only [p0, k0, nzz 1 (by decide), true_and]
    refine ⟨vp_in_nI (by omega) (by omega), ?_⟩
    rw [clp (by omega), hc.at0 hx]
    rw [hd] at hq
    unfold cmL at hq
    refine ⟨fun e => ?_, fun e => ?_⟩
    · rw [show tw (fun x => !(x == nI 10)) (x :: s.drop (p + 1)) = 0 from by unfold tw; rw [e]; rfl] at hq
      exact hq
    · rw [n1]
      refine ih (p + 1) (by omega) (by omega) ?_
      rw [show tw (fun x => !(x == nI 10)) (x :: s.drop (p + 1)) = cmL (s.drop (p + 1)) + 1 from by
        show (if (!(x == nI 10)) = true then _ else _) = _
        rw [if_pos (by simpa using e)]
        rfl] at hq
      rw [show p + 1 + cmL (s.drop (p + 1)) = p + (cmL (s.drop (p + 1)) + 1) by omega]
      exact hq
theorem s_behindComment (hT : TO P o N) (hN : N < 2 ^ 30) (hn : I o 5 = nI s.length) (hs : s.length ≤ N) (hc : Rc (I (o + 1)) 0 s) {p : Nat} (hp : p ≤ s.length) (h : Q (nI (p + cmL (s.drop p))) I P) : V E d m_Text_behindComment 112 Q 0 [some (.inr o), some (.inl (nI p)), none] [] 112 I P :=
  x_Text_behindComment_0 _ _ (l_behindComment hT hN hn hs hc _ p rfl hp h)
theorem s_tokenKind (hT : TO P o N) (hN : N < 2 ^ 30) (hn : I o 5 = nI s.length) (hs : s.length ≤ N) (hc : Rc (I (o + 1)) 0 s) {p : Nat} {c : Int32} (hp : s[p]? = some c) (h : Q (nI (tkK c (s.drop (p + 1)))) I P) : V E (d + 1) m_Text_tokenKind 112 Q 0 [some (.inr o), some (.inl (nI p)), none] [] 112 I P := by
  obtain ⟨t0, ⟨p0, k0⟩, -⟩ := hT
  have hpl : p < s.length := (List.getElem?_eq_some_iff.mp hp).1
  refine x_Text_tokenKind_0 _ _ ?_
  simp only [t0, p0, k0, nzz 1 (by decide), true_and]
  refine ⟨vp_in_nI (by omega) (by omega), ?_⟩
  rw [clp (by omega), hc.at0 hp]
  unfold tkK at h
  refine s_isLetter (bz_i (fun a => ?_) (fun a => ?_))
  · rw [if_neg (by rw [a]; decide)] at h
    refine s_isDigit (bz_i (fun b => ?_) (fun b => ?_))
    · rw [if_neg (by rw [b]; decide)] at h
      refine ⟨fun e => ?_, fun e => ?_⟩
      · rw [if_pos e] at h
        rw [hn, n1]
        refine pk_le s.length (p + 1) (fun g => ?_) (fun g => ?_)
        · rw [List.drop_eq_nil_of_le g] at h
          exact h
        · simp only [p0, k0, nzz 1 (by decide), true_and]
          refine ⟨vp_in_nI (by omega) (by omega), ?_⟩
          obtain ⟨x, hx, hd⟩ := drop_c (s := s) (p := p + 1) g
          rw [clp (by omega), hc.at0 hx]
          rw [hd] at h
          refine s_isDigit (bz_i (fun c' => ?_) (fun c' => ?_))
          · dsimp only at h
            rw [if_neg (by rw [c']; decide)] at h
            exact h
          · dsimp only at h
            rw [if_pos c'] at h
            exact h
      · rw [if_neg e] at h
        refine ⟨fun e => ?_, fun e => ?_⟩
        · rw [if_pos e] at h
          exact h
        · rw [if_neg e] at h
          refine ⟨fun e => ?_, fun e => ?_⟩
          · rw [if_pos e] at h
            exact h
          · rw [if_neg e] at h
            refine ⟨fun e => ?_, fun e => ?_⟩
            · rw [if_pos e] at h
              exact h
            · rw [if_neg e] at h
              refine ⟨fun e => ?_, fun e => ?_⟩
              · rw [if_pos e] at h
                exact h
              · rw [if_neg e] at h
                refine ⟨fun e => ?_, fun e => ?_⟩
                · rw [if_pos e] at h
                  exact h
                · rw [if_neg e] at h
                  exact h
    · rw [if_pos b] at h
      exact h
  · rw [if_pos a] at h
    exact h
theorem l_behindToken (hT : TO P o N) (hN : N < 2 ^ 30) (hn : I o 5 = nI s.length) (hs : s.length ≤ N) (hc : Rc (I (o + 1)) 0 s) {k : Nat} (hk : k < 2 ^ 31) : ∀ (m p : Nat), s.length - p = m → p ≤ s.length → Q (nI (p + tw (gO k) (s.drop p))) I P → V E (d + 2) m_Text_behindToken 112 Q 23 [some (.inr o), none, some (.inl (nI k)), some (.inl (nI p))] [] 112 I P := by
  have hT' := hT
  obtain ⟨t0, ⟨p0, k0⟩, -⟩ := hT'
  intro m
  induction m with
  | zero =>
    intro p hm hp hq
    have : p = s.length := by omega
    subst this
    refine x_Text_behindToken_23 _ _ _ ?_
    rw [hn]
    refine ⟨t0, pk_le s.length s.length (fun _ => ?_) (fun h => absurd h (Nat.lt_irrefl _))⟩
    rw [List.drop_length] at hq
    exact hq
  | succ m ih =>
    intro p hm hp hq
    obtain ⟨x, hx, hd⟩ := drop_c (s := s) (p := p) (by omega)
    refine x_Text_behindToken_23 _ _ _ ?_
    rw [hn]
    refine ⟨t0, pk_le s.length p (fun h => by omega) (fun _ => ⟨t0, ?_⟩)⟩
    simp only [p0, k0, nzz 1 (by decide), true_and]
    refine ⟨vp_in_nI (by omega) (by omega), ?_⟩
    rw [clp (by omega), hc.at0 hx]
    rw [hd] at hq
    refine s_goesOn hk (bz_i (fun e => ?_) (fun e => ?_))
    · rw [show tw (gO k) (x :: s.drop (p + 1)) = 0 from by unfold tw; rw [e]; rfl] at hq
      exact hq
    · rw [n1]
      refine ih (p + 1) (by omega) (by omega) ?_
      rw [show tw (gO k) (x :: s.drop (p + 1)) = tw (gO k) (s.drop (p + 1)) + 1 from by
        show (if gO k x = true then _ else _) = _
        rw [if_pos e]] at hq
      rw [show p + 1 + tw (gO k) (s.drop (p + 1)) = p + (tw (gO k) (s.drop (p + 1)) + 1) by omega]
      exact hq
theorem s_behindToken (hT : TO P o N) (hN : N < 2 ^ 30) (hn : I o 5 = nI s.length) (hs : s.length ≤ N) (hc : Rc (I (o + 1)) 0 s) {k p : Nat} (hk : k < 100) (hp : p < s.length) (h : Q (nI (p + 1 + tkN k (s.drop (p + 1)))) I P) : V E (d + 2) m_Text_behindToken 112 Q 0 [some (.inr o), some (.inl (nI p)), some (.inl (nI k)), none] [] 112 I P := by
  refine x_Text_behindToken_0 _ _ _ ?_
  unfold tkN at h
  rw [n1, nI_add p 2]
  refine ⟨fun a => ?_, fun a => ?_⟩
  · have a3 : k ≠ 3 := fun e => a (by rw [e])
    rw [if_neg a3] at h
    refine ⟨fun b => ?_, fun b => ⟨fun c => ?_, fun c => ?_⟩⟩
    · have b1 : k = 1 := (nI_eq (by omega) (by decide)).mp b
      rw [if_pos (Or.inl b1)] at h
      exact l_behindToken hT hN hn hs hc (by omega) _ (p + 1) rfl (by omega) h
    · have b1 : k ≠ 1 := fun e => b (by rw [e])
      have c1 : k ≠ 2 := fun e => c (by rw [e])
      rw [if_neg (by omega)] at h
      exact h
    · have c1 : k = 2 := (nI_eq (by omega) (by decide)).mp c
      rw [if_pos (Or.inr c1)] at h
      exact l_behindToken hT hN hn hs hc (by omega) _ (p + 1) rfl (by omega) h
  · have a3 : k = 3 := (nI_eq (by omega) (by decide)).mp a
    rw [if_pos a3] at h
    exact h
end RD
/-! memory, read through writes -/
theorem uI_n {I : mI} {a k m : Nat} {v : Int32} (h : m ≠ a) : uI I a k v m = I m := sI_n h
theorem uI_s {I : mI} {a k : Nat} {v : Int32} : uI I a k v a k = v := by unfold uI; rw [sI_s]; unfold upd; rw [if_pos rfl]
theorem uI_o {I : mI} {a k j : Nat} {v : Int32} (h : j ≠ k) : uI I a k v a j = I a j := by unfold uI; rw [sI_s]; unfold upd; rw [if_neg h]
theorem mxx {a b : Nat} (ha : a < 2 ^ 31) (hb : b < 2 ^ 31) : (if nI a < nI b then nI b else nI a) = nI (max a b) := by
  by_cases h : nI a < nI b
  · rw [if_pos h]
    rw [nI_ltI ha hb] at h
    rw [Nat.max_eq_right (by omega)]
  · rw [if_neg h]
    rw [nI_ltI ha hb] at h
    rw [Nat.max_eq_left (by omega)]
def TR (I : mI) (o : Nat) (A : List (Nat × Nat × Nat)) : Prop := I o 6 = nI A.length ∧ ∀ (t k a b : Nat), A[t]? = some (k, a, b) → I (o + 3) t = nI k ∧ I (o + 4) t = nI a ∧ I (o + 5) t = nI b
def FrT (o : Nat) (I I' : mI) : Prop := (∀ m, m ≠ o → m ≠ o + 3 → m ≠ o + 4 → m ≠ o + 5 → I' m = I m) ∧ ∀ j, j ≠ 6 → I' o j = I o j
theorem FrT.rf {o : Nat} {I : mI} : FrT o I I := ⟨fun _ _ _ _ _ => rfl, fun _ _ => rfl⟩
theorem FrT.tr {o : Nat} {I I' I'' : mI} (h : FrT o I I') (h' : FrT o I' I'') : FrT o I I'' := ⟨fun m a b c e => (h'.1 m a b c e).trans (h.1 m a b c e), fun j hj => (h'.2 j hj).trans (h.2 j hj)⟩
/-- one token more -/
def ad1 (I : mI) (o t : Nat) (k a b : Int32) : mI := uI (uI (uI (uI I (o + 3) t k) (o + 4) t a) (o + 5) t b) o 6 (nI (t + 1))
theorem ad1_fr {I : mI} {o t : Nat} {k a b : Int32} : FrT o I (ad1 I o t k a b) := by
  unfold ad1
  refine ⟨fun m h1 h2 h3 h4 => ?_, fun j hj => ?_⟩
  · rw [uI_n h1, uI_n h4, uI_n h3, uI_n h2]
  · rw [uI_o hj, uI_n (by omega), uI_n (by omega), uI_n (by omega)]
theorem ad1_tr {I : mI} {o : Nat} {A : List (Nat × Nat × Nat)} {k a b : Nat} (h : TR I o A) : TR (ad1 I o A.length (nI k) (nI a) (nI b)) o (A ++ [(k, a, b)]) := by
  unfold ad1
  refine ⟨by rw [uI_s, List.length_append]; rfl, fun t k' a' b' ht => ?_⟩
  rw [uI_n (by omega : o + 3 ≠ o), uI_n (by omega : o + 4 ≠ o), uI_n (by omega : o + 5 ≠ o), uI_n (by omega : o + 3 ≠ o + 5), uI_n (by omega : o + 4 ≠ o + 5), uI_n (by omega : o + 3 ≠ o + 4)]
  by_cases hl : t < A.length
  · rw [List.getElem?_append_left hl] at ht
    obtain ⟨g1, g2, g3⟩ := h.2 t k' a' b' ht
    rw [uI_o (by omega), uI_o (by omega), uI_o (by omega), uI_n (by omega : o + 4 ≠ o + 3), uI_n (by omega : o + 5 ≠ o + 4), uI_n (by omega : o + 5 ≠ o + 3)]
    exact ⟨g1, g2, g3⟩
  · have e : t = A.length := by
      have := (List.getElem?_eq_some_iff.mp ht).1
      rw [List.length_append] at this
      simp at this
      omega
    subst e
    rw [List.getElem?_append_right (Nat.le_refl _), Nat.sub_self] at ht
    cases ht
    exact ⟨uI_s, uI_s, uI_s⟩
section FT
variable {E : XE} {d : Nat} {Q : Int32 → mI → mP → Prop} {P : mP} {o N : Nat} {s : List Int32}
theorem tkK_lt (c : Int32) (r : List Int32) : tkK c r < 100 := by
  unfold tkK
  repeat' split
  all_goals decide
theorem l_findTokens (hT : TO P o N) (hN : N < 2 ^ 30) (hs : s.length ≤ N) : ∀ (m p b : Nat) (acc : List Int32) (A : List (Nat × Nat × Nat)) (I : mI), s.length - p ≤ m → p ≤ s.length → b ≤ p → acc.length ≤ p → A.length ≤ p → I o 5 = nI s.length → Rc (I (o + 1)) 0 s → TR I o A →
    (∀ I', FrT o I I' → TR I' o (A ++ psn (p - acc.length) (lx s.length (s.drop p) acc).1) → Q (nI 0) I' P) → V E (d + 3) m_Text_findTokens 112 Q 4 [some (.inr o), some (.inl (nI b)), some (.inl (nI p)), none, none] [] 112 I P := by
  have hT' := hT
  obtain ⟨t0, ⟨p0, k0⟩, -, ⟨p2, k2⟩, ⟨p3, k3⟩, ⟨p4, k4⟩⟩ := hT'
  have fin : ∀ (p b : Nat) (acc : List Int32) (A : List (Nat × Nat × Nat)) (I : mI), p = s.length → I o 5 = nI s.length → TR I o A →
    (∀ I', FrT o I I' → TR I' o (A ++ psn (p - acc.length) (lx s.length (s.drop p) acc).1) → Q (nI 0) I' P) → V E (d + 3) m_Text_findTokens 112 Q 4 [some (.inr o), some (.inl (nI b)), some (.inl (nI p)), none, none] [] 112 I P := by
    intro p b acc A I hp hn hR h
    subst hp
    refine x_Text_findTokens_4 _ _ _ ?_
    rw [hn]
    refine ⟨t0, pk_le s.length s.length (fun _ => ?_) (fun h => absurd h (Nat.lt_irrefl _))⟩
    refine h I FrT.rf ?_
    rw [List.drop_length, lx_nil]
    simpa [psn] using hR
  intro m
  induction m with
  | zero =>
    intro p b acc A I hm hp hb ha hA hn hc hR h
    exact fin p b acc A I (by omega) hn hR h
  | succ m ih =>
    intro p b acc A I hm hp hb ha hA hn hc hR h
    by_cases hpl : p < s.length
    · obtain ⟨c, hx, hd⟩ := drop_c (s := s) (p := p) hpl
      obtain ⟨n0, hn0⟩ : ∃ n0, s.length = n0 + 1 := ⟨s.length - 1, by omega⟩
      have hrl : (s.drop (p + 1)).length ≤ n0 := by rw [List.length_drop]; omega
      have hfu : ∀ k a, lx n0 ((s.drop (p + 1)).drop k) a = lx s.length (s.drop (p + 1 + k)) a := fun k a => by
        rw [List.drop_drop]
        exact lx_fuel _ _ _ _ (by rw [List.length_drop]; omega) (by rw [List.length_drop]; omega)
      rw [hd] at h
      have hlx := lx_cons n0 c (s.drop (p + 1)) acc
      rw [← hn0] at hlx
      rw [hlx] at h
      clear hlx
      refine x_Text_findTokens_4 _ _ _ ?_
      rw [hn]
      refine ⟨t0, pk_le s.length p (fun h => by omega) (fun _ => ⟨t0, ?_⟩)⟩
      simp only [t0, p0, k0, nzz 1 (by decide), true_and]
      refine ⟨vp_in_nI (by omega) (by omega), ?_⟩
      rw [clp (by omega), hc.at0 hx]
      have blank : isSp c = true → V E (d + 3) m_Text_findTokens 112 Q 4 [some (.inr o), some (.inl (nI b)), some (.inl (if (nI p + nI 1) < nI b then nI b else (nI p + nI 1))), none, none] [] 112 I P := by
        intro hsp
        rw [n1, mxx (by omega) (by omega), Nat.max_eq_left (by omega)]
        refine ih (p + 1) b (acc ++ [c]) A I (by omega) (by omega) (by omega) (by simp; omega) (by omega) hn hc hR (fun I' hf hr => h I' hf ?_)
        rw [if_pos hsp]
        have e1 := hfu 0 (acc ++ [c])
        rw [List.drop_zero, Nat.add_zero] at e1
        rw [e1]
        rw [show p + 1 - (acc ++ [c]).length = p - acc.length by simp] at hr
        exact hr
      refine ⟨fun a35 => ⟨fun a32 => blank (by unfold isSp; rw [a32]; decide), fun a32 => ⟨fun a10 => blank (by unfold isSp; rw [a10]; decide), fun a10 => ?_⟩⟩, fun a35 => ?_⟩
      · have hsp : isSp c = false := by
          unfold isSp
          simp [a32, a10]
        rw [if_neg (by rw [hsp]; decide), if_neg a35] at h
        refine s_tokenKind hT hN hn hs hc hx ?_
        refine s_behindToken hT hN hn hs hc (tkK_lt _ _) hpl ?_
        have hkl := tkN_le c (s.drop (p + 1))
        rw [List.length_drop] at hkl
        simp only [p2, k2, p3, k3, p4, k4, nzz 3 (by decide), nzz 4 (by decide), nzz 5 (by decide), true_and]
        have e6 : I o 6 = nI A.length := hR.1
        simp only [uI_n (show o ≠ o + 3 by omega), uI_n (show o ≠ o + 4 by omega), uI_n (show o ≠ o + 5 by omega), e6]
        refine ⟨vp_in_nI (by omega) (by omega), vp_in_nI (by omega) (by omega), vp_in_nI (by omega) (by omega), ?_⟩
        rw [clp (by omega), n1, n1, mxx (by omega) (by omega), Nat.max_eq_right (by omega)]
        refine ih (p + 1 + tkN (tkK c (s.drop (p + 1))) (s.drop (p + 1))) _ [] (A ++ [(tkK c (s.drop (p + 1)), p, p + 1 + tkN (tkK c (s.drop (p + 1))) (s.drop (p + 1)))]) (ad1 I o A.length _ _ _) (by omega) (by omega) (by omega) (by simp) (by simp; omega) ?_ ?_ (ad1_tr hR) (fun I' hf hr => h I' (ad1_fr.tr hf) ?_)
        · rw [ad1_fr.2 5 (by decide)]
          exact hn
        · rw [ad1_fr.1 (o + 1) (by omega) (by omega) (by omega) (by omega)]
          exact hc
        · rw [hfu]
          show TR I' o (A ++ (tkK c (s.drop (p + 1)), p - acc.length + acc.length, p - acc.length + acc.length + (c :: (s.drop (p + 1)).take (tkN (tkK c (s.drop (p + 1))) (s.drop (p + 1)))).length) :: psn (p - acc.length + acc.length + (c :: (s.drop (p + 1)).take (tkN (tkK c (s.drop (p + 1))) (s.drop (p + 1)))).length) _)
          have e2 : p - acc.length + acc.length = p := by omega
          have e3 : (c :: (s.drop (p + 1)).take (tkN (tkK c (s.drop (p + 1))) (s.drop (p + 1)))).length = 1 + tkN (tkK c (s.drop (p + 1))) (s.drop (p + 1)) := by
            rw [List.length_cons, List.length_take, List.length_drop, Nat.min_eq_left (by omega)]
            omega
          rw [e2, e3, ← Nat.add_assoc]
          simpa using hr
      · have hsp : isSp c = false := by rw [a35]; decide
        rw [if_neg (by rw [hsp]; decide), if_pos a35] at h
        refine s_behindComment hT hN hn hs hc hp ?_
        have hcl : cmL (s.drop (p + 1)) ≤ s.length - (p + 1) := by
          have := tw_le (fun x => !(x == nI 10)) (s.drop (p + 1))
          rw [List.length_drop] at this
          exact this
        have e1 : cmL (s.drop p) = 1 + cmL (s.drop (p + 1)) := by
          rw [hd]
          unfold cmL
          show (if (!(c == nI 10)) = true then _ else _) = _
          rw [if_pos (by rw [a35]; decide), Nat.add_comm]
        rw [e1, n1, ← Nat.add_assoc, mxx (by omega) (by omega), Nat.max_eq_right (by omega)]
        refine ih (p + 1 + cmL (s.drop (p + 1))) _ (acc ++ c :: (s.drop (p + 1)).take (cmL (s.drop (p + 1)))) A I (by omega) (by omega) (by omega) ?_ (by omega) hn hc hR (fun I' hf hr => h I' hf ?_)
        · rw [List.length_append, List.length_cons, List.length_take, List.length_drop]
          omega
        · rw [hfu]
          have e2 : (acc ++ c :: (s.drop (p + 1)).take (cmL (s.drop (p + 1)))).length = acc.length + (1 + cmL (s.drop (p + 1))) := by
            rw [List.length_append, List.length_cons, List.length_take, List.length_drop, Nat.min_eq_left hcl]
            omega
          rw [e2] at hr
          rw [show p + 1 + cmL (s.drop (p + 1)) - (acc.length + (1 + cmL (s.drop (p + 1)))) = p - acc.length by omega] at hr
          exact hr
    · exact fin p b acc A I (by omega) hn hR h
theorem s_findTokens (hT : TO P o N) (hN : N < 2 ^ 30) (hs : s.length ≤ N) {I : mI} (hn : I o 5 = nI s.length) (hc : Rc (I (o + 1)) 0 s) (h0 : I o 6 = nI 0) (h : ∀ I', FrT o I I' → TR I' o (tks s) → Q (nI 0) I' P) : V E (d + 3) m_Text_findTokens 112 Q 0 [some (.inr o), none, none, none, none] [] 112 I P := by
  refine x_Text_findTokens_0 _ (l_findTokens hT hN hs s.length 0 0 [] [] I (by omega) (by omega) (by omega) (by simp) (by simp) hn hc ⟨h0, fun t k a b ht => by simp at ht⟩ (fun I' hf hr => h I' hf ?_))
  simpa [tks, lxT] using hr
end FT
end
section
/-! The reference's reading of characters. -/
def MO (P : mP) : Prop := P 95 0 = 96 ∧ P 95 1 = 97 ∧ P 95 6 = 98 ∧ P 95 9 = 99 ∧ P 95 10 = 100 ∧ P 95 11 = 101 ∧ P 95 12 = 102 ∧ P 95 13 = 103 ∧ P 95 14 = 104 ∧ P 95 15 = 105 ∧ P 95 19 = 106 ∧ P 95 20 = 107 ∧ P 95 21 = 108 ∧ P 95 23 = 109 ∧ P 95 24 = 110 ∧ P 95 25 = 111
theorem k95 : kk 112 95 = (0, 6) := rfl
theorem k96 : kk 112 96 = (1, 640) := rfl
theorem k97 : kk 112 97 = (1, 128) := rfl
theorem k98 : kk 112 98 = (1, 6) := rfl
theorem k99 : kk 112 99 = (1, 192) := rfl
theorem k100 : kk 112 100 = (1, 192) := rfl
theorem k101 : kk 112 101 = (1, 192) := rfl
theorem k102 : kk 112 102 = (1, 192) := rfl
theorem k103 : kk 112 103 = (1, 192) := rfl
theorem k104 : kk 112 104 = (2, 128) := rfl
theorem k105 : kk 112 105 = (1, 128) := rfl
theorem k106 : kk 112 106 = (1, 10) := rfl
theorem k107 : kk 112 107 = (1, 128) := rfl
theorem k108 : kk 112 108 = (1, 128) := rfl
theorem k109 : kk 112 109 = (1, 128) := rfl
theorem k110 : kk 112 110 = (1, 128) := rfl
theorem k111 : kk 112 111 = (1, 7381) := rfl
theorem nzl (k : Nat) (h : k ≠ 0) : (k ≠ 0) = True := by simp [h]
def rc (k : Nat) : Nat := match k with
  | 4 => 40
  | 5 => 41
  | 6 => 44
  | 7 => 59
  | 8 => 62
  | 9 => 4
  | k => k
section MT
variable {E : XE} {d : Nat} {Q : Int32 → mI → mP → Prop} {I : mI} {P : mP} {s : List Int32} {off : Nat}
theorem s_letter {x : Int32} (h : Q (bI (isL x)) I P) : V E d m_Model_letter 112 Q 0 [some (.inl x)] [] 112 I P := by
  refine x_Model_letter_0 x ?_
  simp only [ltn (n := 97) (by decide), ltn (n := 65) (by decide), nlt (n := 90) (by decide), len (n := 122) (by decide)]
  have ht : (97 ≤ x.toInt ∧ x.toInt ≤ 122) ∨ (65 ≤ x.toInt ∧ x.toInt ≤ 90) → zb (nI 1) ∧ Q (nI 1) I P := fun q => ⟨rfl, by rw [isL, decide_eq_true q] at h; exact h⟩
  have hf : ¬ ((97 ≤ x.toInt ∧ x.toInt ≤ 122) ∨ (65 ≤ x.toInt ∧ x.toInt ≤ 90)) → zb (nI 0) ∧ Q (nI 0) I P := fun q => ⟨rfl, by rw [isL, decide_eq_false q] at h; exact h⟩
  refine ⟨fun a => ⟨fun b => hf (by omega), fun b => ⟨fun c => hf (by omega), fun c => ht (by omega)⟩⟩, fun a => ⟨fun b => ht (by omega), fun b => ⟨fun c => hf (by omega), fun c => ⟨fun e => hf (by omega), fun e => ht (by omega)⟩⟩⟩⟩
theorem s_figure {x : Int32} (h : Q (bI (isD x)) I P) : V E d m_Model_figure 112 Q 0 [some (.inl x)] [] 112 I P := by
  refine x_Model_figure_0 x ?_
  simp only [ltn (n := 48) (by decide), nlt (n := 57) (by decide)]
  have ht : (48 ≤ x.toInt ∧ x.toInt ≤ 57) → zb (nI 1) ∧ Q (nI 1) I P := fun q => ⟨rfl, by rw [isD, decide_eq_true q] at h; exact h⟩
  have hf : ¬ (48 ≤ x.toInt ∧ x.toInt ≤ 57) → zb (nI 0) ∧ Q (nI 0) I P := fun q => ⟨rfl, by rw [isD, decide_eq_false q] at h; exact h⟩
  exact ⟨fun a => hf (by omega), fun a => ⟨fun b => hf (by omega), fun b => ht (by omega)⟩⟩
def isM (x : Int32) : Bool := x == nI 40 || x == nI 41 || x == nI 44 || x == nI 59 || x == nI 62
theorem s_mere {x : Int32} (h : Q (bI (isM x)) I P) : V E d m_Model_mere 112 Q 0 [some (.inl x)] [] 112 I P := by
  refine x_Model_mere_0 x ?_
  unfold isM at h
  refine ⟨fun a => ?_, fun a => ⟨fun b => ?_, fun b => ⟨fun c => ?_, fun c => ⟨fun e => ?_, fun e => ⟨fun g => ?_, fun g => ?_⟩⟩⟩⟩⟩
  · simp [a] at h; exact ⟨rfl, h⟩
  · simp [b] at h; exact ⟨rfl, h⟩
  · simp [c] at h; exact ⟨rfl, h⟩
  · simp [e] at h; exact ⟨rfl, h⟩
  · rw [beq_eq_false_iff_ne.mpr a, beq_eq_false_iff_ne.mpr b, beq_eq_false_iff_ne.mpr c, beq_eq_false_iff_ne.mpr e, beq_eq_false_iff_ne.mpr g] at h
    exact ⟨rfl, h⟩
  · simp [g] at h; exact ⟨rfl, h⟩
theorem isM_val {c : Int32} {r : List Int32} (h1 : isL c = false) (h2 : isD c = false) (h3 : c ≠ nI 36) (hm : isM c = true) : c = nI (rc (tkK c r)) := by
  unfold isM at hm
  simp only [Bool.or_eq_true, beq_iff_eq] at hm
  unfold tkK
  rw [if_neg (by rw [h1]; decide), if_neg (by rw [h2]; decide), if_neg h3]
  rcases hm with (((hm | hm) | hm) | hm) | hm <;> subst hm <;> rfl
theorem isM_not {c : Int32} {r : List Int32} (h1 : isL c = false) (h2 : isD c = false) (h3 : c ≠ nI 36) (hm : isM c = false) : nI 4 = nI (rc (tkK c r)) := by
  unfold isM at hm
  simp only [Bool.or_eq_false_iff, beq_eq_false_iff_ne] at hm
  unfold tkK
  rw [if_neg (by rw [h1]; decide), if_neg (by rw [h2]; decide), if_neg h3, if_neg hm.1.1.1.1, if_neg hm.1.1.1.2, if_neg hm.1.1.2, if_neg hm.1.2, if_neg hm.2]
  rfl
theorem s_sortAt (hM : MO P) (ho : off + s.length ≤ 640) (hc : Rc (I 96) off s) {p : Nat} {c : Int32} (hp : s[p]? = some c) (h : Q (nI (rc (tkK c (s.drop (p + 1))))) I P) : V E (d + 1) m_Model_sortAt 112 Q 0 [some (.inr 95), some (.inl (nI (off + p))), some (.inl (nI (off + s.length))), none] [] 112 I P := by
  have p0 := hM.1
  have hpl : p < s.length := (List.getElem?_eq_some_iff.mp hp).1
  refine x_Model_sortAt_0 _ _ _ ?_
  simp only [k95, p0, k96, nzl 96 (by decide), true_and]
  refine ⟨vp_in_nI (by omega) (by omega), ?_⟩
  rw [clp (by omega), hc p c hp]
  refine s_letter (bz_i (fun a => ?_) (fun a => ?_))
  · refine s_figure (bz_i (fun b => ?_) (fun b => ?_))
    · have odd : c = nI 36 → tkK c (s.drop (p + 1)) = 9 → (Q (nI 4) I P) ∧ isM c = false := fun e h9 => by
        rw [h9] at h
        exact ⟨h, by rw [e]; decide⟩
      refine ⟨fun e => ?_, fun e => ?_⟩
      · refine s_mere (bz_i (fun g => ?_) (fun g => ?_))
        · rw [isM_not a b e g (r := s.drop (p + 1))]
          exact h
        · rw [isM_val a b e g (r := s.drop (p + 1))]
          exact h
      · rw [n1]
        have hk : tkK c (s.drop (p + 1)) = (match s.drop (p + 1) with
          | x :: _ => if isD x = true then 3 else 9
          | [] => 9) := by
          unfold tkK
          rw [if_neg (by rw [a]; decide), if_neg (by rw [b]; decide), if_pos e]
          cases s.drop (p + 1) <;> rfl
        refine pk_le (off + s.length) (off + p + 1) (fun g => ?_) (fun g => ?_)
        · rw [List.drop_eq_nil_of_le (by omega)] at hk odd
          obtain ⟨o1, o2⟩ := odd e hk
          exact s_mere (bz_i (fun _ => o1) (fun q => by rw [o2] at q; cases q))
        · obtain ⟨x, hx, hd⟩ := drop_c (s := s) (p := p + 1) (by omega)
          simp only [p0, k96, nzl 96 (by decide), true_and]
          refine ⟨vp_in_nI (by omega) (by omega), ?_⟩
          rw [clp (by omega), Nat.add_assoc, hc (p + 1) x hx]
          rw [hd] at hk
          dsimp only at hk
          rw [← hd] at hk
          refine s_figure (bz_i (fun c' => ?_) (fun c' => ?_))
          · rw [if_neg (by rw [c']; decide)] at hk
            obtain ⟨o1, o2⟩ := odd e hk
            exact s_mere (bz_i (fun _ => o1) (fun q => by rw [o2] at q; cases q))
          · rw [if_pos c'] at hk
            rw [hk] at h
            exact h
    · have hk : tkK c (s.drop (p + 1)) = 2 := by
        unfold tkK
        rw [if_neg (by rw [a]; decide), if_pos b]
      rw [hk] at h
      exact h
  · have hk : tkK c (s.drop (p + 1)) = 1 := by
      unfold tkK
      rw [if_pos a]
    rw [hk] at h
    exact h
theorem l_endAt1 (hM : MO P) (ho : off + s.length ≤ 640) (hc : Rc (I 96) off s) : ∀ (m p : Nat), s.length - p = m → p ≤ s.length → Q (nI (off + p + tw (gO 1) (s.drop p))) I P → V E (d + 1) m_Model_endAt 112 Q 20 [some (.inr 95), none, some (.inl (nI (off + s.length))), none, some (.inl (nI (off + p)))] [] 112 I P := by
  have p0 := hM.1
  intro m
  induction m with
  | zero =>
    intro p hm hp hq
    have : p = s.length := by omega
    subst this
    refine x_Model_endAt_20 _ _ _ (pk_le (off + s.length) (off + s.length) (fun _ => ?_) (fun h => absurd h (Nat.lt_irrefl _)))
    rw [List.drop_length] at hq
    exact hq
  | succ m ih =>
    intro p hm hp hq
    obtain ⟨x, hx, hd⟩ := drop_c (s := s) (p := p) (by omega)
    have nxt : gO 1 x = true → V E (d + 1) m_Model_endAt 112 Q 20 [some (.inr 95), none, some (.inl (nI (off + s.length))), none, some (.inl (nI (off + p) + nI 1))] [] 112 I P := by
      intro e
      rw [n1, Nat.add_assoc]
      refine ih (p + 1) (by omega) (by omega) ?_
      rw [hd, show tw (gO 1) (x :: s.drop (p + 1)) = tw (gO 1) (s.drop (p + 1)) + 1 from by
        show (if gO 1 x = true then _ else _) = _
        rw [if_pos e]] at hq
      rw [show off + (p + 1) + tw (gO 1) (s.drop (p + 1)) = off + p + (tw (gO 1) (s.drop (p + 1)) + 1) by omega]
      exact hq
    refine x_Model_endAt_20 _ _ _ (pk_le (off + s.length) (off + p) (fun h => by omega) (fun _ => ?_))
    simp only [k95, p0, k96, nzl 96 (by decide), true_and]
    refine ⟨vp_in_nI (by omega) (by omega), ?_⟩
    rw [clp (by omega), hc p x hx]
    refine s_letter (bn_i (fun a => nxt (by unfold gO; rw [a]; cases isD x <;> rfl)) (fun a => ?_))
    simp only [p0, k96, nzl 96 (by decide), true_and]
    refine ⟨vp_in_nI (by omega) (by omega), ?_⟩
    rw [hc p x hx]
    refine s_figure (bz_i (fun b => ?_) (fun b => nxt (by unfold gO; rw [b]; rfl)))
    rw [hd, show tw (gO 1) (x :: s.drop (p + 1)) = 0 from by unfold tw gO; rw [a, b]; rfl] at hq
    exact hq
theorem l_endAt2 (hM : MO P) (ho : off + s.length ≤ 640) (hc : Rc (I 96) off s) : ∀ (m p : Nat), s.length - p = m → p ≤ s.length → Q (nI (off + p + tw (gO 2) (s.drop p))) I P → V E (d + 1) m_Model_endAt 112 Q 63 [some (.inr 95), none, some (.inl (nI (off + s.length))), none, some (.inl (nI (off + p)))] [] 112 I P := by
  have p0 := hM.1
  intro m
  induction m with
  | zero =>
    intro p hm hp hq
    have : p = s.length := by omega
    subst this
    refine x_Model_endAt_63 _ _ _ (pk_le (off + s.length) (off + s.length) (fun _ => ?_) (fun h => absurd h (Nat.lt_irrefl _)))
    rw [List.drop_length] at hq
    exact hq
  | succ m ih =>
    intro p hm hp hq
    obtain ⟨x, hx, hd⟩ := drop_c (s := s) (p := p) (by omega)
    refine x_Model_endAt_63 _ _ _ (pk_le (off + s.length) (off + p) (fun h => by omega) (fun _ => ?_))
    simp only [k95, p0, k96, nzl 96 (by decide), true_and]
    refine ⟨vp_in_nI (by omega) (by omega), ?_⟩
    rw [clp (by omega), hc p x hx]
    refine s_figure (bz_i (fun b => ?_) (fun e => ?_))
    · rw [hd, show tw (gO 2) (x :: s.drop (p + 1)) = 0 from by unfold tw gO; rw [b]; rfl] at hq
      exact hq
    · rw [n1, Nat.add_assoc]
      refine ih (p + 1) (by omega) (by omega) ?_
      rw [hd, show tw (gO 2) (x :: s.drop (p + 1)) = tw (gO 2) (s.drop (p + 1)) + 1 from by
        show (if gO 2 x = true then _ else _) = _
        rw [if_pos (by unfold gO; rw [e]; rfl)]] at hq
      rw [show off + (p + 1) + tw (gO 2) (s.drop (p + 1)) = off + p + (tw (gO 2) (s.drop (p + 1)) + 1) by omega]
      exact hq
theorem rc_eq {k j : Nat} (hk : k < 10) (hj : j = 1 ∨ j = 2 ∨ j = 3) : nI (rc k) = nI j ↔ k = j := by
  have hk' : k = 0 ∨ k = 1 ∨ k = 2 ∨ k = 3 ∨ k = 4 ∨ k = 5 ∨ k = 6 ∨ k = 7 ∨ k = 8 ∨ k = 9 := by omega
  rcases hk' with rfl | rfl | rfl | rfl | rfl | rfl | rfl | rfl | rfl | rfl <;> rcases hj with rfl | rfl | rfl <;> decide
theorem tkK_10 (c : Int32) (r : List Int32) : tkK c r < 10 := by
  unfold tkK
  repeat' split
  all_goals decide
theorem s_endAt (hM : MO P) (ho : off + s.length ≤ 640) (hc : Rc (I 96) off s) {p k : Nat} (hk : k < 10) (hp : p < s.length) (h : Q (nI (off + (p + 1 + tkN k (s.drop (p + 1))))) I P) : V E (d + 1) m_Model_endAt 112 Q 0 [some (.inr 95), some (.inl (nI (off + p))), some (.inl (nI (off + s.length))), some (.inl (nI (rc k))), none] [] 112 I P := by
  refine x_Model_endAt_0 _ _ _ _ ?_
  simp only [rc_eq hk (Or.inl rfl), rc_eq hk (Or.inr (Or.inl rfl)), rc_eq hk (Or.inr (Or.inr rfl))]
  unfold tkN at h
  rw [n1, n1]
  refine ⟨fun a => ?_, fun a => ?_⟩
  · rw [if_neg a] at h
    refine ⟨fun b => ⟨fun c => ?_, fun c => ?_⟩, fun b => ?_⟩
    · rw [if_neg (by omega)] at h
      exact h
    · rw [if_pos (Or.inr c)] at h
      rw [c] at h
      rw [Nat.add_assoc]
      exact l_endAt2 hM ho hc _ (p + 1) rfl (by omega) (by rw [Nat.add_assoc]; exact h)
    · rw [if_pos (Or.inl b)] at h
      rw [b] at h
      rw [Nat.add_assoc]
      exact l_endAt1 hM ho hc _ (p + 1) rfl (by omega) (by rw [Nat.add_assoc]; exact h)
  · rw [if_pos a] at h
    exact h
/-- tokens in the reference's rows, from place base on; their places in c from off on -/
def MR (I : mI) (base off : Nat) (A : List (Nat × Nat × Nat)) : Prop := ∀ (t k a b : Nat), A[t]? = some (k, a, b) → I 99 (base + t) = nI (rc k) ∧ I 100 (base + t) = nI (off + a) ∧ I 101 (base + t) = nI (off + b)
/-- only the rows sort, first and behind change, between lo and hi -/
def FrM (lo hi : Nat) (I I' : mI) : Prop := (∀ m, m ≠ 99 → m ≠ 100 → m ≠ 101 → I' m = I m) ∧ ∀ m j, (j < lo ∨ hi ≤ j) → I' m j = I m j
theorem FrM.rf {lo hi : Nat} {I : mI} : FrM lo hi I I := ⟨fun _ _ _ _ => rfl, fun _ _ _ => rfl⟩
theorem FrM.tr {lo hi : Nat} {I I' I'' : mI} (h : FrM lo hi I I') (h' : FrM lo hi I' I'') : FrM lo hi I I'' := ⟨fun m a b c => (h'.1 m a b c).trans (h.1 m a b c), fun m j hj => (h'.2 m j hj).trans (h.2 m j hj)⟩
def md1 (I : mI) (t : Nat) (k a b : Int32) : mI := uI (uI (uI I 99 t k) 100 t a) 101 t b
theorem md1_fr {I : mI} {t lo hi : Nat} {k a b : Int32} (h1 : lo ≤ t) (h2 : t < hi) : FrM lo hi I (md1 I t k a b) := by
  unfold md1
  refine ⟨fun m h1 h2 h3 => ?_, fun m j hj => ?_⟩
  · rw [uI_n h3, uI_n h2, uI_n h1]
  · have hjt : j ≠ t := by omega
    by_cases e1 : m = 101
    · subst e1
      rw [uI_o hjt, uI_n (by decide), uI_n (by decide)]
    · rw [uI_n e1]
      by_cases e2 : m = 100
      · subst e2
        rw [uI_o hjt, uI_n (by decide)]
      · rw [uI_n e2]
        by_cases e3 : m = 99
        · subst e3
          rw [uI_o hjt]
        · rw [uI_n e3]
theorem md1_mr {I : mI} {base off : Nat} {A : List (Nat × Nat × Nat)} {k a b : Nat} (h : MR I base off A) : MR (md1 I (base + A.length) (nI (rc k)) (nI (off + a)) (nI (off + b))) base off (A ++ [(k, a, b)]) := by
  unfold md1
  intro t k' a' b' ht
  rw [uI_n (by decide : 99 ≠ 101), uI_n (by decide : 99 ≠ 100), uI_n (by decide : 100 ≠ 101)]
  by_cases hl : t < A.length
  · rw [List.getElem?_append_left hl] at ht
    obtain ⟨g1, g2, g3⟩ := h t k' a' b' ht
    rw [uI_o (by omega), uI_o (by omega), uI_o (by omega), uI_n (by decide : 100 ≠ 99), uI_n (by decide : 101 ≠ 100), uI_n (by decide : 101 ≠ 99)]
    exact ⟨g1, g2, g3⟩
  · have e : t = A.length := by
      have := (List.getElem?_eq_some_iff.mp ht).1
      rw [List.length_append] at this
      simp at this
      omega
    subst e
    rw [List.getElem?_append_right (Nat.le_refl _), Nat.sub_self] at ht
    cases ht
    exact ⟨uI_s, uI_s, uI_s⟩
theorem l_comment (hM : MO P) (ho : off + s.length ≤ 640) (hc : Rc (I 96) off s) {base n : Nat} : ∀ (m p : Nat), s.length - p = m → p ≤ s.length → V E (d + 1) m_Model_tokenise 112 Q 11 [some (.inr 95), none, none, some (.inl (nI base)), some (.inl (nI n)), some (.inl (nI (off + (p + cmL (s.drop p))))), some (.inl (nI (off + s.length))), none] [] 112 I P →
    V E (d + 1) m_Model_tokenise 112 Q 60 [some (.inr 95), none, none, some (.inl (nI base)), some (.inl (nI n)), some (.inl (nI (off + p))), some (.inl (nI (off + s.length))), none] [] 112 I P := by
  have p0 := hM.1
  intro m
  induction m with
  | zero =>
    intro p hm hp hq
    have : p = s.length := by omega
    subst this
    refine x_Model_tokenise_60 _ _ _ _ _ (pk_le (off + s.length) (off + s.length) (fun _ => ?_) (fun h => absurd h (Nat.lt_irrefl _)))
    rw [List.drop_length] at hq
    exact hq
  | succ m ih =>
    intro p hm hp hq
    obtain ⟨x, hx, hd⟩ := drop_c (s := s) (p := p) (by omega)
    refine x_Model_tokenise_60 _ _ _ _ _ (pk_le (off + s.length) (off + p) (fun h => by omega) (fun _ => ?_))
    simp only [k95, p0, k96, nzl 96 (by decide), true_and]
    refine ⟨vp_in_nI (by omega) (by omega), ?_⟩
    rw [clp (by omega), hc p x hx]
    rw [hd] at hq
    refine ⟨fun e => ?_, fun e => ?_⟩
    · rw [show cmL (x :: s.drop (p + 1)) = 0 from by unfold cmL tw; rw [e]; rfl] at hq
      exact hq
    · rw [n1, Nat.add_assoc]
      refine ih (p + 1) (by omega) (by omega) ?_
      rw [show cmL (x :: s.drop (p + 1)) = cmL (s.drop (p + 1)) + 1 from by
        unfold cmL
        show (if (!(x == nI 10)) = true then _ else _) = _
        rw [if_pos (by simpa using e)]] at hq
      rw [show p + 1 + cmL (s.drop (p + 1)) = p + (cmL (s.drop (p + 1)) + 1) by omega]
      exact hq
end MT
section MK
variable {E : XE} {d : Nat} {Q : Int32 → mI → mP → Prop} {P : mP} {s : List Int32} {off base : Nat}
theorem l_tokenise (hM : MO P) (ho : off + s.length ≤ 640) (hb : base + s.length ≤ 192) : ∀ (m p : Nat) (acc : List Int32) (A : List (Nat × Nat × Nat)) (I : mI), s.length - p ≤ m → p ≤ s.length → acc.length ≤ p → A.length ≤ p → Rc (I 96) off s → MR I base off A →
    (∀ I', FrM base (base + s.length) I I' → MR I' base off (A ++ psn (p - acc.length) (lx s.length (s.drop p) acc).1) → Q (nI (A ++ psn (p - acc.length) (lx s.length (s.drop p) acc).1).length) I' P) →
    V E (d + 2) m_Model_tokenise 112 Q 11 [some (.inr 95), none, none, some (.inl (nI base)), some (.inl (nI A.length)), some (.inl (nI (off + p))), some (.inl (nI (off + s.length))), none] [] 112 I P := by
  have hM' := hM
  obtain ⟨p0, -, -, p9, p10, p11, -⟩ := hM'
  have fin : ∀ (p : Nat) (acc : List Int32) (A : List (Nat × Nat × Nat)) (I : mI), p = s.length → MR I base off A →
    (∀ I', FrM base (base + s.length) I I' → MR I' base off (A ++ psn (p - acc.length) (lx s.length (s.drop p) acc).1) → Q (nI (A ++ psn (p - acc.length) (lx s.length (s.drop p) acc).1).length) I' P) →
    V E (d + 2) m_Model_tokenise 112 Q 11 [some (.inr 95), none, none, some (.inl (nI base)), some (.inl (nI A.length)), some (.inl (nI (off + p))), some (.inl (nI (off + s.length))), none] [] 112 I P := by
    intro p acc A I hp hR h
    subst hp
    refine x_Model_tokenise_11 _ _ _ _ _ (pk_le (off + s.length) (off + s.length) (fun _ => ?_) (fun h => absurd h (Nat.lt_irrefl _)))
    have := h I FrM.rf
    rw [List.drop_length, lx_nil] at this
    simp only [psn, List.append_nil] at this
    exact this hR
  intro m
  induction m with
  | zero =>
    intro p acc A I hm hp ha hA hc hR h
    exact fin p acc A I (by omega) hR h
  | succ m ih =>
    intro p acc A I hm hp ha hA hc hR h
    by_cases hpl : p < s.length
    · obtain ⟨c, hx, hd⟩ := drop_c (s := s) (p := p) hpl
      obtain ⟨n0, hn0⟩ : ∃ n0, s.length = n0 + 1 := ⟨s.length - 1, by omega⟩
      have hfu : ∀ k a, lx n0 ((s.drop (p + 1)).drop k) a = lx s.length (s.drop (p + 1 + k)) a := fun k a => by
        rw [List.drop_drop]
        exact lx_fuel _ _ _ _ (by rw [List.length_drop]; omega) (by rw [List.length_drop]; omega)
      rw [hd] at h
      have hlx := lx_cons n0 c (s.drop (p + 1)) acc
      rw [← hn0] at hlx
      rw [hlx] at h
      clear hlx
      refine x_Model_tokenise_11 _ _ _ _ _ (pk_le (off + s.length) (off + p) (fun h => by omega) (fun _ => ?_))
      simp only [k95, p0, k96, nzl 96 (by decide), true_and]
      have hin : vp_in (nI (off + p)) 640 := vp_in_nI (by omega) (by omega)
      rw [clp (by omega), hc p c hx]
      have blank : isSp c = true → V E (d + 2) m_Model_tokenise 112 Q 11 [some (.inr 95), none, none, some (.inl (nI base)), some (.inl (nI A.length)), some (.inl (nI (off + p) + nI 1)), some (.inl (nI (off + s.length))), none] [] 112 I P := by
        intro hsp
        rw [n1, Nat.add_assoc]
        rw [if_pos hsp] at h
        have e1 := hfu 0 (acc ++ [c])
        rw [List.drop_zero, Nat.add_zero] at e1
        rw [e1] at h
        refine ih (p + 1) (acc ++ [c]) A I (by omega) (by omega) (by simp; omega) (by omega) hc hR ?_
        rw [show p + 1 - (acc ++ [c]).length = p - acc.length by simp]
        exact h
      refine ⟨hin, fun a32 => blank (by unfold isSp; rw [a32]; decide), fun a32 => ⟨hin, fun a10 => ⟨hin, fun a35 => ?_, fun a35 => ?_⟩, fun a10 => blank (by unfold isSp; rw [a10]; decide)⟩⟩
      · have hsp : isSp c = false := by
          unfold isSp
          simp [a32, a10]
        rw [if_neg (by rw [hsp]; decide), if_neg a35, hfu] at h
        refine s_sortAt hM ho hc hx ?_
        have hkl := tkN_le c (s.drop (p + 1))
        rw [List.length_drop] at hkl
        simp only [p9, p10, k99, k100, nzl 99 (by decide), nzl 100 (by decide), true_and]
        have hin2 : vp_in (nI base + nI A.length) 192 := by rw [nI_add]; exact vp_in_nI (by omega) (by omega)
        refine ⟨hin2, hin2, ?_⟩
        refine s_endAt hM ho ?_ (tkK_10 _ _) hpl ?_
        · rw [uI_n (by decide), uI_n (by decide)]
          exact hc
        · simp only [p11, k101, nzl 101 (by decide), true_and]
          refine ⟨hin2, ?_⟩
          rw [n1, nI_add base, clp (by omega)]
          have e2 : p - acc.length + acc.length = p := by omega
          have e3 : (c :: (s.drop (p + 1)).take (tkN (tkK c (s.drop (p + 1))) (s.drop (p + 1)))).length = 1 + tkN (tkK c (s.drop (p + 1))) (s.drop (p + 1)) := by
            rw [List.length_cons, List.length_take, List.length_drop, Nat.min_eq_left (by omega)]
            omega
          have e4 : A ++ psn (p - acc.length) ((acc, tkK c (s.drop (p + 1)), c :: (s.drop (p + 1)).take (tkN (tkK c (s.drop (p + 1))) (s.drop (p + 1)))) :: (lx s.length (s.drop (p + 1 + tkN (tkK c (s.drop (p + 1))) (s.drop (p + 1)))) []).1) =
              (A ++ [(tkK c (s.drop (p + 1)), p, p + 1 + tkN (tkK c (s.drop (p + 1))) (s.drop (p + 1)))]) ++ psn (p + 1 + tkN (tkK c (s.drop (p + 1))) (s.drop (p + 1))) (lx s.length (s.drop (p + 1 + tkN (tkK c (s.drop (p + 1))) (s.drop (p + 1)))) []).1 := by
            rw [psn_c, e2, e3, ← Nat.add_assoc]
            simp
          dsimp only at h
          rw [e4] at h
          have hR' := md1_mr (k := tkK c (s.drop (p + 1))) (a := p) (b := p + 1 + tkN (tkK c (s.drop (p + 1))) (s.drop (p + 1))) hR
          have hf0 := md1_fr (I := I) (t := base + A.length) (lo := base) (hi := base + s.length) (k := nI (rc (tkK c (s.drop (p + 1))))) (a := nI (off + p)) (b := nI (off + (p + 1 + tkN (tkK c (s.drop (p + 1))) (s.drop (p + 1))))) (by omega) (by omega)
          have hV := ih (p + 1 + tkN (tkK c (s.drop (p + 1))) (s.drop (p + 1))) [] (A ++ [(tkK c (s.drop (p + 1)), p, p + 1 + tkN (tkK c (s.drop (p + 1))) (s.drop (p + 1)))]) _ (by omega) (by omega) (by simp) (by simp; omega) (by rw [hf0.1 96 (by decide) (by decide) (by decide)]; exact hc) hR' (fun I' hf hr => h I' (hf0.tr hf) hr)
          rw [show (A ++ [(tkK c (s.drop (p + 1)), p, p + 1 + tkN (tkK c (s.drop (p + 1))) (s.drop (p + 1)))]).length = A.length + 1 by simp] at hV
          exact hV
      · have hsp : isSp c = false := by rw [a35]; decide
        rw [if_neg (by rw [hsp]; decide), if_pos a35, hfu] at h
        refine l_comment hM ho hc _ p rfl hp ?_
        have hcl : cmL (s.drop (p + 1)) ≤ s.length - (p + 1) := by
          have := tw_le (fun x => !(x == nI 10)) (s.drop (p + 1))
          rw [List.length_drop] at this
          exact this
        have e1 : cmL (s.drop p) = 1 + cmL (s.drop (p + 1)) := by
          rw [hd]
          unfold cmL
          show (if (!(c == nI 10)) = true then _ else _) = _
          rw [if_pos (by rw [a35]; decide), Nat.add_comm]
        have e2 : (acc ++ c :: (s.drop (p + 1)).take (cmL (s.drop (p + 1)))).length = acc.length + (1 + cmL (s.drop (p + 1))) := by
          rw [List.length_append, List.length_cons, List.length_take, List.length_drop, Nat.min_eq_left hcl]
          omega
        rw [e1, ← Nat.add_assoc p]
        refine ih (p + 1 + cmL (s.drop (p + 1))) (acc ++ c :: (s.drop (p + 1)).take (cmL (s.drop (p + 1)))) A I (by omega) (by omega) (by omega) (by omega) hc hR ?_
        rw [e2, show p + 1 + cmL (s.drop (p + 1)) - (acc.length + (1 + cmL (s.drop (p + 1)))) = p - acc.length by omega]
        exact h
    · exact fin p acc A I (by omega) hR h
theorem s_tokenise (hM : MO P) (ho : off + s.length ≤ 640) (hb : base + s.length ≤ 192) {I : mI} (hc : Rc (I 96) off s) (h : ∀ I', FrM base (base + s.length) I I' → MR I' base off (tks s) → Q (nI (tks s).length) I' P) : V E (d + 2) m_Model_tokenise 112 Q 0 [some (.inr 95), some (.inl (nI off)), some (.inl (nI s.length)), some (.inl (nI base)), none, none, none, none] [] 112 I P := by
  refine x_Model_tokenise_0 _ _ _ _ ?_
  rw [nI_add]
  exact l_tokenise hM ho hb s.length 0 [] [] I (by omega) (by omega) (by simp) (by simp) hc (fun t k a b ht => by simp at ht) (fun I' hf hr => h I' hf hr)
end MK
end
section
/-! Expressions over the kinds of tokens: how many tokens, how deep. -/
def ldg (hol : Bool) : Nat → Bool → List Nat → Option (Nat × Nat)
  | 0, _, _ => none
  | n + 1, true, l => (match l with
    | 1 :: 4 :: 5 :: _ => some (3, 1)
    | 1 :: 4 :: a => (ldg hol n false a).map (fun q => (q.1 + 2, q.2 + 1))
    | 1 :: _ => some (1, 0)
    | 2 :: _ => some (1, 0)
    | 3 :: _ => if hol = true then some (1, 0) else none
    | _ => none)
  | n + 1, false, l => (match ldg hol n true l with
    | none => none
    | some (m, dp) => (match l.drop m with
      | 5 :: _ => some (m + 1, dp)
      | 6 :: r => (ldg hol n false r).map (fun q => (m + 1 + q.1, max dp q.2))
      | _ => none))
def lmu (b : Bool) (l : List Nat) : Nat := 2 * l.length + (match b with
  | true => 1
  | false => 2)
theorem ldg_b {hol : Bool} : ∀ (n : Nat) (b : Bool) (l : List Nat) (m dp : Nat), ldg hol n b l = some (m, dp) → 1 ≤ m ∧ m ≤ l.length
  | 0, _, _, _, _, h => by cases h
  | n + 1, true, l, m, dp, h => by
    unfold ldg at h
    split at h
    · cases h
      simp
    · rename_i a _
      cases ha : ldg hol n false a with
      | none => rw [ha] at h; cases h
      | some q =>
        obtain ⟨m', dp'⟩ := q
        rw [ha] at h
        cases h
        have := ldg_b n false a m' dp' ha
        simp
        omega
    · cases h
      simp
    · cases h
      simp
    · split at h
      · cases h
        simp
      · cases h
    · cases h
  | n + 1, false, l, m, dp, h => by
    unfold ldg at h
    cases ha : ldg hol n true l with
    | none => rw [ha] at h; cases h
    | some q =>
      obtain ⟨m', dp'⟩ := q
      rw [ha] at h
      dsimp only at h
      have h1 := ldg_b n true l m' dp' ha
      split at h
      · rename_i r hr
        cases h
        have : (l.drop m').length = r.length + 1 := by rw [hr]; rfl
        rw [List.length_drop] at this
        omega
      · rename_i r hr
        have hl : (l.drop m').length = r.length + 1 := by rw [hr]; rfl
        rw [List.length_drop] at hl
        cases hb : ldg hol n false r with
        | none => rw [hb] at h; cases h
        | some q =>
          obtain ⟨m2, dp2⟩ := q
          rw [hb] at h
          cases h
          have := ldg_b n false r m2 dp2 hb
          omega
      · cases h
theorem ldg_f {hol : Bool} : ∀ (n n' : Nat) (b : Bool) (l : List Nat), lmu b l ≤ n → lmu b l ≤ n' → ldg hol n b l = ldg hol n' b l
  | 0, _, b, l, h, _ => by cases b <;> simp [lmu] at h
  | _, 0, b, l, _, h => by cases b <;> simp [lmu] at h
  | n + 1, n' + 1, true, l, h, h' => by
    unfold ldg
    split
    · rfl
    · rename_i a _
      rw [ldg_f n n' false a (by simp [lmu] at h ⊢; omega) (by simp [lmu] at h' ⊢; omega)]
    · rfl
    · rfl
    · rfl
    · rfl
  | n + 1, n' + 1, false, l, h, h' => by
    unfold ldg
    rw [ldg_f n n' true l (by simp [lmu] at h ⊢; omega) (by simp [lmu] at h' ⊢; omega)]
    cases ha : ldg hol n' true l with
    | none => rfl
    | some q =>
      obtain ⟨m, dp⟩ := q
      dsimp only
      have h1 := ldg_b n' true l m dp ha
      split
      · rfl
      · rename_i r hr
        have hl : (l.drop m).length = r.length + 1 := by rw [hr]; rfl
        rw [List.length_drop] at hl
        rw [ldg_f n n' false r (by simp [lmu] at h ⊢; omega) (by simp [lmu] at h' ⊢; omega)]
      · rfl
/-- an expression at the front: its number of tokens and its depth -/
def le_ (hol : Bool) (l : List Nat) : Option (Nat × Nat) := ldg hol (lmu true l) true l
/-- arguments at the front, at least one, with the closing bracket -/
def la_ (hol : Bool) (l : List Nat) : Option (Nat × Nat) := ldg hol (lmu false l) false l
theorem le_eq (hol : Bool) (l : List Nat) : le_ hol l = (match l with
    | 1 :: 4 :: 5 :: _ => some (3, 1)
    | 1 :: 4 :: a => (la_ hol a).map (fun q => (q.1 + 2, q.2 + 1))
    | 1 :: _ => some (1, 0)
    | 2 :: _ => some (1, 0)
    | 3 :: _ => if hol = true then some (1, 0) else none
    | _ => none) := by
  unfold le_
  rw [show lmu true l = 2 * l.length + 1 from rfl]
  unfold ldg
  split
  · rfl
  · rename_i a _
    unfold la_
    rw [ldg_f _ (lmu false a) false a (by simp [lmu]; omega) (Nat.le_refl _)]
  · rfl
  · rfl
  · rfl
  · rfl
theorem la_eq (hol : Bool) (l : List Nat) : la_ hol l = (match le_ hol l with
    | none => none
    | some (m, dp) => (match l.drop m with
      | 5 :: _ => some (m + 1, dp)
      | 6 :: r => (la_ hol r).map (fun q => (m + 1 + q.1, max dp q.2))
      | _ => none)) := by
  unfold la_ le_
  rw [show lmu false l = 2 * l.length + 1 + 1 from rfl, show lmu true l = 2 * l.length + 1 from rfl]
  conv => lhs; unfold ldg
  cases ha : ldg hol (2 * l.length + 1) true l with
  | none => rfl
  | some q =>
    obtain ⟨m, dp⟩ := q
    dsimp only
    have h1 := ldg_b _ true l m dp ha
    split
    · rfl
    · rename_i r hr
      have hl : (l.drop m).length = r.length + 1 := by rw [hr]; rfl
      rw [List.length_drop] at hl
      rw [ldg_f _ (lmu false r) false r (by simp [lmu]; omega) (Nat.le_refl _)]
    · rfl
theorem le_b {hol : Bool} {l : List Nat} {m dp : Nat} (h : le_ hol l = some (m, dp)) : 1 ≤ m ∧ m ≤ l.length := ldg_b _ _ _ _ _ h
theorem la_b {hol : Bool} {l : List Nat} {m dp : Nat} (h : la_ hol l = some (m, dp)) : 1 ≤ m ∧ m ≤ l.length := ldg_b _ _ _ _ _ h
theorem le_c5 {hol : Bool} (r : List Nat) : le_ hol (1 :: 4 :: 5 :: r) = some (3, 1) := by rw [le_eq]; rfl
theorem le_call {hol : Bool} {a : List Nat} (h : ∀ r, a ≠ 5 :: r) : le_ hol (1 :: 4 :: a) = (la_ hol a).map (fun q => (q.1 + 2, q.2 + 1)) := by
  rw [le_eq]
  split
  · rename_i r hq
    injection hq with _ hq
    injection hq with _ hq
    exact absurd hq (h _)
  · rename_i hq
    injection hq with _ hq
    injection hq with _ hq
    rw [hq]
  · rename_i _ h2 hq
    injection hq with _ hq
    exact absurd hq.symm (h2 _)
  · rename_i hq
    injection hq with hq _
    cases hq
  · rename_i hq
    injection hq with hq _
    cases hq
  · rename_i _ h2 _ _ _
    exact absurd rfl (h2 _)
theorem le_name {hol : Bool} {r : List Nat} (h : ∀ r', r ≠ 4 :: r') : le_ hol (1 :: r) = some (1, 0) := by
  rw [le_eq]
  split
  · rename_i hq
    injection hq with _ hq
    exact absurd hq (h _)
  · rename_i hq
    injection hq with _ hq
    exact absurd hq (h _)
  · rfl
  · rfl
  · rename_i hq
    injection hq with hq _
    cases hq
  · rename_i _ _ h3 _ _
    exact absurd rfl (h3 _)
theorem le_num {hol : Bool} (r : List Nat) : le_ hol (2 :: r) = some (1, 0) := by rw [le_eq]; rfl
theorem le_hole {hol : Bool} (r : List Nat) : le_ hol (3 :: r) = if hol = true then some (1, 0) else none := by rw [le_eq]; rfl
theorem le_oth {hol : Bool} {k : Nat} (r : List Nat) (h1 : k ≠ 1) (h2 : k ≠ 2) (h3 : k ≠ 3) : le_ hol (k :: r) = none := by
  rw [le_eq]
  split
  · rename_i hq
    injection hq with hq _
    exact absurd hq h1
  · rename_i hq
    injection hq with hq _
    exact absurd hq h1
  · rename_i hq
    injection hq with hq _
    exact absurd hq h1
  · rename_i hq
    injection hq with hq _
    exact absurd hq h2
  · rename_i hq
    injection hq with hq _
    exact absurd hq h3
  · rfl
theorem le_nil {hol : Bool} : le_ hol [] = none := by cases hol <;> decide
theorem la_nil {hol : Bool} : la_ hol [] = none := by cases hol <;> decide
theorem la_n {hol : Bool} {l : List Nat} (h : le_ hol l = none) : la_ hol l = none := by rw [la_eq, h]
theorem la_5 {hol : Bool} {l r : List Nat} {m dp : Nat} (h : le_ hol l = some (m, dp)) (h5 : l.drop m = 5 :: r) : la_ hol l = some (m + 1, dp) := by rw [la_eq, h]; dsimp only; rw [h5]; rfl
theorem la_6 {hol : Bool} {l r : List Nat} {m dp : Nat} (h : le_ hol l = some (m, dp)) (h6 : l.drop m = 6 :: r) : la_ hol l = (la_ hol r).map (fun q => (m + 1 + q.1, max dp q.2)) := by
  conv => lhs; rw [la_eq, h]
  dsimp only
  rw [h6]
  rfl
theorem la_o {hol : Bool} {l : List Nat} {m dp : Nat} (h : le_ hol l = some (m, dp)) (h5 : ∀ r, l.drop m ≠ 5 :: r) (h6 : ∀ r, l.drop m ≠ 6 :: r) : la_ hol l = none := by
  rw [la_eq, h]
  dsimp only
  split
  · rename_i hq
    exact absurd hq (h5 _)
  · rename_i hq
    exact absurd hq (h6 _)
  · rfl
end
section
/-! The class's search for the end of an expression. -/
theorem m1_ne {k : Nat} (h : k < 2 ^ 31) : ¬ -(nI 1) = nI k := fun e => by
  have := congrArg Int32.toInt e
  rw [nI_t h] at this
  have h2 : (-(nI 1)).toInt = -1 := by decide
  omega
theorem m1_lt : -(nI 1) < (0 : Int32) := by decide
def KR (I : mI) (o : Nat) (ks : List Nat) : Prop := I o 6 = nI ks.length ∧ ∀ (t k : Nat), ks[t]? = some k → I (o + 3) t = nI k
def kAt (ks : List Nat) (t : Nat) : Int32 := match ks[t]? with
  | some k => nI k
  | none => -(nI 1)
def icn (ks : List Nat) (t : Nat) : Bool := ks[t]? == some 1 && ks[t + 1]? == some 4
def k10 (ks : List Nat) : Prop := ∀ k ∈ ks, k < 10
theorem kAt_eq {ks : List Nat} {t j : Nat} (h : k10 ks) (hj : j < 2 ^ 31) : kAt ks t = nI j ↔ ks[t]? = some j := by
  unfold kAt
  cases hk : ks[t]? with
  | none =>
    dsimp only
    exact ⟨fun e => absurd e (m1_ne hj), fun e => by cases e⟩
  | some k =>
    dsimp only
    have := h k (List.mem_of_getElem? hk)
    rw [nI_eq (by omega) hj]
    exact ⟨fun e => by rw [e], fun e => by cases e; rfl⟩
section EX
variable {E : XE} {d : Nat} {Q : Int32 → mI → mP → Prop} {I : mI} {P : mP} {o N : Nat} {ks : List Nat}
theorem s_kAt (hT : TO P o N) (hN : N < 2 ^ 30) (hR : KR I o ks) (hl : ks.length ≤ N) {t : Nat} (ht : t < 2 ^ 31) (h : Q (kAt ks t) I P) : V E d m_Text_kindAt 112 Q 0 [some (.inr o), some (.inl (nI t))] [] 112 I P := by
  refine s_kindAt hT (by omega) hR.1 hl (fun t' ht' e => ?_) (fun hne => ?_)
  · have e' : t = t' := (nI_eq ht (by omega)).mp e
    subst e'
    unfold kAt at h
    rw [List.getElem?_eq_getElem ht'] at h
    rw [hR.2 t _ (List.getElem?_eq_getElem ht')]
    exact h
  · have : ks[t]? = none := by
      rw [List.getElem?_eq_none_iff]
      exact Nat.le_of_not_lt fun q => hne t q rfl
    unfold kAt at h
    rw [this] at h
    exact h
theorem s_kAtM (hT : TO P o N) (hN : N < 2 ^ 30) (hR : KR I o ks) (hl : ks.length ≤ N) (h : Q (-(nI 1)) I P) : V E d m_Text_kindAt 112 Q 0 [some (.inr o), some (.inl (-(nI 1)))] [] 112 I P :=
  s_kindAt hT (by omega) hR.1 hl (fun t' ht' e => absurd e (m1_ne (by omega))) (fun _ => h)
theorem s_isHole (hT : TO P o N) (hN : N < 2 ^ 30) (hR : KR I o ks) (hl : ks.length ≤ N) (hk : k10 ks) {t : Nat} (ht : t < 2 ^ 31) (h : Q (bI (ks[t]? == some 3)) I P) : V E (d + 1) m_Text_isHole 112 Q 0 [some (.inr o), some (.inl (nI t))] [] 112 I P := by
  refine x_Text_isHole_0 _ _ ⟨hT.1, s_kAt hT hN hR hl ht ?_⟩
  simp only [kAt_eq hk (show 3 < 2 ^ 31 by decide)]
  refine ⟨fun e => ?_, fun e => ?_⟩
  · rw [beq_eq_false_iff_ne.mpr e] at h
    exact ⟨rfl, h⟩
  · rw [e] at h
    exact ⟨rfl, h⟩
theorem s_isCallName (hT : TO P o N) (hN : N < 2 ^ 30) (hR : KR I o ks) (hl : ks.length ≤ N) (hk : k10 ks) {t : Nat} (ht : t < 2 ^ 30) (h : Q (bI (icn ks t)) I P) : V E d m_Text_isCallName 112 Q 0 [some (.inr o), some (.inl (nI t))] [] 112 I P := by
  obtain ⟨t0, -, -, ⟨p2, k2⟩, -⟩ := hT
  refine x_Text_isCallName_0 _ _ ?_
  simp only [t0, p2, k2, nzz 3 (by decide), true_and, hR.1]
  refine ⟨fun a => absurd a (nI_pos (by omega)), fun _ => ?_⟩
  unfold icn at h
  cases hn : ks.length with
  | zero =>
    have hz : ks = [] := List.length_eq_zero_iff.mp hn
    subst hz
    refine ⟨fun _ => ⟨rfl, h⟩, fun a => absurd ?_ a⟩
    rw [Int32.le_iff_toInt_le, nI_t (by omega)]
    have : (nI 0 - nI 1).toInt = -1 := by decide
    omega
  | succ n =>
    rw [pk_sub (by omega), Nat.add_sub_cancel]
    refine pk_le n t (fun g => ?_) (fun g => ⟨vp_in_nI (by omega) (by omega), ?_⟩)
    · have : ks[t + 1]? = none := by rw [List.getElem?_eq_none_iff]; omega
      rw [this, show ((none : Option Nat) == some 4) = false from rfl, Bool.and_false] at h
      exact ⟨rfl, h⟩
    · have e1 := List.getElem?_eq_getElem (l := ks) (i := t) (by omega)
      have e2 := List.getElem?_eq_getElem (l := ks) (i := t + 1) (by omega)
      have b1 := hk _ (List.mem_of_getElem? e1)
      have b2 := hk _ (List.mem_of_getElem? e2)
      rw [e1, e2] at h
      rw [n1, clp (by omega), clp (by omega), hR.2 t _ e1, hR.2 (t + 1) _ e2]
      refine ⟨fun c => ?_, fun c => ⟨vp_in_nI (by omega) (by omega), fun c2 => ?_, fun c2 => ?_⟩⟩
      · rw [nI_eq (by omega) (by decide)] at c
        rw [show (some ks[t] == some 1) = false from by simpa using c, Bool.false_and] at h
        exact ⟨rfl, h⟩
      · rw [nI_eq (by omega) (by decide)] at c2
        rw [show (some ks[t + 1] == some 4) = false from by simpa using c2, Bool.and_false] at h
        exact ⟨rfl, h⟩
      · rw [nI_eq (by omega) (by decide)] at c c2
        rw [c, c2] at h
        exact ⟨rfl, h⟩
def bxv (a t : Nat) (q : Option (Nat × Nat)) : Int32 := match q with
  | some (m, dp) => if a + dp ≤ 12 then nI (t + m) else -(nI 1)
  | none => -(nI 1)
theorem icn_drop (ks : List Nat) (t : Nat) : icn ks t = true ↔ ∃ r, ks.drop t = 1 :: 4 :: r := by
  unfold icn
  rw [Bool.and_eq_true, beq_iff_eq, beq_iff_eq]
  constructor
  · rintro ⟨h1, h2⟩
    obtain ⟨l1, e1⟩ := List.getElem?_eq_some_iff.mp h1
    obtain ⟨l2, e2⟩ := List.getElem?_eq_some_iff.mp h2
    refine ⟨ks.drop (t + 1 + 1), ?_⟩
    rw [List.drop_eq_getElem_cons l1, List.drop_eq_getElem_cons l2, e1, e2]
  · rintro ⟨r, hr⟩
    have h1 : (ks.drop t)[0]? = some 1 := by rw [hr]; rfl
    have h2 : (ks.drop t)[1]? = some 4 := by rw [hr]; rfl
    rw [List.getElem?_drop] at h1 h2
    exact ⟨h1, h2⟩
theorem drop_k {ks : List Nat} {t k : Nat} (h : ks[t]? = some k) : ks.drop t = k :: ks.drop (t + 1) := by
  obtain ⟨l1, e1⟩ := List.getElem?_eq_some_iff.mp h
  rw [List.drop_eq_getElem_cons l1, e1]
theorem la_ge {hol : Bool} {l : List Nat} {m dp M D : Nat} (h : le_ hol l = some (m, dp)) (h2 : la_ hol l = some (M, D)) : dp ≤ D := by
  rw [la_eq, h] at h2
  dsimp only at h2
  split at h2
  · cases h2
    exact Nat.le_refl _
  · rename_i r _
    cases hr : la_ hol r with
    | none => rw [hr] at h2; cases h2
    | some q =>
      rw [hr] at h2
      cases h2
      exact Nat.le_max_left _ _
  · cases h2
theorem l_behindArguments (hT : TO P o N) (hN : N < 2 ^ 20) (hR : KR I o ks) (hl : ks.length ≤ N) (hk : k10 ks) {a D : Nat} (ha : a ≤ 12)
    (hBE : ∀ (Q : Int32 → mI → mP → Prop) (t : Nat), t < 2 ^ 22 → Q (bxv a t (le_ true (ks.drop t))) I P → V E D m_Text_behindExpression 112 Q 0 [some (.inr o), some (.inl (nI t)), some (.inl (nI a)), none] [] 112 I P) :
    ∀ (m t cnt : Nat), ks.length - t ≤ m → cnt ≤ t → t < 2 ^ 21 → Q (bxv a t (la_ true (ks.drop t))) I P → V E (D + 1) m_Text_behindArguments 112 Q 18 [some (.inr o), none, some (.inl (nI a)), some (.inl (nI t)), some (.inl (nI cnt)), none, none] [] 112 I P := by
  intro m
  induction m with
  | zero =>
    intro t cnt hm hc ht hq
    have hd : ks.drop t = [] := List.drop_eq_nil_of_le (by omega)
    rw [hd, show la_ true [] = none from by decide] at hq
    refine x_Text_behindArguments_18 _ _ _ _ ⟨hT.1, ?_⟩
    rw [hR.1]
    refine pk_le ks.length cnt (fun _ => hq) (fun _ => ⟨hT.1, hBE _ t (by omega) ?_⟩)
    rw [hd, show le_ true [] = none from by decide]
    refine ⟨hT.1, s_kAtM hT (by omega) hR hl ⟨fun _ => ⟨fun e => absurd e (m1_ne (by decide)), fun _ => hq⟩, fun e => absurd e (m1_ne (by decide))⟩⟩
  | succ m ih =>
    intro t cnt hm hc ht hq
    refine x_Text_behindArguments_18 _ _ _ _ ⟨hT.1, ?_⟩
    rw [hR.1]
    refine pk_le ks.length cnt (fun g => ?_) (fun _ => ⟨hT.1, hBE _ t (by omega) ?_⟩)
    · have hd : ks.drop t = [] := List.drop_eq_nil_of_le (by omega)
      rw [hd, show la_ true [] = none from by decide] at hq
      exact hq
    · refine ⟨hT.1, ?_⟩
      have hla := la_eq true (ks.drop t)
      have bad : Q (-(nI 1)) I P → V E D m_Text_kindAt 112 (fun r2 I2 P2 => (¬ r2 = (nI 5) → (r2 = (nI 6) → V E (D + 1) m_Text_behindArguments 112 Q 18 [some (.inr o), none, some (.inl (nI a)), some (.inl ((-(nI 1)) + (nI 1))), some (.inl ((nI cnt) + (nI 1))), none, none] [] 112 I2 P2) ∧ (¬ r2 = (nI 6) → Q (-(nI 1)) I2 P2)) ∧ (r2 = (nI 5) → Q ((-(nI 1)) + (nI 1)) I2 P2)) 0 [some (.inr o), some (.inl (-(nI 1)))] [] 112 I P := fun hq =>
        s_kAtM hT (by omega) hR hl ⟨fun _ => ⟨fun e => absurd e (m1_ne (by decide)), fun _ => hq⟩, fun e => absurd e (m1_ne (by decide))⟩
      cases hle : le_ true (ks.drop t) with
      | none =>
        rw [hle] at hla
        rw [hla] at hq
        exact bad hq
      | some q =>
        obtain ⟨mm, dp⟩ := q
        by_cases hdp : a + dp ≤ 12
        · have e1 : bxv a t (some (mm, dp)) = nI (t + mm) := if_pos hdp
          rw [e1]
          have hb := le_b hle
          rw [List.length_drop] at hb
          rw [hle] at hla
          dsimp only at hla
          rw [List.drop_drop] at hla
          refine s_kAt hT (by omega) hR hl (by omega) ?_
          simp only [kAt_eq hk (show 5 < 2 ^ 31 by decide), kAt_eq hk (show 6 < 2 ^ 31 by decide)]
          rw [n1, n1]
          refine ⟨fun c5 => ⟨fun c6 => ?_, fun c6 => ?_⟩, fun c5 => ?_⟩
          · refine ih (t + mm + 1) (cnt + 1) (by omega) (by omega) (by omega) ?_
            rw [drop_k c6] at hla
            replace hla : la_ true (ks.drop t) = (la_ true (ks.drop (t + mm + 1))).map (fun q => (mm + 1 + q.1, max dp q.2)) := hla
            rw [hla] at hq
            cases hr : la_ true (ks.drop (t + mm + 1)) with
            | none => rw [hr] at hq; exact hq
            | some q =>
              obtain ⟨m2, d2⟩ := q
              rw [hr] at hq
              have hq : Q (if a + max dp d2 ≤ 12 then nI (t + (mm + 1 + m2)) else -(nI 1)) I P := hq
              show Q (if a + d2 ≤ 12 then nI (t + mm + 1 + m2) else -(nI 1)) I P
              by_cases h2 : a + d2 ≤ 12
              · rw [if_pos (by omega)] at hq
                rw [if_pos h2, show t + mm + 1 + m2 = t + (mm + 1 + m2) by omega]
                exact hq
              · rw [if_neg (by omega)] at hq
                rw [if_neg h2]
                exact hq
          · have : la_ true (ks.drop t) = none := by
              rw [hla]
              split
              · rename_i r hr
                have : (ks.drop (t + mm))[0]? = some 5 := by rw [hr]; rfl
                rw [List.getElem?_drop] at this
                exact absurd this c5
              · rename_i r hr
                have : (ks.drop (t + mm))[0]? = some 6 := by rw [hr]; rfl
                rw [List.getElem?_drop] at this
                exact absurd this c6
              · rfl
            rw [this] at hq
            exact hq
          · rw [drop_k c5] at hla
            rw [hla] at hq
            have hq : Q (if a + dp ≤ 12 then nI (t + (mm + 1)) else -(nI 1)) I P := hq
            rw [if_pos hdp] at hq
            exact hq
        · have e1 : bxv a t (some (mm, dp)) = -(nI 1) := if_neg hdp
          rw [e1]
          refine bad ?_
          cases hr : la_ true (ks.drop t) with
          | none => rw [hr] at hq; exact hq
          | some q =>
            obtain ⟨m2, d2⟩ := q
            have := la_ge hle hr
            rw [hr] at hq
            have hq : Q (if a + d2 ≤ 12 then nI (t + m2) else -(nI 1)) I P := hq
            rw [if_neg (by omega)] at hq
            exact hq
def bav (a t : Nat) (l : List Nat) : Int32 := match l with
  | 5 :: _ => nI (t + 1)
  | l => bxv a t (la_ true l)
theorem be_of (hT : TO P o N) (hN : N < 2 ^ 20) (hR : KR I o ks) (hl : ks.length ≤ N) (hk : k10 ks) {a D : Nat} (ha : a ≤ 12)
    (hBA : a < 12 → ∀ (Q : Int32 → mI → mP → Prop) (t : Nat), t < 2 ^ 21 → Q (bav (a + 1) t (ks.drop t)) I P → V E D m_Text_behindArguments 112 Q 0 [some (.inr o), some (.inl (nI t)), some (.inl (nI (a + 1))), none, none, none, none] [] 112 I P)
    (Q : Int32 → mI → mP → Prop) (t : Nat) (ht : t < 2 ^ 22) (h : Q (bxv a t (le_ true (ks.drop t))) I P) : V E (D + 1) m_Text_behindExpression 112 Q 0 [some (.inr o), some (.inl (nI t)), some (.inl (nI a)), none] [] 112 I P := by
  have leaf : le_ true (ks.drop t) = some (1, 0) → Q (nI t + nI 1) I P := fun e => by
    rw [e] at h
    have h : Q (if a + 0 ≤ 12 then nI (t + 1) else -(nI 1)) I P := h
    rw [if_pos (by omega)] at h
    rw [n1]
    exact h
  refine x_Text_behindExpression_0 _ _ _ ⟨hT.1, s_kAt hT (by omega) hR hl (by omega) ?_⟩
  simp only [kAt_eq hk (show 1 < 2 ^ 31 by decide), kAt_eq hk (show 2 < 2 ^ 31 by decide), kAt_eq hk (show 3 < 2 ^ 31 by decide)]
  refine ⟨fun c1 => ⟨hT.1, s_isCallName hT (by omega) hR hl hk (by omega) (bn_i (fun g => ?_) (fun g => ?_))⟩, fun c1 => ⟨fun c2 => ⟨hT.1, s_isCallName hT (by omega) hR hl hk (by omega) (bn_i (fun g => ?_) (fun g => ?_))⟩, fun c2 => ⟨fun c3 => ⟨hT.1, s_isCallName hT (by omega) hR hl hk (by omega) (bn_i (fun g => ?_) (fun g => ?_))⟩, fun c3 => ?_⟩⟩⟩
  · obtain ⟨r, hr⟩ := (icn_drop ks t).mp g
    have hr2 : ks.drop (t + 2) = r := by rw [← List.drop_drop, hr]; rfl
    have htl : t < ks.length := (List.getElem?_eq_some_iff.mp c1).1
    rw [hr] at h
    rw [nI_add t 2, n1]
    refine pk_le 12 a (fun e => ?_) (fun e => ⟨hT.1, hBA e _ (t + 2) (by omega) ?_⟩)
    · have e12 : a = 12 := by omega
      rw [le_eq] at h
      split at h
      · have h : Q (if a + 1 ≤ 12 then nI (t + 3) else -(nI 1)) I P := h
        rw [if_neg (by omega)] at h
        exact h
      · rename_i q _ hq
        cases hla : la_ true q with
        | none => rw [hla] at h; exact h
        | some z =>
          obtain ⟨m2, d2⟩ := z
          rw [hla] at h
          have h : Q (if a + (d2 + 1) ≤ 12 then nI (t + (m2 + 2)) else -(nI 1)) I P := h
          rw [if_neg (by omega)] at h
          exact h
      · rename_i q hq1 hq2 hq3
        cases hq3
        exact absurd rfl (hq2 r)
      · rename_i hq3
        cases hq3
      · rename_i hq3
        cases hq3
      · exact h
    · rw [hr2]
      rw [le_eq] at h
      unfold bav
      cases r with
      | nil =>
        have h : Q (bxv a t ((la_ true []).map (fun q => (q.1 + 2, q.2 + 1)))) I P := h
        rw [show la_ true [] = none from by decide] at h
        show Q (bxv (a + 1) (t + 2) (la_ true [])) I P
        rw [show la_ true [] = none from by decide]
        exact h
      | cons k r' =>
        by_cases hk5 : k = 5
        · subst hk5
          have h : Q (if a + 1 ≤ 12 then nI (t + 3) else -(nI 1)) I P := h
          rw [if_pos (by omega)] at h
          exact h
        · have e1 := le_call (hol := true) (a := k :: r') (fun r e => hk5 (by injection e))
          rw [le_eq] at e1
          rw [e1] at h
          have e2 : (match k :: r' with
            | 5 :: _ => nI (t + 2 + 1)
            | l => bxv (a + 1) (t + 2) (la_ true l)) = bxv (a + 1) (t + 2) (la_ true (k :: r')) := by
            split
            · rename_i hq
              cases hq
              exact absurd rfl hk5
            · rfl
          rw [e2]
          cases hla : la_ true (k :: r') with
          | none => rw [hla] at h; exact h
          | some z =>
            obtain ⟨m2, d2⟩ := z
            rw [hla] at h
            have h : Q (if a + (d2 + 1) ≤ 12 then nI (t + (m2 + 2)) else -(nI 1)) I P := h
            show Q (if a + 1 + d2 ≤ 12 then nI (t + 2 + m2) else -(nI 1)) I P
            rw [show a + 1 + d2 = a + (d2 + 1) by omega, show t + 2 + m2 = t + (m2 + 2) by omega]
            exact h
  · refine leaf ?_
    rw [drop_k c1]
    refine le_name (fun r hr => ?_)
    have : icn ks t = true := (icn_drop ks t).mpr ⟨r, by rw [drop_k c1, hr]⟩
    rw [this] at g
    cases g
  · exfalso
    obtain ⟨r, hr⟩ := (icn_drop ks t).mp g
    rw [drop_k c2] at hr
    cases hr
  · refine leaf ?_
    rw [drop_k c2, le_num]
  · exfalso
    obtain ⟨r, hr⟩ := (icn_drop ks t).mp g
    rw [drop_k c3] at hr
    cases hr
  · refine leaf ?_
    rw [drop_k c3, le_hole]
    rfl
  · have : le_ true (ks.drop t) = none := by
      cases hd : ks[t]? with
      | none =>
        rw [List.drop_eq_nil_of_le (List.getElem?_eq_none_iff.mp hd)]
        decide
      | some k =>
        rw [hd] at c1 c2 c3
        rw [drop_k hd]
        exact le_oth _ (fun e => c1 (by rw [e])) (fun e => c2 (by rw [e])) (fun e => c3 (by rw [e]))
    rw [this] at h
    exact h
theorem ba_of (hT : TO P o N) (hN : N < 2 ^ 20) (hR : KR I o ks) (hl : ks.length ≤ N) (hk : k10 ks) {a D : Nat} (ha : a ≤ 12)
    (hBE : ∀ (Q : Int32 → mI → mP → Prop) (t : Nat), t < 2 ^ 22 → Q (bxv a t (le_ true (ks.drop t))) I P → V E D m_Text_behindExpression 112 Q 0 [some (.inr o), some (.inl (nI t)), some (.inl (nI a)), none] [] 112 I P)
    (Q : Int32 → mI → mP → Prop) (t : Nat) (ht : t < 2 ^ 21) (h : Q (bav a t (ks.drop t)) I P) : V E (D + 1) m_Text_behindArguments 112 Q 0 [some (.inr o), some (.inl (nI t)), some (.inl (nI a)), none, none, none, none] [] 112 I P := by
  refine x_Text_behindArguments_0 _ _ _ ⟨hT.1, s_kAt hT (by omega) hR hl (by omega) ?_⟩
  simp only [kAt_eq hk (show 5 < 2 ^ 31 by decide)]
  refine ⟨fun c => l_behindArguments hT hN hR hl hk ha hBE ks.length t 0 (by omega) (by omega) ht ?_, fun c => ?_⟩
  · have e2 : bav a t (ks.drop t) = bxv a t (la_ true (ks.drop t)) := by
      unfold bav
      split
      · rename_i r hr
        have : (ks.drop t)[0]? = some 5 := by rw [hr]; rfl
        rw [List.getElem?_drop] at this
        exact absurd this c
      · rfl
    rw [e2] at h
    exact h
  · rw [drop_k c] at h
    rw [n1]
    exact h
theorem s_behind (hT : TO P o N) (hN : N < 2 ^ 20) (hR : KR I o ks) (hl : ks.length ≤ N) (hk : k10 ks) : ∀ (b a : Nat), a + b = 12 →
    (∀ (Q : Int32 → mI → mP → Prop) (t : Nat), t < 2 ^ 22 → Q (bxv a t (le_ true (ks.drop t))) I P → V E (d + 2 * b + 1) m_Text_behindExpression 112 Q 0 [some (.inr o), some (.inl (nI t)), some (.inl (nI a)), none] [] 112 I P) ∧
    (∀ (Q : Int32 → mI → mP → Prop) (t : Nat), t < 2 ^ 21 → Q (bav a t (ks.drop t)) I P → V E (d + 2 * b + 2) m_Text_behindArguments 112 Q 0 [some (.inr o), some (.inl (nI t)), some (.inl (nI a)), none, none, none, none] [] 112 I P) := by
  intro b
  induction b with
  | zero =>
    intro a hab
    have h1 := be_of (E := E) (D := d + 2 * 0) hT hN hR hl hk (a := a) (by omega) (fun h => by omega)
    exact ⟨h1, ba_of hT hN hR hl hk (by omega) h1⟩
  | succ b ih =>
    intro a hab
    have h1 := be_of (E := E) (D := d + 2 * (b + 1)) hT hN hR hl hk (a := a) (by omega) (fun h => (ih (a + 1) (by omega)).2)
    exact ⟨h1, ba_of hT hN hR hl hk (by omega) h1⟩
/-- from outside: no calls around -/
theorem s_behindExpression (hT : TO P o N) (hN : N < 2 ^ 20) (hR : KR I o ks) (hl : ks.length ≤ N) (hk : k10 ks) {t : Nat} (ht : t < 2 ^ 22) (h : Q (bxv 0 t (le_ true (ks.drop t))) I P) : V E (d + 25) m_Text_behindExpression 112 Q 0 [some (.inr o), some (.inl (nI t)), some (.inl (nI 0)), none] [] 112 I P :=
  (s_behind (d := d) hT hN hR hl hk 12 0 rfl).1 Q t ht h
end EX
end
section
/-! The reference's search for the ends of expressions. -/
theorem ldg_d {hol : Bool} : ∀ (n : Nat) (b : Bool) (l : List Nat) (m dp : Nat), ldg hol n b l = some (m, dp) → dp ≤ m
  | 0, _, _, _, _, h => by cases h
  | n + 1, true, l, m, dp, h => by
    unfold ldg at h
    split at h
    · cases h
      decide
    · rename_i a _
      cases ha : ldg hol n false a with
      | none => rw [ha] at h; cases h
      | some q =>
        obtain ⟨m', dp'⟩ := q
        rw [ha] at h
        cases h
        have := ldg_d n false a m' dp' ha
        show dp' + 1 ≤ m' + 2
        omega
    · cases h
      decide
    · cases h
      decide
    · split at h
      · cases h
        decide
      · cases h
    · cases h
  | n + 1, false, l, m, dp, h => by
    unfold ldg at h
    cases ha : ldg hol n true l with
    | none => rw [ha] at h; cases h
    | some q =>
      obtain ⟨m', dp'⟩ := q
      rw [ha] at h
      dsimp only at h
      have h1 := ldg_d n true l m' dp' ha
      split at h
      · cases h
        omega
      · rename_i r hr
        cases hb : ldg hol n false r with
        | none => rw [hb] at h; cases h
        | some q =>
          obtain ⟨m2, dp2⟩ := q
          rw [hb] at h
          cases h
          have := ldg_d n false r m2 dp2 hb
          show max dp' dp2 ≤ m' + 1 + m2
          omega
      · cases h
theorem le_d {hol : Bool} {l : List Nat} {m dp : Nat} (h : le_ hol l = some (m, dp)) : dp ≤ m := ldg_d _ _ _ _ _ h
theorem la_d {hol : Bool} {l : List Nat} {m dp : Nat} (h : la_ hol l = some (m, dp)) : dp ≤ m := ldg_d _ _ _ _ _ h
def FrG (S : List Nat) (lo hi : Nat) (I I' : mI) : Prop := (∀ m, m ∉ S → I' m = I m) ∧ ∀ m j, (j < lo ∨ hi ≤ j) → I' m j = I m j
theorem FrG.rf {S : List Nat} {lo hi : Nat} {I : mI} : FrG S lo hi I I := ⟨fun _ _ => rfl, fun _ _ _ => rfl⟩
theorem FrG.tr {S : List Nat} {lo hi : Nat} {I I' I'' : mI} (h : FrG S lo hi I I') (h' : FrG S lo hi I' I'') : FrG S lo hi I I'' := ⟨fun m a => (h'.1 m a).trans (h.1 m a), fun m j hj => (h'.2 m j hj).trans (h.2 m j hj)⟩
theorem uI_at {I : mI} {a k m j : Nat} {v : Int32} (h : m ≠ a ∨ j ≠ k) : uI I a k v m j = I m j := by
  by_cases hm : m = a
  · subst hm
    rcases h with h | h
    · exact absurd rfl h
    · exact uI_o h
  · rw [uI_n hm]
theorem FrG.u {S : List Nat} {lo hi : Nat} {I I' : mI} {a k : Nat} {v : Int32} (h : FrG S lo hi I I') (ha : a ∈ S) (h1 : lo ≤ k) (h2 : k < hi) : FrG S lo hi I (uI I' a k v) := by
  refine ⟨fun m hm => ?_, fun m j hj => ?_⟩
  · rw [uI_n (fun e => hm (by rw [e]; exact ha))]
    exact h.1 m hm
  · rw [uI_at (Or.inr (by omega))]
    exact h.2 m j hj
def MS (I : mI) (base : Nat) (ks : List Nat) : Prop := ∀ (t k : Nat), ks[t]? = some k → I 99 (base + t) = nI (rc k)
def LDR (hol : Bool) (I : mI) (base : Nat) (ks : List Nat) (i : Nat) : Prop := match le_ hol (ks.drop i) with
  | some (m, dp) => I 102 (base + i) = nI (i + m - 1) ∧ I 103 (base + i) = nI dp
  | none => I 102 (base + i) = -(nI 1)
theorem LDR.s {hol : Bool} {I : mI} {base i m dp : Nat} {ks : List Nat} (h : LDR hol I base ks i) (e : le_ hol (ks.drop i) = some (m, dp)) : I 102 (base + i) = nI (i + m - 1) ∧ I 103 (base + i) = nI dp := by
  unfold LDR at h
  rw [e] at h
  exact h
theorem LDR.n {hol : Bool} {I : mI} {base i : Nat} {ks : List Nat} (h : LDR hol I base ks i) (e : le_ hol (ks.drop i) = none) : I 102 (base + i) = -(nI 1) := by
  unfold LDR at h
  rw [e] at h
  exact h
theorem LDR.mk {hol : Bool} {I : mI} {base i m dp : Nat} {ks : List Nat} (e : le_ hol (ks.drop i) = some (m, dp)) (h1 : I 102 (base + i) = nI (i + m - 1)) (h2 : I 103 (base + i) = nI dp) : LDR hol I base ks i := by
  unfold LDR
  rw [e]
  exact ⟨h1, h2⟩
theorem LDR.mn {hol : Bool} {I : mI} {base i : Nat} {ks : List Nat} (e : le_ hol (ks.drop i) = none) (h1 : I 102 (base + i) = -(nI 1)) : LDR hol I base ks i := by
  unfold LDR
  rw [e]
  exact h1
theorem LDR.kept {hol : Bool} {I I' : mI} {base i : Nat} {ks : List Nat} (h : LDR hol I base ks i) (e2 : I' 102 (base + i) = I 102 (base + i)) (e3 : I' 103 (base + i) = I 103 (base + i)) : LDR hol I' base ks i := by
  unfold LDR at h ⊢
  rw [e2, e3]
  exact h
def s2 (I : mI) (p : Nat) (a b : Int32) : mI := uI (uI I 102 p a) 103 p b
theorem rc_5 {k : Nat} (hk : k < 10) : nI (rc k) = nI 41 ↔ k = 5 := by
  have hk' : k = 0 ∨ k = 1 ∨ k = 2 ∨ k = 3 ∨ k = 4 ∨ k = 5 ∨ k = 6 ∨ k = 7 ∨ k = 8 ∨ k = 9 := by omega
  rcases hk' with rfl | rfl | rfl | rfl | rfl | rfl | rfl | rfl | rfl | rfl <;> decide
theorem rc_6 {k : Nat} (hk : k < 10) : nI (rc k) = nI 44 ↔ k = 6 := by
  have hk' : k = 0 ∨ k = 1 ∨ k = 2 ∨ k = 3 ∨ k = 4 ∨ k = 5 ∨ k = 6 ∨ k = 7 ∨ k = 8 ∨ k = 9 := by omega
  rcases hk' with rfl | rfl | rfl | rfl | rfl | rfl | rfl | rfl | rfl | rfl <;> decide
theorem rc_4 {k : Nat} (hk : k < 10) : nI (rc k) = nI 40 ↔ k = 4 := by
  have hk' : k = 0 ∨ k = 1 ∨ k = 2 ∨ k = 3 ∨ k = 4 ∨ k = 5 ∨ k = 6 ∨ k = 7 ∨ k = 8 ∨ k = 9 := by omega
  rcases hk' with rfl | rfl | rfl | rfl | rfl | rfl | rfl | rfl | rfl | rfl <;> decide
theorem rc_7 {k : Nat} (hk : k < 10) : nI (rc k) = nI 59 ↔ k = 7 := by
  have hk' : k = 0 ∨ k = 1 ∨ k = 2 ∨ k = 3 ∨ k = 4 ∨ k = 5 ∨ k = 6 ∨ k = 7 ∨ k = 8 ∨ k = 9 := by omega
  rcases hk' with rfl | rfl | rfl | rfl | rfl | rfl | rfl | rfl | rfl | rfl <;> decide
theorem rc_8 {k : Nat} (hk : k < 10) : nI (rc k) = nI 62 ↔ k = 8 := by
  have hk' : k = 0 ∨ k = 1 ∨ k = 2 ∨ k = 3 ∨ k = 4 ∨ k = 5 ∨ k = 6 ∨ k = 7 ∨ k = 8 ∨ k = 9 := by omega
  rcases hk' with rfl | rfl | rfl | rfl | rfl | rfl | rfl | rfl | rfl | rfl <;> decide
section CA
variable {E : XE} {d : Nat} {Q : Int32 → mI → mP → Prop} {I : mI} {P : mP} {hol : Bool} {base : Nat} {ks : List Nat}
theorem l_called (hM : MO P) (hb : base + ks.length ≤ 192) (hk : k10 ks) (hS : MS I base ks) {i : Nat} (hi : i < ks.length) : ∀ (m j D : Nat), ks.length - j ≤ m → j < ks.length → D ≤ 192 → (∀ t, j ≤ t → t < ks.length → LDR hol I base ks t) →
    (∀ a b, la_ hol (ks.drop j) = some (a, b) → Q (nI 0) (s2 I (base + i) (nI (j + a - 1)) (nI (max D b + 1))) P) → (la_ hol (ks.drop j) = none → Q (nI 0) I P) →
    V E d m_Model_called 112 Q 60 [some (.inr 95), some (.inl (nI base)), some (.inl (nI ks.length)), some (.inl (nI i)), some (.inl (nI j)), some (.inl (nI D)), some (.inl (nI 1)), none] [] 112 I P := by
  obtain ⟨-, -, -, p9, -, -, p12, p13, -⟩ := hM
  have stop : ∀ (I : mI) (j D : Nat), Q (nI 0) I P → V E d m_Model_called 112 Q 194 [some (.inr 95), some (.inl (nI base)), some (.inl (nI ks.length)), some (.inl (nI i)), some (.inl (nI j)), some (.inl (nI D)), some (.inl (nI 0)), none] [] 112 I P := fun I j D h =>
    x_Model_called_194 _ _ _ _ _ _ _ (x_Model_called_60 _ _ _ _ _ _ _ ⟨fun _ => h, fun a => absurd rfl a⟩)
  intro m
  induction m with
  | zero => intro j D hm hj; omega
  | succ m ih =>
    intro j D hm hj hD hL h1 h2
    refine x_Model_called_60 _ _ _ _ _ _ _ ⟨fun a => absurd a (by decide), fun _ => ?_⟩
    simp only [k95, p12, k102, p13, k103, nzl 102 (by decide), nzl 103 (by decide), true_and]
    have hin : vp_in (nI base + nI j) 192 := by rw [nI_add]; exact vp_in_nI (by omega) (by omega)
    have hcl : (nI base + nI j).toNatClampNeg = base + j := by rw [nI_add]; exact clp (by omega)
    rw [hcl]
    refine ⟨hin, ?_⟩
    have hLj := hL j (Nat.le_refl _) hj
    cases hle : le_ hol (ks.drop j) with
    | none =>
      rw [hLj.n hle]
      exact ⟨fun a => absurd a (by decide), fun _ => h2 (la_n hle)⟩
    | some q =>
      obtain ⟨mm, dp⟩ := q
      obtain ⟨e1, e2⟩ := hLj.s hle
      have hbb := le_b hle
      rw [List.length_drop] at hbb
      have hdp : dp ≤ 192 := by
        have := le_d hle
        omega
      rw [e1, e2]
      refine ⟨fun _ => ⟨hin, ?_⟩, fun a => absurd (nI_pos' (by omega)) a⟩
      -- the same goes on from 108 with the greater depth
      have go : ∀ D', D' = max D dp → V E d m_Model_called 112 Q 108 [some (.inr 95), some (.inl (nI base)), some (.inl (nI ks.length)), some (.inl (nI i)), some (.inl (nI j)), some (.inl (nI D')), none, none] [] 112 I P := by
        intro D' hD'
        refine x_Model_called_108 _ _ _ _ _ _ ?_
        simp only [k95, p12, k102, p9, k99, nzl 102 (by decide), nzl 99 (by decide), true_and]
        rw [hcl, e1, show nI (j + mm - 1) + nI 1 = nI (j + mm) from by rw [n1]; congr 1; omega]
        refine ⟨hin, ?_⟩
        have drp : (ks.drop j).drop mm = ks.drop (j + mm) := by rw [List.drop_drop]
        refine pk_le ks.length (j + mm) (fun g => ?_) (fun g => ?_)
        · have hn : la_ hol (ks.drop j) = none := la_o hle (fun r e => by rw [drp, List.drop_eq_nil_of_le g] at e; cases e) (fun r e => by rw [drp, List.drop_eq_nil_of_le g] at e; cases e)
          exact x_Model_called_142 _ _ _ _ _ _ _ ⟨fun _ => x_Model_called_171 _ _ _ _ _ _ _ ⟨fun _ => by rw [n1]; exact stop _ _ _ (h2 hn), fun a => absurd a (by decide)⟩, fun a => absurd a (by decide)⟩
        · have hg := List.getElem?_eq_getElem g
          have hk0 := hk _ (List.mem_of_getElem? hg)
          have hin2 : vp_in (nI base + nI (j + mm)) 192 := by rw [nI_add]; exact vp_in_nI (by omega) (by omega)
          refine ⟨hin2, ?_⟩
          rw [nI_add base (j + mm), clp (by omega), hS (j + mm) _ hg]
          generalize hkk : ks[j + mm] = k0 at hg hk0
          refine x_Model_called_142 _ _ _ _ _ _ _ ?_
          simp only [k95, p12, k102, p13, k103, nzl 102 (by decide), nzl 103 (by decide), true_and, rc_5 hk0]
          have hin3 : vp_in (nI base + nI i) 192 := by rw [nI_add]; exact vp_in_nI (by omega) (by omega)
          refine ⟨fun c5 => ?_, fun c5 => ⟨hin3, hin3, ?_⟩⟩
          · refine x_Model_called_171 _ _ _ _ _ _ _ ?_
            simp only [rc_6 hk0]
            rw [n1]
            refine ⟨fun c6 => stop _ _ _ (h2 (la_o hle (fun r e => ?_) (fun r e => ?_))), fun c6 => ?_⟩
            · rw [drp, drop_k hg] at e
              injection e with e _
              exact c5 e
            · rw [drp, drop_k hg] at e
              injection e with e _
              exact c6 e
            · subst c6
              have hla : la_ hol (ks.drop j) = (la_ hol (ks.drop (j + mm + 1))).map (fun q => (mm + 1 + q.1, max dp q.2)) := la_6 hle (by rw [drp, drop_k hg])
              refine pk_le ks.length (j + mm + 1) (fun g2 => stop _ _ _ (h2 ?_)) (fun g2 => x_Model_called_194 _ _ _ _ _ _ _ ?_)
              · rw [hla, List.drop_eq_nil_of_le g2, la_nil]
                rfl
              · refine ih (j + mm + 1) D' (by omega) g2 (by omega) (fun t h3 h4 => hL t (by omega) h4) (fun a b hab => ?_) (fun hab => h2 ?_)
                · have := h1 (mm + 1 + a) (max dp b) (by rw [hla, hab]; rfl)
                  rw [show j + mm + 1 + a - 1 = j + (mm + 1 + a) - 1 by omega, show max D' b = max D (max dp b) by omega]
                  exact this
                · rw [hla, hab]
                  rfl
          · subst c5
            have hla := la_5 hle (by rw [drp, drop_k hg])
            rw [nI_add base i, clp (by omega), n1]
            refine x_Model_called_171 _ _ _ _ _ _ _ ⟨fun _ => ?_, fun a => absurd a (by decide)⟩
            rw [n1]
            refine stop _ _ _ ?_
            have := h1 (mm + 1) dp hla
            rw [show j + (mm + 1) - 1 = j + mm by omega, ← hD'] at this
            exact this
      refine pk_le dp D (fun g => go D (by omega)) (fun g => ⟨hin, go dp (by omega)⟩)
end CA
end
section
section CB
variable {E : XE} {d : Nat} {Q : Int32 → mI → mP → Prop} {P : mP} {hol : Bool} {base : Nat} {ks : List Nat}
theorem s2_fr {I : mI} {p lo hi : Nat} {a b : Int32} (h1 : lo ≤ p) (h2 : p < hi) : FrG [102, 103] lo hi I (s2 I p a b) := (FrG.rf.u (by decide) h1 h2).u (by decide) h1 h2
theorem s2_2 {I : mI} {p : Nat} {a b : Int32} : s2 I p a b 102 p = a := by unfold s2; rw [uI_n (by decide), uI_s]
theorem s2_3 {I : mI} {p : Nat} {a b : Int32} : s2 I p a b 103 p = b := by unfold s2; rw [uI_s]
theorem s2_o {I : mI} {p m j : Nat} {a b : Int32} (h : j ≠ p) : s2 I p a b m j = I m j := by unfold s2; rw [uI_at (Or.inr h), uI_at (Or.inr h)]
theorem s2_n {I : mI} {p m : Nat} {a b : Int32} (h2 : m ≠ 102) (h3 : m ≠ 103) : s2 I p a b m = I m := by unfold s2; rw [uI_n h3, uI_n h2]
/-- a call's name at i: what is behind i is known -/
theorem s_called (hM : MO P) (hb : base + ks.length ≤ 192) (hk : k10 ks) {I : mI} (hS : MS I base ks) {i : Nat} {r : List Nat} (hi : ks.drop i = 1 :: 4 :: r) (hL : ∀ t, i < t → t < ks.length → LDR hol I base ks t) (h0 : I 102 (base + i) = -(nI 1))
    (h : ∀ I', FrG [102, 103] (base + i) (base + i + 1) I I' → LDR hol I' base ks i → Q (nI 0) I' P) : V E d m_Model_called 112 Q 0 [some (.inr 95), some (.inl (nI base)), some (.inl (nI ks.length)), some (.inl (nI i)), none, none, none, none] [] 112 I P := by
  have hM' := hM
  obtain ⟨-, -, -, p9, -, -, p12, p13, -⟩ := hM'
  have hlen : ks.length - i = r.length + 2 := by rw [← List.length_drop, hi]; rfl
  have hr : ks.drop (i + 2) = r := by rw [← List.drop_drop, hi]; rfl
  refine x_Model_called_0 _ _ _ _ ?_
  rw [nI_add i 2]
  refine pk_le ks.length (i + 2) (fun g => ?_) (fun g => ?_)
  · refine x_Model_called_21 _ _ _ _ _ _ _ ⟨fun _ => x_Model_called_60 _ _ _ _ _ _ _ ⟨fun _ => h I FrG.rf ?_, fun a => absurd rfl a⟩, fun a => absurd rfl a⟩
    have hr0 : r = [] := List.length_eq_zero_iff.mp (by omega)
    subst hr0
    exact LDR.mn (by rw [hi, le_call (fun r e => by cases e), la_nil]; rfl) h0
  · refine x_Model_called_21 _ _ _ _ _ _ _ ⟨fun a => absurd a (by decide), fun _ => ?_⟩
    simp only [k95, p9, k99, p12, k102, p13, k103, nzl 99 (by decide), nzl 102 (by decide), nzl 103 (by decide), true_and]
    have hg := List.getElem?_eq_getElem g
    have hk0 := hk _ (List.mem_of_getElem? hg)
    have hin2 : vp_in (nI base + nI (i + 2)) 192 := by rw [nI_add]; exact vp_in_nI (by omega) (by omega)
    have hin3 : vp_in (nI base + nI i) 192 := by rw [nI_add]; exact vp_in_nI (by omega) (by omega)
    refine ⟨hin2, ?_⟩
    rw [nI_add base (i + 2), clp (by omega), hS (i + 2) _ hg]
    generalize hkk : ks[i + 2] = k0 at hg hk0
    have hrk : r = k0 :: ks.drop (i + 2 + 1) := by rw [← hr, drop_k hg]
    simp only [rc_5 hk0]
    refine ⟨fun c5 => ?_, fun c5 => ⟨hin3, hin3, ?_⟩⟩
    · have hc := le_call (hol := hol) (a := r) (fun r' e => c5 (by rw [hrk] at e; injection e))
      rw [← hi] at hc
      refine l_called (hol := hol) hM hb hk hS (by omega) ks.length (i + 2) 0 (by omega) g (by omega) (fun t h1 h2 => hL t (by omega) h2) (fun a b hab => ?_) (fun hab => ?_)
      · rw [hr] at hab
        rw [hab] at hc
        refine h _ (s2_fr (by omega) (by omega)) (LDR.mk hc ?_ ?_)
        · rw [s2_2]
          congr 1
          show i + 2 + a - 1 = i + (a + 2) - 1
          omega
        · rw [s2_3, Nat.max_eq_right (Nat.zero_le _)]
      · rw [hr] at hab
        rw [hab] at hc
        exact h I FrG.rf (LDR.mn hc h0)
    · subst c5
      have hc : le_ hol (ks.drop i) = some (3, 1) := by rw [hi, hrk]; exact le_c5 _
      rw [nI_add base i, clp (by omega)]
      exact h _ (s2_fr (by omega) (by omega)) (LDR.mk hc s2_2 s2_3)
def ix (k : Nat) : Int32 := match k with
  | 0 => -(nI 1)
  | k + 1 => nI k
theorem ix_sub (k : Nat) : nI k - nI 1 = ix k := by
  cases k with
  | zero => decide
  | succ k => exact nI_pred k
theorem ix_add (k : Nat) : nI k + -(nI 1) = ix k := by
  cases k with
  | zero => decide
  | succ k => exact pk_m1 k
theorem l_structure (hM : MO P) (hb : base + ks.length ≤ 192) (hk : k10 ks) (hh : hol = true ↔ 0 < base) : ∀ (k : Nat) (I : mI), k ≤ ks.length → MS I base ks → (∀ t, k ≤ t → t < ks.length → LDR hol I base ks t) →
    (∀ I', FrG [102, 103] base (base + ks.length) I I' → (∀ t, t < ks.length → LDR hol I' base ks t) → Q (nI 0) I' P) → V E (d + 1) m_Model_structure 112 Q 4 [some (.inr 95), some (.inl (nI base)), some (.inl (nI ks.length)), some (.inl (ix k)), none, none] [] 112 I P := by
  have hM' := hM
  obtain ⟨-, -, -, p9, -, -, p12, p13, -⟩ := hM'
  intro k
  induction k with
  | zero =>
    intro I _ _ hL h
    exact x_Model_structure_4 _ _ _ _ ⟨fun _ => h I FrG.rf (fun t ht => hL t (Nat.zero_le _) ht), fun a => absurd m1_lt a⟩
  | succ k ih =>
    intro I hkl hS hL h
    have hg := List.getElem?_eq_getElem (l := ks) (i := k) (by omega)
    have hk0 := hk _ (List.mem_of_getElem? hg)
    generalize hkk : ks[k] = k0 at hg hk0
    have hd := drop_k hg
    have hin : vp_in (nI base + nI k) 192 := by rw [nI_add]; exact vp_in_nI (by omega) (by omega)
    have hcl : (nI base + nI k).toNatClampNeg = base + k := by rw [nI_add]; exact clp (by omega)
    have hf1 : FrG [102, 103] base (base + ks.length) I (s2 I (base + k) (-(nI 1)) (nI 0)) := s2_fr (by omega) (by omega)
    -- the next turn, from memory I' that has the ends from k on
    have nxt : ∀ I', FrG [102, 103] (base + k) (base + k + 1) (s2 I (base + k) (-(nI 1)) (nI 0)) I' → LDR hol I' base ks k → V E (d + 1) m_Model_structure 112 Q 117 [some (.inr 95), some (.inl (nI base)), some (.inl (nI ks.length)), some (.inl (nI k)), none, none] [] 112 I' P := by
      intro I' hf hl
      have hf2 : FrG [102, 103] base (base + ks.length) (s2 I (base + k) (-(nI 1)) (nI 0)) I' := ⟨hf.1, fun m j hj => hf.2 m j (by omega)⟩
      refine x_Model_structure_117 _ _ _ _ ?_
      rw [ix_add]
      refine ih I' (by omega) (fun t k' ht => ?_) (fun t h1 h2 => ?_) (fun I'' hf3 hl3 => h I'' ((hf1.tr hf2).tr hf3) hl3)
      · rw [hf2.1 99 (by decide), hf1.1 99 (by decide)]
        exact hS t k' ht
      · by_cases e : t = k
        · rw [e]
          exact hl
        · exact (hL t (by omega) h2).kept (by rw [hf.2 102 _ (by omega), s2_o (by omega)]) (by rw [hf.2 103 _ (by omega), s2_o (by omega)])
    have hlast : (s2 I (base + k) (-(nI 1)) (nI 0)) 102 (base + k) = -(nI 1) := s2_2
    have leaf : le_ hol (ks.drop k) = some (1, 0) → V E (d + 1) m_Model_structure 112 Q 117 [some (.inr 95), some (.inl (nI base)), some (.inl (nI ks.length)), some (.inl (nI k)), none, none] [] 112 (uI (s2 I (base + k) (-(nI 1)) (nI 0)) 102 (base + k) (nI k)) P := fun e =>
      nxt _ (FrG.rf.u (by decide) (by omega) (by omega)) (LDR.mk e (by rw [uI_s]; rfl) (by rw [uI_n (by decide)]; exact s2_3))
    have none_ : le_ hol (ks.drop k) = none → V E (d + 1) m_Model_structure 112 Q 117 [some (.inr 95), some (.inl (nI base)), some (.inl (nI ks.length)), some (.inl (nI k)), none, none] [] 112 (s2 I (base + k) (-(nI 1)) (nI 0)) P := fun e =>
      nxt _ FrG.rf (LDR.mn e hlast)
    -- no call
    have nc : (∀ r, ks.drop k ≠ 1 :: 4 :: r) → V E (d + 1) m_Model_structure 112 Q 71 [some (.inr 95), some (.inl (nI base)), some (.inl (nI ks.length)), some (.inl (nI k)), some (.inl (nI (rc k0))), some (.inl (nI 0))] [] 112 (s2 I (base + k) (-(nI 1)) (nI 0)) P := by
      intro hno
      refine x_Model_structure_71 _ _ _ _ _ _ ⟨fun _ => ?_, fun a => absurd rfl a⟩
      simp only [k95, p12, k102, nzl 102 (by decide), true_and, rc_eq hk0 (Or.inl rfl), rc_eq hk0 (Or.inr (Or.inl rfl)), rc_eq hk0 (Or.inr (Or.inr rfl)), hcl]
      refine ⟨fun c => ⟨hin, leaf ?_⟩, fun c => ⟨fun c2 => ⟨hin, leaf ?_⟩, fun c2 => ⟨fun c3 => none_ ?_, fun c3 => ⟨fun e => none_ ?_, fun e => ⟨hin, leaf ?_⟩⟩⟩⟩⟩
      · subst c
        rw [hd]
        exact le_name (fun r' e => hno r' (by rw [hd, e]))
      · subst c2
        rw [hd, le_num]
      · rw [hd]
        exact le_oth _ c c2 c3
      · subst c3
        rw [hd, le_hole, if_neg (fun q => ?_)]
        have : 0 < base := hh.mp q
        rw [Int32.le_iff_toInt_le, nI_t (by omega)] at e
        simp at e
        omega
      · subst c3
        rw [hd, le_hole, if_pos (hh.mpr ?_)]
        refine Nat.pos_of_ne_zero fun z => e ?_
        rw [z]
        decide
    show V E (d + 1) m_Model_structure 112 Q 4 [some (.inr 95), some (.inl (nI base)), some (.inl (nI ks.length)), some (.inl (nI k)), none, none] [] 112 I P
    refine x_Model_structure_4 _ _ _ _ ⟨fun a => absurd a (nI_pos (by omega)), fun _ => ?_⟩
    simp only [k95, p9, k99, p12, k102, p13, k103, nzl 99 (by decide), nzl 102 (by decide), nzl 103 (by decide), true_and, hcl]
    refine ⟨hin, hin, hin, ?_⟩
    rw [hS k k0 hg]
    simp only [rc_eq hk0 (Or.inl rfl)]
    refine ⟨fun c => nc (fun r e => ?_), fun c => ?_⟩
    · rw [hd] at e
      injection e with e _
      exact c e
    · subst c
      rw [n1, nI_add base k, n1]
      refine pk_le ks.length (k + 1) (fun g => nc (fun r e => ?_)) (fun g => ?_)
      · rw [hd, List.drop_eq_nil_of_le g] at e
        cases e
      · have hg2 := List.getElem?_eq_getElem g
        have hk2 := hk _ (List.mem_of_getElem? hg2)
        generalize hkk2 : ks[k + 1] = k2 at hg2 hk2
        have hd2 := drop_k hg2
        refine ⟨vp_in_nI (by omega) (by omega), ?_⟩
        rw [clp (by omega), show uI (uI I 102 (base + k) (-(nI 1))) 103 (base + k) (nI 0) = s2 I (base + k) (-(nI 1)) (nI 0) from rfl, s2_n (by decide) (by decide), Nat.add_assoc, hS (k + 1) k2 hg2]
        simp only [rc_4 hk2]
        refine ⟨fun c4 => nc (fun r e => ?_), fun c4 => ?_⟩
        · rw [hd, hd2] at e
          injection e with _ e
          injection e with e _
          exact c4 e
        · subst c4
          refine x_Model_structure_71 _ _ _ _ _ _ ⟨fun a => absurd a (by decide), fun _ => ⟨k95, ?_⟩⟩
          refine s_called (hol := hol) hM hb hk (fun t k' ht => ?_) (by rw [hd, hd2]) (fun t h1 h2 => ?_) hlast (fun I' hf hl => nxt I' hf hl)
          · rw [s2_n (by decide) (by decide)]
            exact hS t k' ht
          · exact (hL t (by omega) h2).kept (by rw [s2_o (by omega)]) (by rw [s2_o (by omega)])
theorem s_structure (hM : MO P) (hb : base + ks.length ≤ 192) (hk : k10 ks) (hh : hol = true ↔ 0 < base) {I : mI} (hS : MS I base ks) (h : ∀ I', FrG [102, 103] base (base + ks.length) I I' → (∀ t, t < ks.length → LDR hol I' base ks t) → Q (nI 0) I' P) : V E (d + 1) m_Model_structure 112 Q 0 [some (.inr 95), some (.inl (nI base)), some (.inl (nI ks.length)), none, none, none] [] 112 I P := by
  refine x_Model_structure_0 _ _ _ ?_
  rw [ix_sub]
  exact l_structure hM hb hk hh ks.length I (Nat.le_refl _) hS (fun t h1 h2 => by omega) h
end CB
end
section
/-! The class's outline: statements and expressions. -/
def hd4 (r : List Nat) : Bool := match r with
  | k :: _ => Nat.beq k 4
  | [] => false
/-- the expressions that end among the next n tokens, and the calls that are open behind them -/
def scn : Nat → List Nat → Nat → List Nat → List (Nat × Nat × Nat) × List Nat
  | 0, _, _, s => ([], s)
  | _ + 1, [], _, s => ([], s)
  | n + 1, k :: r, t, s => if (k = 1 ∧ hd4 r = true) ∧ s.length < 12 then scn n r (t + 1) (t :: s)
    else if k = 5 then (match s with
      | f :: s' => ((f, t, s'.length) :: (scn n r (t + 1) s').1, (scn n r (t + 1) s').2)
      | [] => scn n r (t + 1) [])
    else if k = 1 ∨ k = 2 then ((t, t, s.length) :: (scn n r (t + 1) s).1, (scn n r (t + 1) s).2)
    else scn n r (t + 1) s
theorem scn_c (n k t : Nat) (r s : List Nat) : scn (n + 1) (k :: r) t s = if (k = 1 ∧ hd4 r = true) ∧ s.length < 12 then scn n r (t + 1) (t :: s)
    else if k = 5 then (match s with
      | f :: s' => ((f, t, s'.length) :: (scn n r (t + 1) s').1, (scn n r (t + 1) s').2)
      | [] => scn n r (t + 1) [])
    else if k = 1 ∨ k = 2 then ((t, t, s.length) :: (scn n r (t + 1) s).1, (scn n r (t + 1) s).2)
    else scn n r (t + 1) s := rfl
def OO (P : mP) : Prop := P 85 0 = 86 ∧ P 85 2 = 87 ∧ P 85 3 = 88 ∧ P 85 4 = 89 ∧ P 85 6 = 90
theorem k85 : kk 112 85 = (0, 4) := rfl
theorem k86 : kk 112 86 = (1, 120) := rfl
theorem k87 : kk 112 87 = (1, 120) := rfl
theorem k88 : kk 112 88 = (1, 120) := rfl
theorem k89 : kk 112 89 = (1, 120) := rfl
theorem k90 : kk 112 90 = (1, 12) := rfl
def OE (I : mI) (ex : List (Nat × Nat × Nat)) : Prop := I 85 5 = nI ex.length ∧ ∀ (k f l a : Nat), ex[k]? = some (f, l, a) → I 87 k = nI f ∧ I 88 k = nI l ∧ I 89 k = nI a
def OS (I : mI) (sk : List Nat) : Prop := I 85 1 = nI sk.length ∧ ∀ (k x : Nat), sk[k]? = some x → I 86 k = nI x
def SK (I : mI) (s : List Nat) : Prop := ∀ (j x : Nat), s.reverse[j]? = some x → I 90 j = nI x
/-- what expressions' adding leaves -/
def FrX (I I' : mI) : Prop := (∀ m, m < 85 ∨ 90 < m → I' m = I m) ∧ I' 86 = I 86 ∧ ∀ j, j ≠ 5 → I' 85 j = I 85 j
theorem FrX.rf {I : mI} : FrX I I := ⟨fun _ _ => rfl, rfl, fun _ _ => rfl⟩
theorem FrX.tr {I I' I'' : mI} (h : FrX I I') (h' : FrX I' I'') : FrX I I'' := ⟨fun m a => (h'.1 m a).trans (h.1 m a), h'.2.1.trans h.2.1, fun j hj => (h'.2.2 j hj).trans (h.2.2 j hj)⟩
def oe1 (I : mI) (c : Nat) (f l a : Int32) : mI := uI (uI (uI (uI I 87 c f) 88 c l) 89 c a) 85 5 (nI (c + 1))
theorem oe1_fr {I : mI} {c : Nat} {f l a : Int32} : FrX I (oe1 I c f l a) := by
  unfold oe1
  refine ⟨fun m hm => ?_, ?_, fun j hj => ?_⟩
  · rw [uI_n (by omega), uI_n (by omega), uI_n (by omega), uI_n (by omega)]
  · rw [uI_n (by decide), uI_n (by decide), uI_n (by decide), uI_n (by decide)]
  · rw [uI_o hj, uI_n (by decide), uI_n (by decide), uI_n (by decide)]
theorem oe1_90 {I : mI} {c : Nat} {f l a : Int32} : oe1 I c f l a 90 = I 90 := by
  unfold oe1
  rw [uI_n (by decide), uI_n (by decide), uI_n (by decide), uI_n (by decide)]
theorem oe1_oe {I : mI} {ex : List (Nat × Nat × Nat)} {f l a : Nat} (h : OE I ex) : OE (oe1 I ex.length (nI f) (nI l) (nI a)) (ex ++ [(f, l, a)]) := by
  unfold oe1
  refine ⟨by rw [uI_s, List.length_append]; rfl, fun t k' a' b' ht => ?_⟩
  rw [uI_n (by decide : 87 ≠ 85), uI_n (by decide : 88 ≠ 85), uI_n (by decide : 89 ≠ 85), uI_n (by decide : 87 ≠ 89), uI_n (by decide : 88 ≠ 89), uI_n (by decide : 87 ≠ 88)]
  by_cases hl : t < ex.length
  · rw [List.getElem?_append_left hl] at ht
    obtain ⟨g1, g2, g3⟩ := h.2 t k' a' b' ht
    rw [uI_o (by omega), uI_o (by omega), uI_o (by omega), uI_n (by decide : 88 ≠ 87), uI_n (by decide : 89 ≠ 88), uI_n (by decide : 89 ≠ 87)]
    exact ⟨g1, g2, g3⟩
  · have e : t = ex.length := by
      have := (List.getElem?_eq_some_iff.mp ht).1
      rw [List.length_append] at this
      simp at this
      omega
    subst e
    rw [List.getElem?_append_right (Nat.le_refl _), Nat.sub_self] at ht
    cases ht
    exact ⟨uI_s, uI_s, uI_s⟩
section OL
variable {E : XE} {d : Nat} {Q : Int32 → mI → mP → Prop} {P : mP}
theorem s_addExpression (hO : OO P) {I : mI} {ex : List (Nat × Nat × Nat)} (h : OE I ex) (hl : ex.length < 120) {f l a : Int32} (hq : Q (nI 0) (oe1 I ex.length f l a) P) : V E d m_Outline_addExpression 112 Q 0 [some (.inr 85), some (.inl f), some (.inl l), some (.inl a)] [] 112 I P := by
  obtain ⟨p0, p2, p3, p4, p6⟩ := hO
  refine x_Outline_addExpression_0 _ _ _ _ ?_
  simp only [k85, p2, k87, p3, k88, p4, k89, nzl 87 (by decide), nzl 88 (by decide), nzl 89 (by decide), true_and, uI_n (show 85 ≠ 87 by decide), uI_n (show 85 ≠ 88 by decide), uI_n (show 85 ≠ 89 by decide), h.1]
  refine ⟨by decide, by decide, pk_le 120 ex.length (fun g => by omega) (fun g => ?_)⟩
  have hin : vp_in (nI ex.length) 120 := vp_in_nI hl (by decide)
  refine ⟨hin, hin, hin, ?_⟩
  rw [clp (by omega), n1]
  exact hq
variable {o N : Nat} {ks : List Nat}
theorem l_addExpressions (hO : OO P) (hT : TO P o N) (ho : o + 5 < 85) (hN : N < 2 ^ 20) (hl : ks.length ≤ N) (hk : k10 ks) {e : Nat} (he : e ≤ ks.length) : ∀ (n t : Nat) (s : List Nat) (ex : List (Nat × Nat × Nat)) (I : mI), e - t = n → t ≤ e → s.length ≤ 12 → ex.length + (e - t) ≤ 120 → KR I o ks → OE I ex → SK I s →
    (∀ I', FrX I I' → OE I' (ex ++ (scn n (ks.drop t) t s).1) → Q (nI 0) I' P) → V E (d + 1) m_Outline_addExpressions 112 Q 6 [some (.inr 85), some (.inr o), none, some (.inl (nI e)), some (.inl (nI s.length)), some (.inl (nI t)), none] [] 112 I P := by
  have hO' := hO
  obtain ⟨p0, p2, p3, p4, p6⟩ := hO'
  intro n
  induction n with
  | zero =>
    intro t s ex I hn ht hs hx hR hE hS h
    refine x_Outline_addExpressions_6 _ _ _ _ _ (pk_le e t (fun _ => h I FrX.rf ?_) (fun g => by omega))
    simpa [scn] using hE
  | succ n ih =>
    intro t s ex I hn ht hs hx hR hE hS h
    have hg := List.getElem?_eq_getElem (l := ks) (i := t) (by omega)
    have hk0 := hk _ (List.mem_of_getElem? hg)
    generalize hkk : ks[t] = k0 at hg hk0
    have hd := drop_k hg
    rw [hd, scn_c] at h
    have hat : kAt ks t = nI k0 := (kAt_eq hk (by omega)).mpr hg
    have hicn : icn ks t = true ↔ (k0 = 1 ∧ hd4 (ks.drop (t + 1)) = true) := by
      rw [icn_drop, hd]
      constructor
      · rintro ⟨r, e⟩
        injection e with e1 e2
        exact ⟨e1, by rw [e2]; rfl⟩
      · rintro ⟨e1, e2⟩
        cases hr : ks.drop (t + 1) with
        | nil => rw [hr] at e2; cases e2
        | cons z r =>
          rw [hr] at e2
          have : z = 4 := Nat.eq_of_beq_eq_true e2
          exact ⟨r, by rw [e1, this]⟩
    -- going on at t + 1 with an entry more
    have add1 : ∀ (f a : Nat) (s' : List Nat), s'.length ≤ 12 → SK I s' → (∀ I', FrX I I' → OE I' (ex ++ ((f, t, a) :: (scn n (ks.drop (t + 1)) (t + 1) s').1)) → Q (nI 0) I' P) →
        V E d m_Outline_addExpression 112 (fun _ I1 P1 => V E (d + 1) m_Outline_addExpressions 112 Q 105 [some (.inr 85), some (.inr o), none, some (.inl (nI e)), some (.inl (nI s'.length)), some (.inl (nI t)), none] [] 112 I1 P1) 0 [some (.inr 85), some (.inl (nI f)), some (.inl (nI t)), some (.inl (nI a))] [] 112 I P := by
      intro f a s' hs' hS' h'
      refine s_addExpression hO hE (by omega) (x_Outline_addExpressions_105 _ _ _ _ _ ?_)
      rw [n1]
      refine ih (t + 1) s' (ex ++ [(f, t, a)]) _ (by omega) (by omega) hs' (by simp; omega) ?_ (oe1_oe hE) ?_ (fun I' hf hr => h' I' (oe1_fr.tr hf) (by simpa using hr))
      · exact ⟨by rw [oe1_fr.1 o (by omega)]; exact hR.1, fun t' k' ht' => by rw [oe1_fr.1 (o + 3) (by omega)]; exact hR.2 t' k' ht'⟩
      · intro j x hj
        rw [oe1_90]
        exact hS' j x hj
    -- the last questions: a leaf or nothing
    have tail : (¬ ((k0 = 1 ∧ hd4 (ks.drop (t + 1)) = true) ∧ s.length < 12)) → (k0 = 5 → s = []) → V E (d + 1) m_Outline_addExpressions 112 Q 83 [some (.inr 85), some (.inr o), none, some (.inl (nI e)), some (.inl (nI s.length)), some (.inl (nI t)), some (.inl (nI k0))] [] 112 I P := by
      intro hc h5
      rw [if_neg hc] at h
      have goon : (∀ I', FrX I I' → OE I' (ex ++ (scn n (ks.drop (t + 1)) (t + 1) s).1) → Q (nI 0) I' P) → V E (d + 1) m_Outline_addExpressions 112 Q 105 [some (.inr 85), some (.inr o), none, some (.inl (nI e)), some (.inl (nI s.length)), some (.inl (nI t)), none] [] 112 I P := fun h' => by
        refine x_Outline_addExpressions_105 _ _ _ _ _ ?_
        rw [n1]
        exact ih (t + 1) s ex I (by omega) (by omega) hs (by omega) hR hE hS h'
      refine x_Outline_addExpressions_83 _ _ _ _ _ _ ?_
      rw [nI_eq (by omega) (by decide), nI_eq (by omega) (by decide)]
      refine ⟨fun c1 => ⟨k85, ?_⟩, fun c1 => ⟨fun c2 => goon ?_, fun c2 => ⟨k85, ?_⟩⟩⟩
      · rw [if_neg (by omega), if_pos (Or.inl c1)] at h
        exact add1 t s.length s hs hS h
      · by_cases c5 : k0 = 5
        · rw [if_pos c5] at h
          have hs0 := h5 c5
          subst hs0
          exact h
        · rw [if_neg c5, if_neg (by omega)] at h
          exact h
      · rw [if_neg (by omega), if_pos (Or.inr c2)] at h
        exact add1 t s.length s hs hS h
    have mid : (¬ ((k0 = 1 ∧ hd4 (ks.drop (t + 1)) = true) ∧ s.length < 12)) → V E (d + 1) m_Outline_addExpressions 112 Q 51 [some (.inr 85), some (.inr o), none, some (.inl (nI e)), some (.inl (nI s.length)), some (.inl (nI t)), some (.inl (nI k0))] [] 112 I P := by
      intro hc
      refine x_Outline_addExpressions_51 _ _ _ _ _ _ ?_
      rw [nI_eq (by omega) (by decide)]
      refine ⟨fun c5 => tail hc (fun q => absurd q c5), fun c5 => ?_⟩
      cases s with
      | nil => exact ⟨fun _ => tail hc (fun _ => rfl), fun a => absurd (by decide) a⟩
      | cons f s' =>
        refine ⟨fun a => absurd a (nI_nle (by simp) (by simp at hs ⊢; omega)), fun _ => ?_⟩
        rw [if_neg hc, if_pos c5] at h
        simp only [k85, p6, k90, nzl 90 (by decide), true_and]
        rw [show nI (f :: s').length + -(nI 1) = nI s'.length from ix_add (s'.length + 1)]
        simp only [List.length_cons] at hs
        refine ⟨vp_in_nI (by omega) (by decide), ?_⟩
        rw [clp (by omega), hS s'.length f (by
          rw [List.reverse_cons, List.getElem?_append_right (by simp)]
          simp)]
        refine add1 f s'.length s' (by omega) (fun j x hj => hS j x ?_) h
        rw [List.reverse_cons, List.getElem?_append_left (List.getElem?_eq_some_iff.mp hj).1]
        exact hj
    refine x_Outline_addExpressions_6 _ _ _ _ _ (pk_le e t (fun g => by omega) (fun _ => ⟨hT.1, s_kAt hT (by omega) hR hl (by omega) (x_Outline_addExpressions_20 _ _ _ _ _ _ ⟨hT.1, s_isCallName hT (by omega) hR hl hk (by omega) ?_⟩)⟩))
    rw [hat]
    refine bz_i (fun g => mid (fun q => ?_)) (fun g => ?_)
    · rw [hicn.mpr q.1] at g
      cases g
    · have hc1 := hicn.mp g
      refine pk_le 12 s.length (fun g2 => mid (fun q => by omega)) (fun g2 => ?_)
      rw [if_pos ⟨hc1, g2⟩] at h
      simp only [k85, p6, k90, nzl 90 (by decide), true_and]
      refine ⟨vp_in_nI g2 (by decide), x_Outline_addExpressions_105 _ _ _ _ _ ?_⟩
      rw [clp (by omega), n1, n1]
      have hf : FrX I (uI I 90 s.length (nI t)) := ⟨fun m hm => uI_n (by omega), uI_n (by decide), fun j _ => by rw [uI_n (by decide)]⟩
      refine ih (t + 1) (t :: s) ex _ (by omega) (by omega) (by simp; omega) (by omega) ?_ ?_ ?_ (fun I' hf' hr => h I' (hf.tr hf') hr)
      · exact ⟨by rw [uI_n (by omega)]; exact hR.1, fun t' k' ht' => by rw [uI_n (by omega)]; exact hR.2 t' k' ht'⟩
      · refine ⟨by rw [uI_n (by decide)]; exact hE.1, fun k f l a hk' => ?_⟩
        rw [uI_n (by decide), uI_n (by decide), uI_n (by decide)]
        exact hE.2 k f l a hk'
      · intro j x hj
        rw [List.reverse_cons] at hj
        by_cases hjl : j < s.length
        · rw [List.getElem?_append_left (by simpa using hjl)] at hj
          rw [uI_o (by omega)]
          exact hS j x hj
        · have : j = s.length := by
            have := (List.getElem?_eq_some_iff.mp hj).1
            simp at this
            omega
          subst this
          rw [List.getElem?_append_right (by simp)] at hj
          simp at hj
          rw [uI_s, hj]
theorem s_addExpressions (hO : OO P) (hT : TO P o N) (ho : o + 5 < 85) (hN : N < 2 ^ 20) (hl : ks.length ≤ N) (hk : k10 ks) {f e : Nat} (hf : f ≤ e) (he : e ≤ ks.length) {I : mI} {ex : List (Nat × Nat × Nat)} (hx : ex.length + (e - f) ≤ 120) (hR : KR I o ks) (hE : OE I ex)
    (h : ∀ I', FrX I I' → OE I' (ex ++ (scn (e - f) (ks.drop f) f []).1) → Q (nI 0) I' P) : V E (d + 1) m_Outline_addExpressions 112 Q 0 [some (.inr 85), some (.inr o), some (.inl (nI f)), some (.inl (nI e)), none, none, none] [] 112 I P :=
  x_Outline_addExpressions_0 _ _ _ _ (l_addExpressions hO hT ho hN hl hk he (e - f) f [] ex I rfl hf (by simp) hx hR hE (fun j x hj => by simp at hj) h)
end OL
end
section
theorem scn_len : ∀ (n : Nat) (l : List Nat) (t : Nat) (s : List Nat), (scn n l t s).1.length ≤ n
  | 0, _, _, _ => Nat.le_refl _
  | n + 1, [], _, _ => Nat.zero_le _
  | n + 1, k :: r, t, s => by
    rw [scn_c]
    split
    · exact Nat.le_succ_of_le (scn_len n r (t + 1) (t :: s))
    · split
      · split
        · exact Nat.succ_le_succ (scn_len n r (t + 1) _)
        · exact Nat.le_succ_of_le (scn_len n r (t + 1) [])
      · split
        · exact Nat.succ_le_succ (scn_len n r (t + 1) s)
        · exact Nat.le_succ_of_le (scn_len n r (t + 1) s)
/-- is the statement from token f to the semicolon at e an expression that may be rewritten? -/
def gds (ks : List Nat) (f e : Nat) : Bool := match le_ true (ks.drop f) with
  | some (m, dp) => decide (dp ≤ 12 ∧ f + m = e) && !((ks.drop f).take (e - f)).any (fun k => k == 3)
  | none => false
def rst (ks : List Nat) (f e : Nat) : Nat := if gds ks f e = true then (if icn ks f = true then 3 else if ks[f]? = some 1 then 1 else 2) else 0
def rsx (ks : List Nat) (f e : Nat) : List (Nat × Nat × Nat) := if gds ks f e = true then (scn (e - f) (ks.drop f) f []).1 else []
def oln (ks : List Nat) : Nat → Nat → Nat → List Nat × List (Nat × Nat × Nat)
  | 0, f, t => if f < t then ([0], []) else ([], [])
  | n + 1, f, t => if ks[t]? = some 7 then (rst ks f t :: (oln ks n (t + 1) (t + 1)).1, rsx ks f t ++ (oln ks n (t + 1) (t + 1)).2) else oln ks n f (t + 1)
def outl (ks : List Nat) : List Nat × List (Nat × Nat × Nat) := oln ks ks.length 0 0
theorem oln_s (ks : List Nat) (n f t : Nat) : oln ks (n + 1) f t = if ks[t]? = some 7 then (rst ks f t :: (oln ks n (t + 1) (t + 1)).1, rsx ks f t ++ (oln ks n (t + 1) (t + 1)).2) else oln ks n f (t + 1) := rfl
def FrO (I I' : mI) : Prop := ∀ m, m < 85 ∨ 90 < m → I' m = I m
section OB
variable {E : XE} {d : Nat} {Q : Int32 → mI → mP → Prop} {P : mP} {o N : Nat} {ks : List Nat}
theorem l_hasHole (hT : TO P o N) (hN : N < 2 ^ 20) (hl : ks.length ≤ N) (hk : k10 ks) {I : mI} (hR : KR I o ks) {e : Nat} (he : e < 2 ^ 22) : ∀ (n t : Nat), e - t = n → t ≤ e → Q (bI (((ks.drop t).take (e - t)).any (fun k => k == 3))) I P → V E (d + 2) m_Outline_hasHole 112 Q 2 [some (.inr o), none, some (.inl (nI e)), some (.inl (nI t))] [] 112 I P := by
  intro n
  induction n with
  | zero =>
    intro t hn hte h
    refine x_Outline_hasHole_2 _ _ _ (pk_le e t (fun _ => ?_) (fun g => by omega))
    rw [hn] at h
    exact ⟨rfl, h⟩
  | succ n ih =>
    intro t hn hte h
    refine x_Outline_hasHole_2 _ _ _ (pk_le e t (fun g => by omega) (fun g => ⟨hT.1, s_isHole hT (by omega) hR hl hk (by omega) ?_⟩))
    have e1 : ((ks.drop t).take (e - t)).any (fun k => k == 3) = ((ks[t]? == some 3) || ((ks.drop (t + 1)).take (e - (t + 1))).any (fun k => k == 3)) := by
      rw [show e - t = (e - (t + 1)) + 1 by omega]
      cases hg : ks[t]? with
      | none =>
        have hle := List.getElem?_eq_none_iff.mp hg
        rw [List.drop_eq_nil_of_le hle, List.drop_eq_nil_of_le (by omega)]
        simp
      | some k =>
        rw [drop_k hg, List.take_succ_cons, List.any_cons]
        rfl
    rw [e1] at h
    refine bz_i (fun c => ?_) (fun c => ?_)
    · rw [c, Bool.false_or] at h
      rw [n1]
      exact ih (t + 1) (by omega) (by omega) h
    · rw [c, Bool.true_or] at h
      exact ⟨rfl, h⟩
theorem s_hasHole (hT : TO P o N) (hN : N < 2 ^ 20) (hl : ks.length ≤ N) (hk : k10 ks) {I : mI} (hR : KR I o ks) {f e : Nat} (he : e < 2 ^ 22) (hf : f ≤ e) (h : Q (bI (((ks.drop f).take (e - f)).any (fun k => k == 3))) I P) : V E (d + 2) m_Outline_hasHole 112 Q 0 [some (.inr o), some (.inl (nI f)), some (.inl (nI e)), none] [] 112 I P :=
  x_Outline_hasHole_0 _ _ _ (l_hasHole hT hN hl hk hR he _ f rfl hf h)
def os1 (I : mI) (c : Nat) (x : Int32) : mI := uI (uI I 86 c x) 85 1 (nI (c + 1))
theorem s_addStatement (hO : OO P) {I : mI} {sk : List Nat} (h : OS I sk) (hl : sk.length < 120) {x : Int32} (hq : Q (nI 0) (os1 I sk.length x) P) : V E d m_Outline_addStatement 112 Q 0 [some (.inr 85), some (.inl x)] [] 112 I P := by
  obtain ⟨p0, p2, p3, p4, p6⟩ := hO
  refine x_Outline_addStatement_0 _ _ ?_
  simp only [k85, p0, k86, nzl 86 (by decide), true_and, uI_n (show 85 ≠ 86 by decide), h.1]
  refine ⟨by decide, by decide, pk_le 120 sk.length (fun g => by omega) (fun g => ⟨vp_in_nI hl (by decide), ?_⟩)⟩
  rw [clp (by omega), n1]
  exact hq
theorem os1_fr {I : mI} {c : Nat} {x : Int32} : FrO I (os1 I c x) := fun m hm => by
  unfold os1
  rw [uI_n (by omega), uI_n (by omega)]
theorem os1_oe {I : mI} {c : Nat} {x : Int32} {ex : List (Nat × Nat × Nat)} (h : OE I ex) : OE (os1 I c x) ex := by
  unfold os1
  refine ⟨by rw [uI_o (by decide), uI_n (by decide)]; exact h.1, fun k f l a hk => ?_⟩
  rw [uI_n (by decide), uI_n (by decide), uI_n (by decide), uI_n (by decide), uI_n (by decide), uI_n (by decide)]
  exact h.2 k f l a hk
theorem os1_os {I : mI} {sk : List Nat} {x : Nat} (h : OS I sk) : OS (os1 I sk.length (nI x)) (sk ++ [x]) := by
  unfold os1
  refine ⟨by rw [uI_s, List.length_append]; rfl, fun k y hy => ?_⟩
  rw [uI_n (by decide)]
  by_cases hl : k < sk.length
  · rw [List.getElem?_append_left hl] at hy
    rw [uI_o (by omega)]
    exact h.2 k y hy
  · have e : k = sk.length := by
      have := (List.getElem?_eq_some_iff.mp hy).1
      rw [List.length_append] at this
      simp at this
      omega
    subst e
    rw [List.getElem?_append_right (Nat.le_refl _), Nat.sub_self] at hy
    cases hy
    exact uI_s
theorem FrX.os {I I' : mI} {sk : List Nat} (hf : FrX I I') (h : OS I sk) : OS I' sk := ⟨by rw [hf.2.2 1 (by decide)]; exact h.1, fun k x hx => by rw [hf.2.1]; exact h.2 k x hx⟩
theorem bxv_eq {a t e : Nat} {q : Option (Nat × Nat)} (h1 : e < 2 ^ 31) (h2 : ∀ m dp, q = some (m, dp) → t + m < 2 ^ 31) : bxv a t q = nI e ↔ ∃ m dp, q = some (m, dp) ∧ a + dp ≤ 12 ∧ t + m = e := by
  unfold bxv
  split
  · rename_i m dp
    by_cases hd : a + dp ≤ 12
    · rw [if_pos hd, nI_eq (h2 m dp rfl) h1]
      exact ⟨fun g => ⟨m, dp, rfl, hd, g⟩, fun ⟨m', dp', g, _, g2⟩ => by cases g; exact g2⟩
    · rw [if_neg hd]
      exact ⟨fun g => absurd g (m1_ne h1), fun ⟨m', dp', g, g1, _⟩ => by cases g; exact absurd g1 hd⟩
  · exact ⟨fun g => absurd g (m1_ne h1), fun ⟨m', dp', g, _⟩ => by cases g⟩
theorem s_readStatement (hO : OO P) (hT : TO P o N) (ho : o + 5 < 85) (hN : N < 2 ^ 20) (hl : ks.length ≤ N) (hk : k10 ks) {f e : Nat} (hf : f ≤ e) (he : e < ks.length) {I : mI} {ex : List (Nat × Nat × Nat)} (hx : ex.length + (e - f) ≤ 120) (hR : KR I o ks) (hE : OE I ex)
    (h : ∀ I', FrX I I' → OE I' (ex ++ rsx ks f e) → Q (nI (rst ks f e)) I' P) : V E (d + 26) m_Outline_readStatement 112 Q 0 [some (.inr 85), some (.inr o), some (.inl (nI f)), some (.inl (nI e))] [] 112 I P := by
  refine x_Outline_readStatement_0 _ _ _ _ ⟨hT.1, s_behindExpression (d := d) hT hN hR hl hk (by omega) ?_⟩
  have hb2 : ∀ m dp, le_ true (ks.drop f) = some (m, dp) → f + m < 2 ^ 31 := fun m dp hm => by
    have := le_b hm
    rw [List.length_drop] at this
    omega
  have bad : gds ks f e = false → Q (nI 0) I P := fun g => by
    have h0 := h I FrX.rf
    unfold rsx rst at h0
    rw [if_neg (by rw [g]; decide), if_neg (by rw [g]; decide), List.append_nil] at h0
    exact h0 hE
  refine ⟨fun c => bad ?_, fun c => ?_⟩
  · unfold gds
    split
    · rename_i m dp hm
      rw [show decide (dp ≤ 12 ∧ f + m = e) = false from decide_eq_false (fun q => c ((bxv_eq (by omega) hb2).mpr ⟨m, dp, hm, by omega, q.2⟩)), Bool.false_and]
    · rfl
  · obtain ⟨m, dp, hm, hdp, hfm⟩ := (bxv_eq (by omega) hb2).mp c
    have hgd : gds ks f e = !((ks.drop f).take (e - f)).any (fun k => k == 3) := by
      unfold gds
      rw [hm]
      dsimp only
      rw [decide_eq_true (show dp ≤ 12 ∧ f + m = e from ⟨by omega, hfm⟩), Bool.true_and]
    refine s_hasHole (d := d + 23) hT hN hl hk hR (by omega) hf (bz_i (fun c2 => ?_) (fun c2 => bad (by rw [hgd, c2]; rfl)))
    rw [c2] at hgd
    have hgd : gds ks f e = true := hgd
    refine ⟨k85, s_addExpressions (d := d + 24) hO hT ho hN hl hk hf (by omega) hx hR hE (fun I' hfx hE' => ⟨hT.1, ?_⟩)⟩
    have hR' : KR I' o ks := ⟨by rw [hfx.1 o (by omega)]; exact hR.1, fun t k ht => by rw [hfx.1 (o + 3) (by omega)]; exact hR.2 t k ht⟩
    have h0 := h I' hfx
    unfold rsx rst at h0
    rw [if_pos hgd, if_pos hgd] at h0
    have h0 := h0 hE'
    refine s_isCallName hT (by omega) hR' hl hk (by omega) (bz_i (fun g => ⟨hT.1, s_kAt hT (by omega) hR' hl (by omega) ?_⟩) (fun g => ?_))
    · rw [if_neg (by rw [g]; decide)] at h0
      simp only [kAt_eq hk (show 1 < 2 ^ 31 by decide)]
      refine ⟨fun c => ?_, fun c => ?_⟩
      · rw [if_neg c] at h0
        exact h0
      · rw [if_pos c] at h0
        exact h0
    · rw [if_pos g] at h0
      exact h0
theorem l_become (hO : OO P) (hT : TO P o N) (ho : o + 5 < 85) (hN : N < 2 ^ 20) (hl : ks.length ≤ N) (hl2 : ks.length ≤ 120) (hk : k10 ks) : ∀ (n f t : Nat) (sk : List Nat) (ex : List (Nat × Nat × Nat)) (I : mI), t + n = ks.length → f ≤ t → sk.length ≤ f → ex.length ≤ f → KR I o ks → OS I sk → OE I ex →
    (∀ I', FrO I I' → OS I' (sk ++ (oln ks n f t).1) → OE I' (ex ++ (oln ks n f t).2) → Q (nI 0) I' P) → V E (d + 27) m_Outline_become 112 Q 14 [some (.inr 85), some (.inr o), some (.inl (nI f)), some (.inl (nI t))] [] 112 I P := by
  intro n
  induction n with
  | zero =>
    intro f t sk ex I hn hf hs hx hR hS hE h
    have ht : t = ks.length := by omega
    refine x_Outline_become_14 _ _ _ _ ⟨hT.1, ?_⟩
    rw [hR.1]
    refine pk_le ks.length t (fun _ => ⟨hT.1, ?_⟩) (fun g => by omega)
    unfold oln at h
    refine pk_le ks.length f (fun g => ?_) (fun g => ⟨k85, s_addStatement hO hS (by omega) ?_⟩)
    · rw [if_neg (by omega)] at h
      simp only [List.append_nil] at h
      exact h I (fun _ _ => rfl) hS hE
    · rw [if_pos (by omega)] at h
      simp only [List.append_nil] at h
      exact h _ os1_fr (os1_os hS) (os1_oe hE)
  | succ n ih =>
    intro f t sk ex I hn hf hs hx hR hS hE h
    rw [oln_s] at h
    refine x_Outline_become_14 _ _ _ _ ⟨hT.1, ?_⟩
    rw [hR.1]
    refine pk_le ks.length t (fun g => by omega) (fun g => ⟨hT.1, s_kAt hT (by omega) hR hl (by omega) ?_⟩)
    simp only [kAt_eq hk (show 7 < 2 ^ 31 by decide)]
    refine ⟨fun c => ?_, fun c => ⟨k85, ?_⟩⟩
    · rw [if_neg c] at h
      rw [n1]
      exact ih f (t + 1) sk ex I (by omega) (by omega) hs hx hR hS hE h
    · rw [if_pos c] at h
      refine s_readStatement (d := d) hO hT ho hN hl hk hf g (by omega) hR hE (fun I1 hf1 hE1 => ⟨k85, s_addStatement hO (hf1.os hS) (by omega) ?_⟩)
      rw [n1]
      have hrl : (rsx ks f t).length ≤ t - f := by
        unfold rsx
        split
        · exact scn_len _ _ _ _
        · simp
      have hfr : FrO I (os1 I1 sk.length (nI (rst ks f t))) := fun m hm => by rw [os1_fr m hm, hf1.1 m hm]
      refine ih (t + 1) (t + 1) (sk ++ [rst ks f t]) (ex ++ rsx ks f t) _ (by omega) (Nat.le_refl _) (by simp; omega) (by simp; omega) ?_ (os1_os (hf1.os hS)) (os1_oe hE1) (fun I' hf' hs' he' => h I' (fun m hm => by rw [hf' m hm, hfr m hm]) ?_ ?_)
      · exact ⟨by rw [hfr o (by omega)]; exact hR.1, fun t k ht => by rw [hfr (o + 3) (by omega)]; exact hR.2 t k ht⟩
      · simpa using hs'
      · simpa using he'
theorem s_become_O (hO : OO P) (hT : TO P o N) (ho : o + 5 < 85) (hN : N < 2 ^ 20) (hl : ks.length ≤ N) (hl2 : ks.length ≤ 120) (hk : k10 ks) {I : mI} (hR : KR I o ks) (h : ∀ I', FrO I I' → OS I' (outl ks).1 → OE I' (outl ks).2 → Q (nI 0) I' P) : V E (d + 27) m_Outline_become 112 Q 0 [some (.inr 85), some (.inr o), none, none] [] 112 I P := by
  refine x_Outline_become_0 _ _ ⟨k85, k85, ?_⟩
  have hf : FrO I (uI (uI I 85 1 (nI 0)) 85 5 (nI 0)) := fun m hm => by rw [uI_n (by omega), uI_n (by omega)]
  refine l_become hO hT ho hN hl hl2 hk ks.length 0 0 [] [] _ (by omega) (by omega) (by simp) (by simp) ?_ ?_ ?_ (fun I' hf' hs he => h I' (fun m hm => by rw [hf' m hm, hf m hm]) hs he)
  · exact ⟨by rw [hf o (by omega)]; exact hR.1, fun t k ht => by rw [hf (o + 3) (by omega)]; exact hR.2 t k ht⟩
  · exact ⟨by rw [uI_o (by decide), uI_s]; rfl, fun k x hx => by simp at hx⟩
  · exact ⟨by rw [uI_s]; rfl, fun k f l a hx => by simp at hx⟩
end OB
end
section
/-! The reference's reading of the program: statements, and which are good. -/
def gdr (ks : List Nat) (f e : Nat) : Bool := match le_ false (ks.drop f) with
  | some (m, dp) => decide (dp ≤ 12 ∧ f + m = e)
  | none => false
/-- statements: first and last token, and whether it is good -/
def spn (ks : List Nat) : Nat → Nat → Nat → List (Nat × Nat × Bool)
  | 0, f, t => if f < t then [(f, t - 1, false)] else []
  | n + 1, f, t => if ks[t]? = some 7 then (f, t, gdr ks f t) :: spn ks n (t + 1) (t + 1) else spn ks n f (t + 1)
theorem spn_s (ks : List Nat) (n f t : Nat) : spn ks (n + 1) f t = if ks[t]? = some 7 then (f, t, gdr ks f t) :: spn ks n (t + 1) (t + 1) else spn ks n f (t + 1) := rfl
def spns (ks : List Nat) : List (Nat × Nat × Bool) := spn ks ks.length 0 0
def GR (I : mI) (sp : List (Nat × Nat × Bool)) : Prop := I 95 17 = nI sp.length ∧ ∀ (j f e : Nat) (g : Bool), sp[j]? = some (f, e, g) → ∀ k, f ≤ k → k ≤ e → I 104 k = bI g ∧ I 105 k = nI j
def FrW (I I' : mI) : Prop := (∀ m, m ≠ 95 → m ≠ 104 → m ≠ 105 → I' m = I m) ∧ ∀ j, j ≠ 17 → I' 95 j = I 95 j
theorem FrW.rf {I : mI} : FrW I I := ⟨fun _ _ _ _ => rfl, fun _ _ => rfl⟩
theorem FrW.tr {I I' I'' : mI} (h : FrW I I') (h' : FrW I' I'') : FrW I I'' := ⟨fun m a b c => (h'.1 m a b c).trans (h.1 m a b c), fun j hj => (h'.2 j hj).trans (h.2 j hj)⟩
theorem nar_b (g : Bool) : vp_nar .boolean (bI g) = bI g := by cases g <;> rfl
section RD2
variable {E : XE} {d : Nat} {Q : Int32 → mI → mP → Prop} {P : mP} {ks : List Nat}
theorem l_set (hM : MO P) {e c : Nat} (he : e < 128) (g : Bool) : ∀ (n k : Nat) (I : mI), e + 1 - k = n → k ≤ e + 1 → I 95 17 = nI c →
    (∀ I', FrG [104, 105] k (e + 1) I I' → (∀ x, k ≤ x → x ≤ e → I' 104 x = bI g ∧ I' 105 x = nI c) → V E (d + 1) m_Model_read 112 Q 146 [some (.inr 95), none, some (.inl (nI e)), none, none] [] 112 I' P) → V E (d + 1) m_Model_read 112 Q 115 [some (.inr 95), none, some (.inl (nI e)), some (.inl (bI g)), some (.inl (nI k))] [] 112 I P := by
  obtain ⟨-, -, -, -, -, -, -, -, p14, p15, -⟩ := hM
  intro n
  induction n with
  | zero =>
    intro k I hn hk hc h
    refine x_Model_read_115 _ _ _ _ (pk_lt e k (fun _ => h I FrG.rf (fun x h1 h2 => by omega)) (fun q => by omega))
  | succ n ih =>
    intro k I hn hk hc h
    refine x_Model_read_115 _ _ _ _ (pk_lt e k (fun q => by omega) (fun _ => ?_))
    simp only [k95, p14, k104, p15, k105, nzl 104 (by decide), nzl 105 (by decide), true_and, nar_b, uI_n (show 95 ≠ 104 by decide), hc]
    have hin : vp_in (nI k) 128 := vp_in_nI (by omega) (by decide)
    refine ⟨hin, hin, ?_⟩
    rw [clp (by omega), n1]
    have hf : FrG [104, 105] k (e + 1) I (uI (uI I 104 k (bI g)) 105 k (nI c)) := (FrG.rf.u (by decide) (Nat.le_refl _) (by omega)).u (by decide) (Nat.le_refl _) (by omega)
    refine ih (k + 1) _ (by omega) (by omega) ?_ (fun I' hf' hx => h I' (hf.tr ⟨hf'.1, fun m j hj => hf'.2 m j (by omega)⟩) (fun x h1 h2 => ?_))
    · rw [uI_n (by decide), uI_n (by decide)]
      exact hc
    · by_cases e1 : x = k
      · subst e1
        rw [hf'.2 104 x (by omega), hf'.2 105 x (by omega), uI_n (by decide), uI_s, uI_s]
        exact ⟨rfl, rfl⟩
      · exact hx x (by omega) h2
theorem l_read (hM : MO P) (hl : ks.length ≤ 120) (hk : k10 ks) : ∀ (m i : Nat) (sp : List (Nat × Nat × Bool)) (I : mI), ks.length - i ≤ m → i ≤ ks.length → sp.length ≤ i → (∀ (j f e : Nat) (g : Bool), sp[j]? = some (f, e, g) → e < i) → I 95 16 = nI ks.length → MS I 0 ks → (∀ t, t < ks.length → LDR false I 0 ks t) → GR I sp →
    (∀ I', FrW I I' → GR I' (sp ++ spn ks (ks.length - i) i i) → Q (nI 0) I' P) → V E (d + 1) m_Model_read 112 Q 30 [some (.inr 95), some (.inl (nI i)), none, none, none] [] 112 I P := by
  have hM' := hM
  obtain ⟨-, -, -, p9, -, -, p12, p13, -⟩ := hM'
  intro m
  induction m with
  | zero =>
    intro i sp I hm hi hs hb h16 hS hL hG h
    refine x_Model_read_30 _ _ ⟨k95, ?_⟩
    rw [h16]
    refine pk_le ks.length i (fun _ => h I FrW.rf ?_) (fun q => by omega)
    rw [show ks.length - i = 0 by omega]
    unfold spn
    rw [if_neg (Nat.lt_irrefl _), List.append_nil]
    exact hG
  | succ m ih =>
    intro i sp I hm hi hs hb h16 hS hL hG h
    refine x_Model_read_30 _ _ ⟨k95, ?_⟩
    rw [h16]
    refine pk_le ks.length i (fun q => h I FrW.rf ?_) (fun hil => ?_)
    · rw [show ks.length - i = 0 by omega]
      unfold spn
      rw [if_neg (Nat.lt_irrefl _), List.append_nil]
      exact hG
    · -- the end of a statement at e: its tokens are marked, and on it goes
      have close : ∀ (e : Nat) (g : Bool), i ≤ e → e < ks.length → (spn ks (ks.length - i) i i = (i, e, g) :: spn ks (ks.length - (e + 1)) (e + 1) (e + 1)) → V E (d + 1) m_Model_read 112 Q 112 [some (.inr 95), some (.inl (nI i)), some (.inl (nI e)), some (.inl (bI g)), none] [] 112 I P := by
        intro e g hie hel hsp
        refine x_Model_read_112 _ _ _ _ (l_set hM (by omega) g _ i I rfl (by omega) hG.1 (fun I1 hf1 hx1 => x_Model_read_146 _ _ ⟨k95, k95, ?_⟩))
        have h17 : I1 95 17 = nI sp.length := by rw [hf1.1 95 (by decide)]; exact hG.1
        rw [h17, n1, n1]
        have hf2 : FrW I (uI I1 95 17 (nI (sp.length + 1))) := ⟨fun m a b c => by rw [uI_n a, hf1.1 m (by simp [b, c])], fun j hj => by rw [uI_o hj, hf1.1 95 (by decide)]⟩
        refine ih (e + 1) (sp ++ [(i, e, g)]) _ (by omega) (by omega) (by simp; omega) (fun j f e' g' hj => ?_) ?_ ?_ ?_ ?_ (fun I' hf' hg' => h I' (hf2.tr hf') ?_)
        · by_cases hjl : j < sp.length
          · rw [List.getElem?_append_left hjl] at hj
            have := hb j f e' g' hj
            omega
          · have ej : j = sp.length := by
              have := (List.getElem?_eq_some_iff.mp hj).1
              rw [List.length_append] at this
              simp at this
              omega
            subst ej
            rw [List.getElem?_append_right (Nat.le_refl _), Nat.sub_self] at hj
            cases hj
            omega
        · rw [hf2.2 16 (by decide)]
          exact h16
        · intro t k' ht
          rw [hf2.1 99 (by decide) (by decide) (by decide)]
          exact hS t k' ht
        · intro t ht
          exact (hL t ht).kept (by rw [hf2.1 102 (by decide) (by decide) (by decide)]) (by rw [hf2.1 103 (by decide) (by decide) (by decide)])
        · refine ⟨by rw [uI_s, List.length_append]; rfl, fun j f e' g' hj k h1 h2 => ?_⟩
          rw [uI_n (by decide), uI_n (by decide)]
          by_cases hjl : j < sp.length
          · rw [List.getElem?_append_left hjl] at hj
            have hlt := hb j f e' g' hj
            rw [hf1.2 104 k (by omega), hf1.2 105 k (by omega)]
            exact hG.2 j f e' g' hj k h1 h2
          · have ej : j = sp.length := by
              have := (List.getElem?_eq_some_iff.mp hj).1
              rw [List.length_append] at this
              simp at this
              omega
            subst ej
            rw [List.getElem?_append_right (Nat.le_refl _), Nat.sub_self] at hj
            cases hj
            exact hx1 k h1 h2
        · rw [hsp]
          simpa using hg'
      -- the search for the end
      have find : ∀ (n e : Nat), ks.length - e = n → i ≤ e → e < ks.length → spn ks (ks.length - i) i i = spn ks (ks.length - e) i e → V E (d + 1) m_Model_read 112 Q 40 [some (.inr 95), some (.inl (nI i)), some (.inl (nI e)), none, none] [] 112 I P := by
        intro n
        induction n with
        | zero => intro e hn hie hel; omega
        | succ n ihn =>
          intro e hn hie hel hsp
          have hg := List.getElem?_eq_getElem hel
          have hk0 := hk _ (List.mem_of_getElem? hg)
          generalize hkk : ks[e] = k0 at hg hk0
          have hsp2 : spn ks (ks.length - i) i i = if ks[e]? = some 7 then (i, e, gdr ks i e) :: spn ks (ks.length - (e + 1)) (e + 1) (e + 1) else spn ks (ks.length - (e + 1)) i (e + 1) := by
            rw [hsp, show ks.length - e = (ks.length - (e + 1)) + 1 by omega, spn_s]
          have hse : I 99 e = nI (rc k0) := by
            have := hS e k0 hg
            rwa [Nat.zero_add] at this
          have hine : vp_in (nI e) 192 := vp_in_nI (by omega) (by decide)
          have at67 : (ks[e]? = some 7 ∨ e + 1 = ks.length) → V E (d + 1) m_Model_read 112 Q 67 [some (.inr 95), some (.inl (nI i)), some (.inl (nI e)), none, none] [] 112 I P := by
            intro hend
            refine x_Model_read_67 _ _ _ ?_
            simp only [k95, p9, k99, p12, k102, p13, k103, nzl 99 (by decide), nzl 102 (by decide), nzl 103 (by decide), true_and]
            rw [clp (by omega), clp (by omega), hse]
            simp only [rc_7 hk0]
            refine ⟨hine, fun c7 => ?_, fun c7 => ?_⟩
            · have hn7 : ¬ ks[e]? = some 7 := fun q => c7 (by rw [hg] at q; injection q)
              have he : e + 1 = ks.length := by
                rcases hend with q | q
                · exact absurd q hn7
                · exact q
              refine close e false hie hel ?_
              rw [hsp2, if_neg hn7, show ks.length - (e + 1) = 0 by omega]
              unfold spn
              rw [if_pos (by omega), if_neg (Nat.lt_irrefl _)]
              rfl
            · have h7 : ks[e]? = some 7 := by rw [hg, c7]
              rw [if_pos h7] at hsp2
              have hno : gdr ks i e = false → V E (d + 1) m_Model_read 112 Q 112 [some (.inr 95), some (.inl (nI i)), some (.inl (nI e)), some (.inl (nI 0)), none] [] 112 I P := fun q => close e false hie hel (by rw [hsp2, q])
              have hLi := hL i (by omega)
              refine pk_le e i (fun q => hno ?_) (fun q => ?_)
              · have : i = e := by omega
                subst this
                unfold gdr
                rw [drop_k h7, le_oth _ (by decide) (by decide) (by decide)]
              · have hini : vp_in (nI i) 192 := vp_in_nI (by omega) (by decide)
                refine ⟨hini, ?_⟩
                rw [pk_sub (show 1 ≤ e by omega)]
                cases hle : le_ false (ks.drop i) with
                | none =>
                  have e0 := hLi.n hle
                  rw [Nat.zero_add] at e0
                  rw [e0]
                  exact ⟨fun _ => hno (by unfold gdr; rw [hle]), fun a => absurd a (m1_ne (by omega))⟩
                | some z =>
                  obtain ⟨mm, dp⟩ := z
                  obtain ⟨e1, e2⟩ := hLi.s hle
                  rw [Nat.zero_add] at e1 e2
                  have hbb := le_b hle
                  have hdd := le_d hle
                  rw [List.length_drop] at hbb
                  rw [e1, e2]
                  have hgd : gdr ks i e = decide (dp ≤ 12 ∧ i + mm = e) := by unfold gdr; rw [hle]
                  rw [nI_eq (by omega) (by omega)]
                  refine ⟨fun a => hno (by rw [hgd]; exact decide_eq_false (by omega)), fun a => ⟨hini, ?_⟩⟩
                  refine pk_lt 12 dp (fun b => hno (by rw [hgd]; exact decide_eq_false (by omega))) (fun b => close e true hie hel (by rw [hsp2, hgd, decide_eq_true (by omega)]))
          refine x_Model_read_40 _ _ _ ⟨k95, ?_⟩
          rw [h16, pk_sub (show 1 ≤ ks.length by omega)]
          refine pk_le (ks.length - 1) e (fun q => at67 (Or.inr (by omega))) (fun q => ?_)
          simp only [k95, p9, k99, nzl 99 (by decide), true_and]
          rw [clp (by omega), hse]
          simp only [rc_7 hk0]
          refine ⟨hine, fun c7 => at67 (Or.inl (by rw [hg, c7])), fun c7 => ?_⟩
          rw [n1]
          refine ihn (e + 1) (by omega) (by omega) (by omega) ?_
          rw [hsp2, if_neg (fun q => c7 (by rw [hg] at q; injection q))]
      exact find _ i rfl (Nat.le_refl _) hil rfl
/-- what read leaves -/
def FrR (I I' : mI) : Prop := (∀ m, m ≠ 95 → (m < 99 ∨ 105 < m) → I' m = I m) ∧ (∀ j, j ≠ 16 → j ≠ 17 → I' 95 j = I 95 j) ∧ ∀ m j, 99 ≤ m → m ≤ 103 → 120 ≤ j → I' m j = I m j
theorem tks_k10 (s : List Int32) : k10 ((tks s).map Prod.fst) := by
  have key : ∀ (n : Nat) (s acc : List Int32) (p : Nat), ∀ q ∈ psn p (lx n s acc).1, q.1 < 10 := by
    intro n
    induction n with
    | zero => intro s acc p q hq; simp [lx, psn] at hq
    | succ n ih =>
      intro s acc p q hq
      cases s with
      | nil => simp [lx, psn] at hq
      | cons c r =>
        rw [lx_cons] at hq
        split at hq
        · exact ih _ _ _ q hq
        · split at hq
          · exact ih _ _ _ q hq
          · rw [psn_c] at hq
            rcases List.mem_cons.mp hq with rfl | hq
            · exact tkK_10 _ _
            · exact ih _ _ _ q hq
  intro k hk
  obtain ⟨q, hq, rfl⟩ := List.mem_map.mp hk
  exact key _ _ _ _ q hq
theorem tks_len (s : List Int32) : (tks s).length ≤ s.length := by
  have key : ∀ (n : Nat) (s acc : List Int32), (lx n s acc).1.length ≤ s.length := by
    intro n
    induction n with
    | zero => intro s acc; simp [lx]
    | succ n ih =>
      intro s acc
      cases s with
      | nil => simp [lx]
      | cons c r =>
        rw [lx_cons]
        split
        · exact Nat.le_trans (ih _ _) (by simp)
        · split
          · exact Nat.le_trans (ih _ _) (by simp; omega)
          · simp only [List.length_cons]
            have := ih (r.drop (tkN (tkK c r) r)) []
            rw [List.length_drop] at this
            omega
  unfold tks
  rw [psn_len]
  exact key _ _ _
def kds (s : List Int32) : List Nat := (tks s).map Prod.fst
theorem kds_k10 (s : List Int32) : k10 (kds s) := tks_k10 s
theorem MR.ms {I : mI} {base off : Nat} {s : List Int32} (h : MR I base off (tks s)) : MS I base (kds s) := by
  intro t k hk
  unfold kds at hk
  rw [List.getElem?_map] at hk
  cases hq : (tks s)[t]? with
  | none => rw [hq] at hk; cases hk
  | some q =>
    obtain ⟨k', a, b⟩ := q
    rw [hq] at hk
    cases hk
    exact (h t k' a b hq).1
theorem s_read (hM : MO P) {s : List Int32} (hs : s.length ≤ 120) {I : mI} (h2 : I 95 2 = nI s.length) (hc : Rc (I 96) 0 s)
    (h : ∀ I', FrR I I' → I' 95 16 = nI (tks s).length → MR I' 0 0 (tks s) → (∀ t, t < (kds s).length → LDR false I' 0 (kds s) t) → GR I' (spns (kds s)) → Q (nI 0) I' P) : V E (d + 3) m_Model_read 112 Q 0 [some (.inr 95), none, none, none, none] [] 112 I P := by
  have htl := tks_len s
  have hkl : (kds s).length = (tks s).length := by unfold kds; rw [List.length_map]
  refine x_Model_read_0 _ ⟨k95, k95, ?_⟩
  rw [h2]
  refine s_tokenise hM (by omega) (by omega) hc (fun I1 hf1 hr1 => ⟨k95, k95, k95, ?_⟩)
  rw [uI_s, ← hkl]
  have hr1' : MR (uI I1 95 16 (nI (kds s).length)) 0 0 (tks s) := fun t k a b ht => by
    rw [uI_n (by decide), uI_n (by decide), uI_n (by decide)]
    exact hr1 t k a b ht
  refine s_structure (hol := false) (ks := kds s) hM (by omega) (kds_k10 s) (by simp) hr1'.ms (fun I2 hf2 hl2 => ⟨k95, ?_⟩)
  have hr2 : MR (uI I2 95 17 (nI 0)) 0 0 (tks s) := fun t k a b ht => by
    rw [uI_n (by decide), uI_n (by decide), uI_n (by decide), hf2.1 99 (by decide), hf2.1 100 (by decide), hf2.1 101 (by decide)]
    exact hr1' t k a b ht
  refine l_read (ks := kds s) hM (by omega) (kds_k10 s) (kds s).length 0 [] _ (by omega) (by omega) (by simp) (fun j f e g hj => by simp at hj) ?_ hr2.ms ?_ ?_ (fun I' hf' hg' => h I' ?_ ?_ ?_ ?_ hg')
  · rw [uI_o (by decide), hf2.1 95 (by decide), uI_s]
  · intro t ht
    exact (hl2 t ht).kept (by rw [uI_n (by decide)]) (by rw [uI_n (by decide)])
  · exact ⟨by rw [uI_s]; rfl, fun j f e g hj => by simp at hj⟩
  · refine ⟨fun m hm hm2 => ?_, fun j h16 h17 => ?_, fun m j h99 h103 hj => ?_⟩
    · rw [hf'.1 m hm (by omega) (by omega), uI_n hm, hf2.1 m (by simp; omega), uI_n hm, hf1.1 m (by omega) (by omega) (by omega)]
    · rw [hf'.2 j h17, uI_o h17, hf2.1 95 (by decide), uI_o h16, hf1.1 95 (by decide) (by decide) (by decide)]
    · rw [hf'.1 m (by omega) (by omega) (by omega), uI_n (by omega), hf2.2 m j (by omega), uI_n (by omega), hf1.2 m j (by omega)]
  · rw [hf'.2 16 (by decide), uI_o (by decide), hf2.1 95 (by decide), uI_s, hkl]
  · intro t k a b ht
    rw [hf'.1 99 (by decide) (by decide) (by decide), hf'.1 100 (by decide) (by decide) (by decide), hf'.1 101 (by decide) (by decide) (by decide)]
    exact hr2 t k a b ht
  · intro t ht
    exact (hl2 t ht).kept (by rw [hf'.1 102 (by decide) (by decide) (by decide), uI_n (by decide)]) (by rw [hf'.1 103 (by decide) (by decide) (by decide), uI_n (by decide)])
end RD2
end
section
/-! Good statements are the same for both. -/
def no3 (l : List Nat) : Prop := ∀ k ∈ l, k ≠ 3
theorem hf1 : ∀ (n : Nat) (b : Bool) (l : List Nat) (m dp : Nat), ldg false n b l = some (m, dp) → ldg true n b l = some (m, dp) ∧ no3 (l.take m)
  | 0, _, _, _, _, h => by cases h
  | n + 1, true, l, m, dp, h => by
    unfold ldg at h ⊢
    split at h
    · cases h
      refine ⟨rfl, fun k hk => ?_⟩
      simp at hk
      omega
    · rename_i a hne
      cases ha : ldg false n false a with
      | none => rw [ha] at h; cases h
      | some q =>
        obtain ⟨m', dp'⟩ := q
        rw [ha] at h
        cases h
        obtain ⟨g1, g2⟩ := hf1 n false a m' dp' ha
        refine ⟨?_, fun k hk => ?_⟩
        · rw [g1]
          rfl
        · rw [List.take_succ_cons, List.take_succ_cons] at hk
          rcases List.mem_cons.mp hk with rfl | hk
          · decide
          · rcases List.mem_cons.mp hk with rfl | hk
            · decide
            · exact g2 k hk
    · cases h
      refine ⟨?_, fun k hk => ?_⟩
      · rfl
      · simp at hk
        omega
    · cases h
      refine ⟨rfl, fun k hk => ?_⟩
      simp at hk
      omega
    · cases h
    · cases h
  | n + 1, false, l, m, dp, h => by
    unfold ldg at h ⊢
    cases ha : ldg false n true l with
    | none => rw [ha] at h; cases h
    | some q =>
      obtain ⟨m', dp'⟩ := q
      rw [ha] at h
      dsimp only at h
      obtain ⟨g1, g2⟩ := hf1 n true l m' dp' ha
      have hb := ldg_b _ _ _ _ _ ha
      rw [g1]
      dsimp only
      split at h
      · rename_i r hr
        cases h
        refine ⟨rfl, fun k hk => ?_⟩
        rw [List.take_add, hr] at hk
        rcases List.mem_append.mp hk with hk | hk
        · exact g2 k hk
        · simp at hk
          omega
      · rename_i r hr
        cases hb2 : ldg false n false r with
        | none => rw [hb2] at h; cases h
        | some q =>
          obtain ⟨m2, dp2⟩ := q
          rw [hb2] at h
          cases h
          obtain ⟨g3, g4⟩ := hf1 n false r m2 dp2 hb2
          refine ⟨?_, fun k hk => ?_⟩
          · rw [g3]
            rfl
          · rw [show (m' + 1 + m2 : Nat) = m' + (1 + m2) by omega, List.take_add, hr] at hk
            rcases List.mem_append.mp hk with hk | hk
            · exact g2 k hk
            · rw [show 1 + m2 = m2 + 1 by omega, List.take_succ_cons] at hk
              rcases List.mem_cons.mp hk with rfl | hk
              · decide
              · exact g4 k hk
      · cases h
theorem hf2 : ∀ (n : Nat) (b : Bool) (l : List Nat) (m dp : Nat), ldg true n b l = some (m, dp) → no3 (l.take m) → ldg false n b l = some (m, dp)
  | 0, _, _, _, _, h, _ => by cases h
  | n + 1, true, l, m, dp, h, h3 => by
    unfold ldg at h ⊢
    split at h
    · exact h
    · rename_i a hne
      cases ha : ldg true n false a with
      | none => rw [ha] at h; cases h
      | some q =>
        obtain ⟨m', dp'⟩ := q
        rw [ha] at h
        cases h
        have g := hf2 n false a m' dp' ha (fun k hk => h3 k (by
          show k ∈ List.take (m' + 2) (1 :: 4 :: a)
          rw [List.take_succ_cons, List.take_succ_cons]
          exact List.mem_cons_of_mem _ (List.mem_cons_of_mem _ hk)))
        rw [g]
        rfl
    · exact h
    · exact h
    · rename_i r
      cases h
      exact absurd rfl (h3 3 (by simp))
    · cases h
  | n + 1, false, l, m, dp, h, h3 => by
    unfold ldg at h ⊢
    cases ha : ldg true n true l with
    | none => rw [ha] at h; cases h
    | some q =>
      obtain ⟨m', dp'⟩ := q
      rw [ha] at h
      dsimp only at h
      have hsub : m' ≤ m := by
        split at h
        · cases h
          omega
        · rename_i r hr
          cases hb2 : ldg true n false r with
          | none => rw [hb2] at h; cases h
          | some q => rw [hb2] at h; cases h; omega
        · cases h
      have g := hf2 n true l m' dp' ha (fun k hk => h3 k (List.take_subset_take_left l hsub hk))
      rw [g]
      dsimp only
      split at h
      · exact h
      · rename_i r hr
        cases hb2 : ldg true n false r with
        | none => rw [hb2] at h; cases h
        | some q =>
          obtain ⟨m2, dp2⟩ := q
          rw [hb2] at h
          cases h
          have g2 := hf2 n false r m2 dp2 hb2 (fun k hk => h3 k (by
            show k ∈ List.take (m' + 1 + m2) l
            rw [show (m' + 1 + m2 : Nat) = m' + (1 + m2) by omega, List.take_add, hr, show 1 + m2 = m2 + 1 by omega, List.take_succ_cons]
            exact List.mem_append_right _ (List.mem_cons_of_mem _ hk)))
          rw [g2]
          rfl
      · cases h
theorem gds_gdr (ks : List Nat) (f e : Nat) : gds ks f e = gdr ks f e := by
  unfold gds gdr
  cases h : le_ false (ks.drop f) with
  | some q =>
    obtain ⟨m, dp⟩ := q
    obtain ⟨g1, g2⟩ := hf1 _ _ _ _ _ h
    have g1 : le_ true (ks.drop f) = some (m, dp) := g1
    rw [g1]
    dsimp only
    by_cases hc : dp ≤ 12 ∧ f + m = e
    · rw [decide_eq_true hc, Bool.true_and]
      rw [show e - f = m by omega]
      rw [show ((ks.drop f).take m).any (fun k => k == 3) = false from ?_]
      · rfl
      · rw [List.any_eq_false]
        intro k hk
        have := g2 k hk
        simpa using this
    · rw [decide_eq_false hc, Bool.false_and]
  | none =>
    cases h2 : le_ true (ks.drop f) with
    | none => rfl
    | some q =>
      obtain ⟨m, dp⟩ := q
      dsimp only
      by_cases hc : dp ≤ 12 ∧ f + m = e
      · rw [decide_eq_true hc, Bool.true_and, show e - f = m by omega]
        cases ha : ((ks.drop f).take m).any (fun k => k == 3) with
        | true => rfl
        | false =>
          have := hf2 _ _ _ _ _ h2 (fun k hk => by
            have := (List.any_eq_false.mp ha) k hk
            simpa using this)
          have : le_ false (ks.drop f) = some (m, dp) := this
          rw [h] at this
          cases this
      · rw [decide_eq_false hc, Bool.false_and]
end
section
/-! What the scan of an expression adds: just the expressions in it, by their ends. -/
def n12 (o : Option Nat) : Prop := o = some 1 ∨ o = some 2
def EX (l : List Nat) (t lo hi a D : Nat) (X : List (Nat × Nat × Nat)) : Prop :=
  (∀ (i j b : Nat), (i, j, b) ∈ X → lo ≤ i ∧ i ≤ j ∧ j < hi ∧ a ≤ b ∧ n12 l[i - t]? ∧ ∃ dp, le_ false (l.drop (i - t)) = some (j - i + 1, dp) ∧ b + dp ≤ D) ∧
  (∀ i, lo ≤ i → i < hi → n12 l[i - t]? → ∃ j b, (i, j, b) ∈ X) ∧ X.Pairwise (fun x y => x.2.1 < y.2.1)
theorem EX.shift {l : List Nat} {t c lo hi a D : Nat} {X : List (Nat × Nat × Nat)} (h : EX (l.drop c) (t + c) lo hi a D X) (hl : t + c ≤ lo) : EX l t lo hi a D X := by
  refine ⟨fun i j b hx => ?_, fun i h1 h2 h3 => h.2.1 i h1 h2 ?_, h.2.2⟩
  · obtain ⟨g1, g2, g3, g4, g5, dp, g6, g7⟩ := h.1 i j b hx
    rw [List.getElem?_drop, show c + (i - (t + c)) = i - t by omega] at g5
    rw [List.drop_drop, show c + (i - (t + c)) = i - t by omega] at g6
    exact ⟨g1, g2, g3, g4, g5, dp, g6, g7⟩
  · rw [List.getElem?_drop, show c + (i - (t + c)) = i - t by omega]
    exact h3
theorem EX.cat {l : List Nat} {t lo mid hi a a2 D D2 : Nat} {X Y : List (Nat × Nat × Nat)} (h : EX l t lo mid a D X) (h2 : EX l t mid hi a2 D2 Y) (h3 : lo ≤ mid) (h4 : mid ≤ hi) : EX l t lo hi (min a a2) (max D D2) (X ++ Y) := by
  refine ⟨fun i j b hx => ?_, fun i g1 g2 g3 => ?_, ?_⟩
  · rcases List.mem_append.mp hx with hx | hx
    · obtain ⟨g1, g2, g3, g4, g5, dp, g6, g7⟩ := h.1 i j b hx
      exact ⟨g1, g2, by omega, by omega, g5, dp, g6, by omega⟩
    · obtain ⟨g1, g2, g3, g4, g5, dp, g6, g7⟩ := h2.1 i j b hx
      exact ⟨by omega, g2, g3, by omega, g5, dp, g6, by omega⟩
  · by_cases hm : i < mid
    · obtain ⟨j, b, hx⟩ := h.2.1 i g1 hm g3
      exact ⟨j, b, List.mem_append_left _ hx⟩
    · obtain ⟨j, b, hx⟩ := h2.2.1 i (by omega) g2 g3
      exact ⟨j, b, List.mem_append_right _ hx⟩
  · rw [List.pairwise_append]
    refine ⟨h.2.2, h2.2.2, fun x hx y hy => ?_⟩
    obtain ⟨i, j, b⟩ := x
    obtain ⟨i', j', b'⟩ := y
    have g1 := h.1 i j b hx
    have g2 := h2.1 i' j' b' hy
    show j < j'
    omega
/-- tokens without a name or a number add nothing -/
theorem EX.nil {l : List Nat} {t lo hi a D : Nat} (h : ∀ i, lo ≤ i → i < hi → ¬ n12 l[i - t]?) : EX l t lo hi a D [] :=
  ⟨fun i j b hx => by simp at hx, fun i h1 h2 h3 => absurd h3 (h i h1 h2), List.Pairwise.nil⟩
theorem EX.mono {l : List Nat} {t lo hi a a' D D' : Nat} {X : List (Nat × Nat × Nat)} (h : EX l t lo hi a D X) (ha : a' ≤ a) (hD : D ≤ D') : EX l t lo hi a' D' X := by
  refine ⟨fun i j b hx => ?_, h.2.1, h.2.2⟩
  obtain ⟨g1, g2, g3, g4, g5, dp, g6, g7⟩ := h.1 i j b hx
  exact ⟨g1, g2, g3, by omega, g5, dp, g6, by omega⟩
theorem sc_sk (n k t : Nat) (r s : List Nat) (h1 : k ≠ 1) (h2 : k ≠ 2) (h5 : k ≠ 5) : scn (n + 1) (k :: r) t s = scn n r (t + 1) s := by
  rw [scn_c, if_neg (fun q => h1 q.1.1), if_neg h5, if_neg (by omega)]
theorem sc_5 (n t f : Nat) (r s : List Nat) : scn (n + 1) (5 :: r) t (f :: s) = ((f, t, s.length) :: (scn n r (t + 1) s).1, (scn n r (t + 1) s).2) := by
  rw [scn_c, if_neg (fun q => by cases q.1.1), if_pos rfl]
theorem sc_p (n t : Nat) (r s : List Nat) (h : hd4 r = true) (hs : s.length < 12) : scn (n + 1) (1 :: r) t s = scn n r (t + 1) (t :: s) := by
  rw [scn_c, if_pos ⟨⟨rfl, h⟩, hs⟩]
theorem sc_l1 (n t : Nat) (r s : List Nat) (h : hd4 r = false) : scn (n + 1) (1 :: r) t s = ((t, t, s.length) :: (scn n r (t + 1) s).1, (scn n r (t + 1) s).2) := by
  rw [scn_c, if_neg (fun q => by rw [h] at q; cases q.1.2), if_neg (by decide), if_pos (Or.inl rfl)]
theorem sc_l2 (n t : Nat) (r s : List Nat) : scn (n + 1) (2 :: r) t s = ((t, t, s.length) :: (scn n r (t + 1) s).1, (scn n r (t + 1) s).2) := by
  rw [scn_c, if_neg (fun q => by cases q.1.1), if_neg (by decide), if_pos (Or.inr rfl)]
def ScE (l : List Nat) : Prop := ∀ (m dp : Nat), le_ false l = some (m, dp) → ∀ (t a : Nat), a + dp ≤ 12 → ∃ X, (∀ (n : Nat) (s : List Nat), s.length = a → scn (m + n) l t s = (X ++ (scn n (l.drop m) (t + m) s).1, (scn n (l.drop m) (t + m) s).2)) ∧ EX l t t (t + m) a (a + dp) X
def ScA (l : List Nat) : Prop := ∀ (m dp : Nat), la_ false l = some (m, dp) → ∀ (t a : Nat), a + 1 + dp ≤ 12 → ∃ X, (∀ (n f : Nat) (s : List Nat), s.length = a → scn (m + n) l t (f :: s) = (X ++ (f, t + m - 1, a) :: (scn n (l.drop m) (t + m) s).1, (scn n (l.drop m) (t + m) s).2)) ∧ EX l t t (t + m - 1) (a + 1) (a + 1 + dp) X ∧ l[m - 1]? = some 5
theorem leaf_EX {k : Nat} {r : List Nat} {t a : Nat} (hk : k = 1 ∨ k = 2) (h : le_ false (k :: r) = some (1, 0)) : EX (k :: r) t t (t + 1) a (a + 0) [(t, t, a)] := by
  refine ⟨fun i j b hx => ?_, fun i h1 h2 _ => ⟨t, a, ?_⟩, List.pairwise_singleton _ _⟩
  · simp at hx
    obtain ⟨rfl, rfl, rfl⟩ := hx
    rw [Nat.sub_self]
    refine ⟨Nat.le_refl _, Nat.le_refl _, by omega, Nat.le_refl _, ?_, 0, h, by omega⟩
    rcases hk with rfl | rfl
    · exact Or.inl rfl
    · exact Or.inr rfl
  · have : i = t := by omega
    rw [this]
    simp
theorem sc_all : ∀ N : Nat, (∀ l : List Nat, l.length ≤ N → ScE l) ∧ (∀ l : List Nat, l.length ≤ N → ScA l) := by
  intro N
  induction N with
  | zero =>
    constructor
    · intro l hl m dp h
      have : l = [] := List.length_eq_zero_iff.mp (by omega)
      subst this
      rw [le_nil] at h
      cases h
    · intro l hl m dp h
      have : l = [] := List.length_eq_zero_iff.mp (by omega)
      subst this
      rw [la_nil] at h
      cases h
  | succ N ih =>
    have hE : ∀ l : List Nat, l.length ≤ N + 1 → ScE l := by
      intro l hl m dp h t a ha
      cases l with
      | nil => rw [le_nil] at h; cases h
      | cons k r =>
        have hrl : r.length ≤ N := by simpa using hl
        by_cases k1 : k = 1
        · subst k1
          cases r with
          | nil =>
            rw [le_name (fun r' e => by cases e)] at h
            cases h
            refine ⟨[(t, t, a)], fun n s hs => ?_, leaf_EX (Or.inl rfl) (le_name (fun r' e => by cases e))⟩
            rw [Nat.add_comm 1 n, sc_l1 n t [] s rfl, hs]
            rfl
          | cons k2 r2 =>
            by_cases k4 : k2 = 4
            · subst k4
              by_cases h5 : ∃ r3, r2 = 5 :: r3
              · obtain ⟨r3, rfl⟩ := h5
                rw [le_c5] at h
                cases h
                refine ⟨[(t, t + 2, a)], fun n s hs => ?_, ?_⟩
                · rw [show 3 + n = n + 1 + 1 + 1 by omega, sc_p _ t _ s rfl (by omega), sc_sk _ 4 _ _ _ (by decide) (by decide) (by decide), sc_5, hs]
                  rfl
                · refine ⟨fun i j b hx => ?_, fun i g1 g2 g3 => ?_, List.pairwise_singleton _ _⟩
                  · simp at hx
                    obtain ⟨rfl, rfl, rfl⟩ := hx
                    rw [Nat.sub_self]
                    exact ⟨Nat.le_refl _, by omega, by omega, Nat.le_refl _, Or.inl rfl, 1, by rw [List.drop_zero, le_c5, show i + 2 - i + 1 = 3 by omega], Nat.le_refl _⟩
                  · have hi : i = t ∨ i = t + 1 ∨ i = t + 2 := by omega
                    rcases hi with rfl | rfl | rfl
                    · exact ⟨i + 2, a, by simp⟩
                    · rw [show t + 1 - t = 1 by omega] at g3
                      rcases g3 with g3 | g3 <;> cases g3
                    · rw [show t + 2 - t = 2 by omega] at g3
                      rcases g3 with g3 | g3 <;> cases g3
              · have hne : ∀ r', r2 ≠ 5 :: r' := fun r' e => h5 ⟨r', e⟩
                rw [le_call hne] at h
                cases hla : la_ false r2 with
                | none => rw [hla] at h; cases h
                | some q =>
                  obtain ⟨m', dp'⟩ := q
                  rw [hla] at h
                  cases h
                  have hbm := la_b hla
                  dsimp only at ha ⊢
                  obtain ⟨X, hX, hEX, hc5⟩ := ih.2 r2 (by simp at hrl; omega) m' dp' hla (t + 2) a (by omega)
                  have hlec : le_ false (1 :: 4 :: r2) = some (m' + 2, dp' + 1) := by rw [le_call hne, hla]; rfl
                  refine ⟨X ++ [(t, t + (m' + 2) - 1, a)], fun n s hs => ?_, ?_⟩
                  · rw [show m' + 2 + n = m' + n + 1 + 1 by omega, sc_p _ t _ s rfl (by omega), sc_sk _ 4 _ _ _ (by decide) (by decide) (by decide), hX n t s hs]
                    rw [show t + 2 + m' - 1 = t + (m' + 2) - 1 by omega, show t + 2 + m' = t + (m' + 2) by omega]
                    simp
                  · have h1 : EX (1 :: 4 :: r2) t (t + 2) (t + 2 + m' - 1) (a + 1) (a + 1 + dp') X := EX.shift (c := 2) hEX (Nat.le_refl _)
                    refine ⟨fun i j b hx => ?_, fun i g1 g2 g3 => ?_, ?_⟩
                    · rcases List.mem_append.mp hx with hx | hx
                      · obtain ⟨g1, g2, g3, g4, g5, dp, g6, g7⟩ := h1.1 i j b hx
                        exact ⟨by omega, g2, by omega, by omega, g5, dp, g6, by omega⟩
                      · have hx := List.mem_singleton.mp hx
                        injection hx with hx1 hx
                        injection hx with hx2 hx3
                        subst hx1; subst hx2; subst hx3
                        rw [Nat.sub_self]
                        exact ⟨Nat.le_refl _, by omega, by omega, Nat.le_refl _, Or.inl rfl, dp' + 1, by rw [List.drop_zero, hlec, show i + (m' + 2) - 1 - i + 1 = m' + 2 by omega], Nat.le_refl _⟩
                    · by_cases hi : i = t
                      · exact ⟨t + (m' + 2) - 1, a, by rw [hi]; simp⟩
                      · by_cases hi1 : i = t + 1
                        · subst hi1
                          rw [show t + 1 - t = 1 by omega] at g3
                          rcases g3 with g3 | g3 <;> cases g3
                        · by_cases hi2 : i = t + 1 + m'
                          · rw [hi2, show t + 1 + m' - t = (m' - 1) + 1 + 1 by omega, List.getElem?_cons_succ, List.getElem?_cons_succ, hc5] at g3
                            rcases g3 with g3 | g3 <;> cases g3
                          · obtain ⟨j, b, hx⟩ := h1.2.1 i (by omega) (by omega) g3
                            exact ⟨j, b, List.mem_append_left _ hx⟩
                    · rw [List.pairwise_append]
                      refine ⟨h1.2.2, List.pairwise_singleton _ _, fun x hx y hy => ?_⟩
                      obtain ⟨i, j, b⟩ := x
                      have hy := List.mem_singleton.mp hy
                      subst hy
                      have g := h1.1 i j b hx
                      show j < t + (m' + 2) - 1
                      omega
            · have hno : ∀ r', k2 :: r2 ≠ 4 :: r' := fun r' e => k4 (by injection e)
              have hh : hd4 (k2 :: r2) = false := by
                show Nat.beq k2 4 = false
                cases hb : Nat.beq k2 4 with
                | false => rfl
                | true => exact absurd (Nat.eq_of_beq_eq_true hb) k4
              rw [le_name hno] at h
              cases h
              refine ⟨[(t, t, a)], fun n s hs => ?_, leaf_EX (Or.inl rfl) (le_name hno)⟩
              rw [Nat.add_comm 1 n, sc_l1 n t _ s hh, hs]
              rfl
        · by_cases k2 : k = 2
          · subst k2
            rw [le_num] at h
            cases h
            refine ⟨[(t, t, a)], fun n s hs => ?_, leaf_EX (Or.inr rfl) (le_num _)⟩
            rw [Nat.add_comm 1 n, sc_l2 n t _ s, hs]
            rfl
          · by_cases k3 : k = 3
            · subst k3
              rw [le_hole] at h
              cases h
            · rw [le_oth _ k1 k2 k3] at h
              cases h
    refine ⟨hE, fun l hl m dp h t a ha => ?_⟩
    cases hle : le_ false l with
    | none => rw [la_n hle] at h; cases h
    | some q =>
      obtain ⟨m1, d1⟩ := q
      have hb1 := le_b hle
      by_cases h5 : ∃ r, l.drop m1 = 5 :: r
      · obtain ⟨r, hr⟩ := h5
        rw [la_5 hle hr] at h
        injection h with h
        injection h with e1 e2
        subst e1; subst e2
        have h5' : l[m1]? = some 5 := by
          have := List.getElem?_drop (xs := l) (i := m1) (j := 0)
          rw [hr] at this
          simpa using this.symm
        obtain ⟨X, hX, hEX⟩ := hE l hl m1 d1 hle t (a + 1) (by omega)
        refine ⟨X, fun n f s hs => ?_, hEX, h5'⟩
        rw [show m1 + 1 + n = m1 + (n + 1) by omega, hX (n + 1) (f :: s) (by simp [hs]), hr, sc_5, hs]
        have : l.drop (m1 + 1) = r := by rw [← List.drop_drop, hr]; rfl
        rw [this]
        rfl
      · by_cases h6 : ∃ r, l.drop m1 = 6 :: r
        · obtain ⟨r, hr⟩ := h6
          rw [la_6 hle hr] at h
          cases hla : la_ false r with
          | none => rw [hla] at h; cases h
          | some q =>
            obtain ⟨m2, d2⟩ := q
            rw [hla] at h
            cases h
            dsimp only at ha ⊢
            have hrl : (l.drop m1).length = r.length + 1 := by rw [hr]; rfl
            rw [List.length_drop] at hrl
            have hrr : l.drop (m1 + 1) = r := by rw [← List.drop_drop, hr]; rfl
            obtain ⟨X, hX, hEX⟩ := hE l hl m1 d1 hle t (a + 1) (by omega)
            obtain ⟨Y, hY, hEY, hY5⟩ := ih.2 r (by omega) m2 d2 hla (t + (m1 + 1)) a (by omega)
            refine ⟨X ++ Y, fun n f s hs => ?_, ?_, ?_⟩
            · rw [show m1 + 1 + m2 + n = m1 + (m2 + n + 1) by omega, hX _ (f :: s) (by simp [hs]), hr, sc_sk _ 6 _ _ _ (by decide) (by decide) (by decide)]
              rw [show t + m1 + 1 = t + (m1 + 1) by omega, hY n f s hs]
              have : l.drop (m1 + 1 + m2) = r.drop m2 := by rw [← List.drop_drop, hrr]
              rw [this, show t + (m1 + 1) + m2 - 1 = t + (m1 + 1 + m2) - 1 by omega, show t + (m1 + 1) + m2 = t + (m1 + 1 + m2) by omega]
              simp
            · have h0 : EX l t (t + m1) (t + (m1 + 1)) (a + 1) (a + 1 + d2) [] := EX.nil (fun i g1 g2 g3 => by
                have hi : i = t + m1 := by omega
                rw [hi, show t + m1 - t = m1 by omega] at g3
                have : l[m1]? = some 6 := by
                  have := List.getElem?_drop (xs := l) (i := m1) (j := 0)
                  rw [hr] at this
                  simpa using this.symm
                rw [this] at g3
                rcases g3 with g3 | g3 <;> cases g3)
              rw [← hrr] at hEY
              have h2 : EX l t (t + (m1 + 1)) (t + (m1 + 1) + m2 - 1) (a + 1) (a + 1 + d2) Y := EX.shift (c := m1 + 1) hEY (Nat.le_refl _)
              have hbm2 := la_b hla
              have h3 := EX.cat (EX.cat hEX h0 (by omega) (by omega)) h2 (by omega) (by omega)
              rw [List.append_nil] at h3
              rw [show t + (m1 + 1 + m2) - 1 = t + (m1 + 1) + m2 - 1 by omega]
              exact h3.mono (by omega) (by omega)
            · have hbm := la_b hla
              rw [← hrr, List.getElem?_drop] at hY5
              rw [show m1 + 1 + m2 - 1 = m1 + 1 + (m2 - 1) by omega]
              exact hY5
        · rw [la_o hle (fun r e => h5 ⟨r, e⟩) (fun r e => h6 ⟨r, e⟩)] at h
          cases h
end
section
/-! The outline against statements and ends of expressions. -/
def kd1 (ks : List Nat) (q : Nat × Nat × Bool) : Nat := if q.2.2 = true then (if icn ks q.1 = true then 3 else if ks[q.1]? = some 1 then 1 else 2) else 0
theorem rst_kd (ks : List Nat) (f e : Nat) : rst ks f e = kd1 ks (f, e, gdr ks f e) := by
  unfold rst kd1
  rw [gds_gdr]
theorem rsx_ex {ks : List Nat} {f e : Nat} (h : gdr ks f e = true) : f < e ∧ (∃ dp, dp ≤ 12 ∧ le_ false (ks.drop f) = some (e - f, dp)) ∧ EX ks 0 f e 0 12 (rsx ks f e) := by
  unfold rsx
  rw [gds_gdr, if_pos h]
  unfold gdr at h
  cases hle : le_ false (ks.drop f) with
  | none => rw [hle] at h; cases h
  | some q =>
    obtain ⟨m, dp⟩ := q
    rw [hle] at h
    have h := of_decide_eq_true h
    have hb := le_b hle
    obtain ⟨X, hX, hE⟩ := (sc_all (ks.drop f).length).1 (ks.drop f) (Nat.le_refl _) m dp hle f 0 (by omega)
    have hm : e - f = m := by omega
    have h0 := hX 0 [] rfl
    rw [Nat.add_zero] at h0
    rw [hm, h0]
    refine ⟨by omega, ⟨dp, h.1, rfl⟩, ?_⟩
    have h1 : (scn 0 ((ks.drop f).drop m) (f + m) []).1 = [] := rfl
    rw [h1, List.append_nil]
    have h2 : EX (ks.drop f) (0 + f) f (f + m) 0 (0 + dp) X := by rw [Nat.zero_add f]; exact hE
    have h3 := EX.shift (c := f) h2 (by omega)
    rw [h.2] at h3
    exact h3.mono (Nat.le_refl _) (by omega)
theorem rsx_no {ks : List Nat} {f e : Nat} (h : gdr ks f e = false) : rsx ks f e = [] := by
  unfold rsx
  rw [gds_gdr, if_neg (by rw [h]; decide)]
theorem out_all (ks : List Nat) : ∀ (n f t : Nat), t + n = ks.length → f ≤ t →
    (oln ks n f t).1 = (spn ks n f t).map (kd1 ks) ∧
    (∀ (i l b : Nat), (i, l, b) ∈ (oln ks n f t).2 → ∃ f' e', (f', e', true) ∈ spn ks n f t ∧ f ≤ f' ∧ f' ≤ i ∧ i ≤ l ∧ l < e' ∧ e' < ks.length ∧ n12 ks[i]? ∧ ∃ dp, le_ false (ks.drop i) = some (l - i + 1, dp) ∧ b + dp ≤ 12) ∧
    (∀ (f' e' : Nat), (f', e', true) ∈ spn ks n f t → ∀ i, f' ≤ i → i < e' → n12 ks[i]? → ∃ l b, (i, l, b) ∈ (oln ks n f t).2) ∧
    (oln ks n f t).2.Pairwise (fun x y => x.2.1 < y.2.1) ∧
    (∀ (f' e' : Nat) (g : Bool), (f', e', g) ∈ spn ks n f t → f ≤ f' ∧ f' ≤ e' ∧ e' < ks.length ∧ (g = true → f' < e' ∧ ks[e']? = some 7 ∧ ∃ dp, dp ≤ 12 ∧ le_ false (ks.drop f') = some (e' - f', dp))) ∧
    (spn ks n f t).Pairwise (fun x y => x.2.1 < y.1) := by
  intro n
  induction n with
  | zero =>
    intro f t hn hf
    unfold oln spn
    by_cases h : f < t
    · rw [if_pos h, if_pos h]
      refine ⟨by simp [kd1], fun i l b hx => by simp at hx, fun f' e' hx => by simp at hx, List.Pairwise.nil, fun f' e' g hx => ?_, List.pairwise_singleton _ _⟩
      have hx := List.mem_singleton.mp hx
      injection hx with h1 hx
      injection hx with h2 h3
      subst h1; subst h2; subst h3
      exact ⟨Nat.le_refl _, by omega, by omega, fun q => by cases q⟩
    · rw [if_neg h, if_neg h]
      exact ⟨rfl, fun i l b hx => by simp at hx, fun f' e' hx => by simp at hx, List.Pairwise.nil, fun f' e' g hx => by simp at hx, List.Pairwise.nil⟩
  | succ n ih =>
    intro f t hn hf
    rw [oln_s, spn_s]
    by_cases h7 : ks[t]? = some 7
    · rw [if_pos h7, if_pos h7]
      obtain ⟨g1, g2, g3, g4, g5, g6⟩ := ih (t + 1) (t + 1) (by omega) (Nat.le_refl _)
      refine ⟨?_, fun i l b hx => ?_, fun f' e' hx i h1 h2 h3 => ?_, ?_, fun f' e' g hx => ?_, ?_⟩
      · rw [g1, List.map_cons, rst_kd]
      · dsimp only at hx
        rcases List.mem_append.mp hx with hx | hx
        · cases hg : gdr ks f t with
          | false => rw [rsx_no hg] at hx; simp at hx
          | true =>
            obtain ⟨r1, r2, r3⟩ := rsx_ex hg
            obtain ⟨q1, q2, q3, q4, q5, dp, q6, q7⟩ := r3.1 i l b hx
            rw [Nat.sub_zero] at q5 q6
            exact ⟨f, t, List.mem_cons_self, Nat.le_refl _, q1, q2, q3, by omega, q5, dp, q6, q7⟩
        · obtain ⟨f', e', q1, q2, q3, q4, q5, q6⟩ := g2 i l b hx
          exact ⟨f', e', List.mem_cons_of_mem _ q1, by omega, q3, q4, q5, q6⟩
      · dsimp only
        rcases List.mem_cons.mp hx with hx | hx
        · injection hx with e1 hx
          injection hx with e2 e3
          subst e1; subst e2
          obtain ⟨r1, r2, r3⟩ := rsx_ex e3.symm
          obtain ⟨l, b, hl⟩ := r3.2.1 i h1 h2 (by rw [Nat.sub_zero]; exact h3)
          exact ⟨l, b, List.mem_append_left _ hl⟩
        · obtain ⟨l, b, hl⟩ := g3 f' e' hx i h1 h2 h3
          exact ⟨l, b, List.mem_append_right _ hl⟩
      · dsimp only
        rw [List.pairwise_append]
        have hp : (rsx ks f t).Pairwise (fun x y => x.2.1 < y.2.1) ∧ ∀ x ∈ rsx ks f t, x.2.1 < t := by
          cases hg : gdr ks f t with
          | false => rw [rsx_no hg]; exact ⟨List.Pairwise.nil, fun x hx => by simp at hx⟩
          | true =>
            obtain ⟨r1, r2, r3⟩ := rsx_ex hg
            refine ⟨r3.2.2, fun x hx => ?_⟩
            obtain ⟨i, l, b⟩ := x
            exact (r3.1 i l b hx).2.2.1
        refine ⟨hp.1, g4, fun x hx y hy => ?_⟩
        obtain ⟨i, l, b⟩ := y
        obtain ⟨f', e', q1, q2, q3, q4, q5, q6⟩ := g2 i l b hy
        have := hp.2 x hx
        show x.2.1 < l
        omega
      · rcases List.mem_cons.mp hx with hx | hx
        · injection hx with e1 hx
          injection hx with e2 e3
          subst e1; subst e2
          refine ⟨Nat.le_refl _, hf, by omega, fun q => ?_⟩
          obtain ⟨r1, r2, r3⟩ := rsx_ex (by rw [← e3]; exact q : gdr ks f' e' = true)
          exact ⟨r1, h7, r2⟩
        · obtain ⟨q1, q2⟩ := g5 f' e' g hx
          exact ⟨by omega, q2⟩
      · rw [List.pairwise_cons]
        refine ⟨fun x hx => ?_, g6⟩
        obtain ⟨f', e', g⟩ := x
        have := g5 f' e' g hx
        show t < f'
        omega
    · rw [if_neg h7, if_neg h7]
      exact ih f (t + 1) (by omega) (by omega)
end
section
/-! Texts become. -/
def mkf (f : Nat → Int32) (a b : Nat) (v : Int32) : Nat → Int32 := fun p => if a ≤ p ∧ p < b then v else f p
def TXT (I : mI) (o : Nat) (s mk : List Int32) (A : List (Nat × Nat × Nat)) : Prop := I o 5 = nI s.length ∧ Rc (I (o + 1)) 0 s ∧ mk.length = s.length ∧ Rc (I (o + 2)) 0 mk ∧ TR I o A
def FrK (o : Nat) (I I' : mI) : Prop := ∀ m, m < o ∨ o + 5 < m → I' m = I m
theorem TR.kr {I : mI} {o : Nat} {A : List (Nat × Nat × Nat)} (h : TR I o A) : KR I o (A.map Prod.fst) := by
  refine ⟨by rw [List.length_map]; exact h.1, fun t k hk => ?_⟩
  rw [List.getElem?_map] at hk
  cases hq : A[t]? with
  | none => rw [hq] at hk; cases hk
  | some q =>
    obtain ⟨k', a, b⟩ := q
    rw [hq] at hk
    cases hk
    exact (h.2 t k' a b hq).1
theorem sI_id {I : mI} {a : Nat} : sI I a (I a) = I := by
  funext m
  by_cases h : m = a
  · rw [h, sI_s]
  · rw [sI_n h]
theorem mkf_id {f : Nat → Int32} {a b : Nat} {v : Int32} (h : b ≤ a) : mkf f a b v = f := by
  funext p
  unfold mkf
  rw [if_neg (by omega)]
theorem mkf_step {I : mI} {o p b : Nat} {v : Int32} (h : p < b) : sI (uI I o p v) o (mkf (uI I o p v o) (p + 1) b v) = sI I o (mkf (I o) p b v) := by
  funext m
  by_cases hm : m = o
  · subst hm
    rw [sI_s, sI_s]
    funext j
    unfold mkf
    by_cases hj : j = p
    · subst hj
      rw [if_neg (by omega), if_pos (by omega), uI_s]
    · by_cases h2 : p + 1 ≤ j ∧ j < b
      · rw [if_pos h2, if_pos (by omega)]
      · rw [if_neg h2, if_neg (by omega), uI_o hj]
  · rw [sI_n hm, sI_n hm, uI_n hm]
section TB
variable {E : XE} {d : Nat} {Q : Int32 → mI → mP → Prop} {P : mP} {o N : Nat}
theorem l_markSpan (hT : TO P o N) (hN : N < 2 ^ 20) {n e : Nat} {v : Int32} (hn : n ≤ N) (he : e < 2 ^ 31) : ∀ (m p : Nat) (I : mI), n - p ≤ m → p < 2 ^ 31 → I o 5 = nI n → Q (nI 0) (sI I (o + 2) (mkf (I (o + 2)) p (min e n) v)) P → V E (d + 1) m_Text_markSpan 112 Q 7 [some (.inr o), none, some (.inl (nI e)), some (.inl v), some (.inl (nI p))] [] 112 I P := by
  obtain ⟨t0, -, ⟨p1, k1⟩, -⟩ := hT
  intro m
  induction m with
  | zero =>
    intro p I hm hp h5 h
    rw [mkf_id (by omega), sI_id] at h
    refine x_Text_markSpan_7 _ _ _ _ (pk_le e p (fun _ => h) (fun g => ⟨t0, ?_⟩))
    rw [h5]
    exact pk_le n p (fun _ => h) (fun g2 => by omega)
  | succ m ih =>
    intro p I hm hp h5 h
    refine x_Text_markSpan_7 _ _ _ _ (pk_le e p (fun g => ?_) (fun g => ⟨t0, ?_⟩))
    · rw [mkf_id (by omega), sI_id] at h
      exact h
    · rw [h5]
      refine pk_le n p (fun g2 => ?_) (fun g2 => ?_)
      · rw [mkf_id (by omega), sI_id] at h
        exact h
      · simp only [t0, p1, k1, nzz 2 (by decide), true_and]
        refine ⟨vp_in_nI (by omega) (by omega), ?_⟩
        rw [clp (by omega), n1]
        refine ih (p + 1) _ (by omega) (by omega) (by rw [uI_n (by omega)]; exact h5) ?_
        rw [mkf_step (by omega)]
        exact h
theorem s_markSpan (hT : TO P o N) (hN : N < 2 ^ 20) {n a e : Nat} {v : Int32} {I : mI} (hn : n ≤ N) (ha : a < 2 ^ 31) (he : e < 2 ^ 31) (h5 : I o 5 = nI n) (h : Q (nI 0) (sI I (o + 2) (mkf (I (o + 2)) a (min e n) v)) P) : V E (d + 1) m_Text_markSpan 112 Q 0 [some (.inr o), some (.inl (nI a)), some (.inl (nI e)), some (.inl v), none] [] 112 I P := by
  refine x_Text_markSpan_0 _ _ _ _ ?_
  rw [mxx (by omega) ha, Nat.max_eq_right (Nat.zero_le _)]
  exact l_markSpan hT hN hn he n a I (by omega) ha h5 h
theorem s_empty (hT : TO P o N) {I : mI} (h : Q (nI 0) (uI (uI I o 5 (nI 0)) o 6 (nI 0)) P) : V E d m_Text_empty 112 Q 0 [some (.inr o)] [] 112 I P := x_Text_empty_0 _ ⟨hT.1, hT.1, h⟩
theorem mnn {a b : Nat} (ha : a < 2 ^ 31) (hb : b < 2 ^ 31) : (if nI b < nI a then nI b else nI a) = nI (min a b) := by
  by_cases h : nI b < nI a
  · rw [if_pos h]
    rw [nI_ltI hb ha] at h
    rw [Nat.min_eq_right (by omega)]
  · rw [if_neg h]
    rw [nI_ltI hb ha] at h
    rw [Nat.min_eq_left (by omega)]
theorem s_become_T (hT : TO P o N) (hN : N < 2 ^ 20) {I : mI} {fr M : Nat} (hM : kk 112 fr = (1, M)) (hM2 : M < 2 ^ 20) (hfo : fr < o ∨ o + 5 < fr) {s : List Int32} (hs : s.length ≤ N) (hs2 : s.length ≤ M) (hc : Rc (I fr) 0 s) (h : ∀ I', FrK o I I' → TXT I' o s (List.replicate s.length (-(nI 1))) (tks s) → Q (nI 0) I' P) : V E (d + 4) m_Text_become 112 Q 0 [some (.inr o), some (.inr fr), some (.inl (nI s.length))] [] 112 I P := by
  have hT' := hT
  obtain ⟨t0, ⟨p0, k0⟩, ⟨p1, k1⟩, -⟩ := hT'
  refine x_Text_become_0 _ _ _ ⟨t0, s_empty hT ?_⟩
  simp only [t0, p0, k0, hM, nzz 1 (by decide), true_and]
  refine ⟨by decide, by decide, by decide, by decide, ?_⟩
  rw [mnn (by omega) (by omega), mnn (by omega) (by omega), mxx (by omega) (by omega)]
  have e1 : max 0 (min s.length (min M N)) = s.length := by omega
  rw [e1]
  generalize hI1 : uI (uI (uI I o 5 (nI 0)) o 6 (nI 0)) o 5 (nI s.length) = I1
  have f1 : ∀ m, m ≠ o → I1 m = I m := fun m hm => by rw [← hI1, uI_n hm, uI_n hm, uI_n hm]
  have h5 : I1 o 5 = nI s.length := by rw [← hI1, uI_s]
  have h6 : I1 o 6 = nI 0 := by rw [← hI1, uI_o (by decide), uI_s]
  refine x_Text_become_26 _ _ ?_
  simp only [t0, p0, k0, hM, nzz 1 (by decide), true_and, h5]
  rw [clp (show 0 < 2 ^ 31 by decide), clp (by omega)]
  refine ⟨by decide, by decide, nI_pos (by omega), by omega, by omega, ?_⟩
  generalize hI2 : sI I1 (o + 1) (va_cpy (I1 fr) (I1 (o + 1)) 0 0 s.length) = I2
  have f2 : ∀ m, m ≠ o + 1 → I2 m = I1 m := fun m hm => by rw [← hI2, sI_n hm]
  have c2 : Rc (I2 (o + 1)) 0 s := by
    intro j x hx
    have hj : j < s.length := (List.getElem?_eq_some_iff.mp hx).1
    rw [← hI2, sI_s, pk_cpy_in (by omega) (by omega), f1 fr (by omega)]
    rw [show 0 + (0 + j - 0) = 0 + j by omega]
    exact hc j x hx
  refine x_Text_become_40 _ ⟨t0, t0, ?_⟩
  rw [f2 o (by omega), h5]
  refine s_markSpan (n := s.length) hT hN hs (by omega) (by omega) (by rw [f2 o (by omega), h5]) ⟨t0, ?_⟩
  rw [Nat.min_self]
  generalize hI3 : sI I2 (o + 2) (mkf (I2 (o + 2)) 0 s.length (-(nI 1))) = I3
  have f3 : ∀ m, m ≠ o + 2 → I3 m = I2 m := fun m hm => by rw [← hI3, sI_n hm]
  refine s_findTokens (d := d) hT (by omega) hs (by rw [f3 o (by omega), f2 o (by omega), h5]) (by rw [f3 (o + 1) (by omega)]; exact c2) (by rw [f3 o (by omega), f2 o (by omega), h6]) (fun I4 hf4 hr4 => h I4 (fun m hm => ?_) ⟨?_, ?_, by simp, ?_, hr4⟩)
  · rw [hf4.1 m (by omega) (by omega) (by omega) (by omega), f3 m (by omega), f2 m (by omega), f1 m (by omega)]
  · rw [hf4.2 5 (by decide), f3 o (by omega), f2 o (by omega), h5]
  · rw [hf4.1 (o + 1) (by omega) (by omega) (by omega) (by omega), f3 (o + 1) (by omega)]
    exact c2
  · intro j x hx
    rw [hf4.1 (o + 2) (by omega) (by omega) (by omega) (by omega), ← hI3, sI_s]
    have hj : j < s.length := by
      have := (List.getElem?_eq_some_iff.mp hx).1
      simpa using this
    unfold mkf
    rw [if_pos (by omega)]
    rw [List.getElem?_replicate, if_pos hj] at hx
    injection hx
end TB
end
section
/-! The shape of the references; Program.become and load. -/
def TRW (P : mP) (o : Nat) : Prop := P o 0 = o + 1 ∧ P o 1 = o + 2 ∧ P o 2 = o + 3 ∧ P o 3 = o + 4 ∧ P o 4 = o + 5
def Sh (P : mP) : Prop := (P 2 0 = 3 ∧ P 2 2 = 4 ∧ P 2 4 = 5 ∧ P 2 6 = 60 ∧ P 2 8 = 92) ∧
  (∀ r, r < 6 → P 5 r = 6 + 9 * r ∧ P (6 + 9 * r) 0 = 7 + 9 * r ∧ P (6 + 9 * r) 2 = 13 + 9 * r ∧ P (6 + 9 * r) 3 = 14 + 9 * r ∧ TRW P (7 + 9 * r)) ∧
  (TRW P 61 ∧ TRW P 67 ∧ TRW P 73 ∧ TRW P 79) ∧ ((P 60 0 = 61 ∧ P 60 1 = 67) ∨ (P 60 0 = 67 ∧ P 60 1 = 61)) ∧ (P 60 2 = 73 ∧ P 60 3 = 79 ∧ P 60 4 = 85 ∧ P 60 5 = 91) ∧ OO P ∧ (P 92 0 = 93 ∧ P 92 1 = 94) ∧ MO P
theorem Sh.now {P : mP} (h : Sh P) : (P 60 0 = 61 ∨ P 60 0 = 67) ∧ TO P (P 60 0) 120 := by
  obtain ⟨-, -, ⟨h1, h2, -⟩, h3, -⟩ := h
  rcases h3 with ⟨h3, -⟩ | ⟨h3, -⟩
  · rw [h3]
    exact ⟨Or.inl rfl, rfl, ⟨h1.1, rfl⟩, ⟨h1.2.1, rfl⟩, ⟨h1.2.2.1, rfl⟩, ⟨h1.2.2.2.1, rfl⟩, ⟨h1.2.2.2.2, rfl⟩⟩
  · rw [h3]
    exact ⟨Or.inr rfl, rfl, ⟨h2.1, rfl⟩, ⟨h2.2.1, rfl⟩, ⟨h2.2.2.1, rfl⟩, ⟨h2.2.2.2.1, rfl⟩, ⟨h2.2.2.2.2, rfl⟩⟩
theorem k60 : kk 112 60 = (0, 2) := rfl
theorem k2_ : kk 112 2 = (0, 0) := rfl
theorem k3_ : kk 112 3 = (1, 60) := rfl
theorem k4_ : kk 112 4 = (1, 60) := rfl
theorem k5_ : kk 112 5 = (3, 6) := rfl
theorem k92 : kk 112 92 = (0, 5) := rfl
def tst (A : List (Nat × Nat × Nat)) (i : Nat) : Nat := match A[i]? with
  | some q => q.2.1
  | none => 0
def ten (A : List (Nat × Nat × Nat)) (i : Nat) : Nat := match A[i]? with
  | some q => q.2.2
  | none => 0
theorem TR.st {I : mI} {o i : Nat} {A : List (Nat × Nat × Nat)} (h : TR I o A) (hi : i < A.length) : I (o + 4) i = nI (tst A i) ∧ I (o + 5) i = nI (ten A i) := by
  have e := List.getElem?_eq_getElem hi
  unfold tst ten
  rw [e]
  obtain ⟨-, g2, g3⟩ := h.2 i _ _ _ e
  exact ⟨g2, g3⟩
/-- marks written over the spans of expressions -/
def mkx (A : List (Nat × Nat × Nat)) (n : Nat) (v : Int32) (ex : List (Nat × Nat × Nat)) (f : Nat → Int32) : Nat → Int32 := ex.foldl (fun f q => mkf f (tst A q.1) (min (ten A q.2.1) n) v) f
theorem mkx_c (A : List (Nat × Nat × Nat)) (n : Nat) (v : Int32) (q : Nat × Nat × Nat) (ex : List (Nat × Nat × Nat)) (f : Nat → Int32) : mkx A n v (q :: ex) f = mkx A n v ex (mkf f (tst A q.1) (min (ten A q.2.1) n) v) := rfl
section PB
variable {E : XE} {d : Nat} {Q : Int32 → mI → mP → Prop} {P : mP} {o : Nat}
theorem l_become_P (hP : P 60 0 = o ∧ P 60 4 = 85) (hO : OO P) (hT : TO P o 120) (ho : o + 5 < 85) (ho2 : 60 < o) {n : Nat} (hn : n ≤ 120) {A ex : List (Nat × Nat × Nat)} (hA : A.length ≤ 120) (hA2 : ∀ q ∈ A, q.2.1 < 2 ^ 31 ∧ q.2.2 < 2 ^ 31) (hex : ex.length ≤ 120) (hex2 : ∀ q ∈ ex, q.1 < A.length ∧ q.2.1 < A.length) : ∀ (m k : Nat) (I : mI), ex.length - k ≤ m → k ≤ ex.length → I o 5 = nI n → TR I o A → OE I ex →
    Q (nI 0) (uI (sI I (o + 2) (mkx A n (nI 0) (ex.drop k) (I (o + 2)))) 60 6 (nI 0)) P → V E (d + 2) m_Program_become 112 Q 22 [some (.inr 60), none, none, some (.inl (nI k))] [] 112 I P := by
  have hT' := hT
  obtain ⟨t0, -, -, -, ⟨q3, c3⟩, ⟨q4, c4⟩⟩ := hT'
  obtain ⟨p0, p4⟩ := hP
  obtain ⟨-, u2, u3, -, -⟩ := hO
  have fin : ∀ (k : Nat) (I : mI), k = ex.length → OE I ex → Q (nI 0) (uI (sI I (o + 2) (mkx A n (nI 0) (ex.drop k) (I (o + 2)))) 60 6 (nI 0)) P → V E (d + 2) m_Program_become 112 Q 22 [some (.inr 60), none, none, some (.inl (nI k))] [] 112 I P := by
    intro k I hk hE h
    subst hk
    rw [List.drop_length, show mkx A n (nI 0) [] (I (o + 2)) = I (o + 2) from rfl, sI_id] at h
    refine x_Program_become_22 _ _ ?_
    simp only [k60, p4, k85, nzl 85 (by decide), true_and, hE.1]
    exact pk_le ex.length ex.length (fun _ => h) (fun g => absurd g (Nat.lt_irrefl _))
  intro m
  induction m with
  | zero =>
    intro k I hm hk h5 hR hE h
    exact fin k I (by omega) hE h
  | succ m ih =>
    intro k I hm hk h5 hR hE h
    by_cases hkl : k < ex.length
    · have hg := List.getElem?_eq_getElem hkl
      have hmem := List.mem_of_getElem? hg
      generalize ex[k] = q at hg hmem
      obtain ⟨i, l, b⟩ := q
      have hd : ex.drop k = (i, l, b) :: ex.drop (k + 1) := by
        obtain ⟨h1, h2⟩ := List.getElem?_eq_some_iff.mp hg
        rw [List.drop_eq_getElem_cons h1, h2]
      obtain ⟨b1, b2⟩ := hex2 _ hmem
      dsimp only at b1 b2
      obtain ⟨e1, e2, e3⟩ := hE.2 k i l b hg
      have hst := (hR.st b1).1
      have hen := (hR.st b2).2
      have hs31 : tst A i < 2 ^ 31 := by
        unfold tst
        rw [List.getElem?_eq_getElem b1]
        exact (hA2 _ (List.getElem_mem b1)).1
      have he31 : ten A l < 2 ^ 31 := by
        unfold ten
        rw [List.getElem?_eq_getElem b2]
        exact (hA2 _ (List.getElem_mem b2)).2
      refine x_Program_become_22 _ _ ?_
      simp only [k60, p0, p4, k85, t0, q3, c3, q4, c4, u2, k87, u3, k88, nzl 85 (by decide), nzl 87 (by decide), nzl 88 (by decide), nzz 4 (by decide), nzz 5 (by decide), true_and, hE.1]
      refine pk_le ex.length k (fun g => by omega) (fun g => ?_)
      rw [clp (by omega), e1, e2, clp (by omega), clp (by omega), hst, hen]
      have hne : (o ≠ 0) = True := by simp; omega
      simp only [hne, true_and]
      refine ⟨vp_in_nI (by omega) (by decide), vp_in_nI (by omega) (by decide), vp_in_nI (by omega) (by decide), vp_in_nI (by omega) (by decide), ?_⟩
      refine s_markSpan (n := n) hT (by decide) hn hs31 he31 h5 ?_
      rw [n1]
      refine ih (k + 1) _ (by omega) (by omega) (by rw [sI_n (by omega)]; exact h5) ?_ ?_ ?_
      · refine ⟨by rw [sI_n (by omega)]; exact hR.1, fun t k' a' b' ht => ?_⟩
        rw [sI_n (by omega), sI_n (by omega), sI_n (by omega)]
        exact hR.2 t k' a' b' ht
      · refine ⟨by rw [sI_n (by omega)]; exact hE.1, fun t k' a' b' ht => ?_⟩
        rw [sI_n (by omega), sI_n (by omega), sI_n (by omega)]
        exact hE.2 t k' a' b' ht
      · rw [hd, mkx_c] at h
        have e5 : ∀ f g : Nat → Int32, sI (sI I (o + 2) f) (o + 2) g = sI I (o + 2) g := fun f g => by
          funext m'
          by_cases hm' : m' = o + 2
          · rw [hm', sI_s, sI_s]
          · rw [sI_n hm', sI_n hm', sI_n hm']
        rw [e5, sI_s]
        exact h
    · exact fin k I (by omega) hE h
end PB
end
section
theorem psn_bd : ∀ (Z : List ItC) (p : Nat), (∀ z ∈ Z, z.2.2 ≠ []) → ∀ q ∈ psn p Z, p ≤ q.2.1 ∧ q.2.1 < q.2.2 ∧ q.2.2 ≤ p + ftl Z
  | [], p, _, q, hq => by simp [psn] at hq
  | (sp, k, w) :: Z, p, hw, q, hq => by
    have hf : ftl ((sp, k, w) :: Z) = sp.length + w.length + ftl Z := by
      unfold ftl
      show (sp ++ (w ++ fl Z [])).length = _
      rw [List.length_append, List.length_append]
      omega
    have hw0 : 0 < w.length := List.length_pos_iff.mpr (hw (sp, k, w) List.mem_cons_self)
    rw [psn_c] at hq
    rcases List.mem_cons.mp hq with rfl | hq
    · dsimp only
      omega
    · have := psn_bd Z (p + sp.length + w.length) (fun z hz => hw z (List.mem_cons_of_mem _ hz)) q hq
      omega
theorem LX_w : ∀ (Z : List ItC) (t : List Int32), LX Z t → ∀ z ∈ Z, z.2.2 ≠ []
  | [], _, _, z, hz => by simp at hz
  | (sp, k, w) :: Z, t, h, z, hz => by
    obtain ⟨-, ⟨c, cs, hw, -⟩, h3⟩ := h
    rcases List.mem_cons.mp hz with rfl | hz
    · rw [hw]
      simp
    · exact LX_w Z t h3 z hz
theorem fl_len (Z : List ItC) (t : List Int32) : (fl Z t).length = ftl Z + t.length := by
  unfold ftl
  induction Z with
  | nil => simp [fl]
  | cons z Z ih =>
    obtain ⟨sp, k, w⟩ := z
    show (sp ++ (w ++ fl Z t)).length = (sp ++ (w ++ fl Z [])).length + t.length
    rw [List.length_append, List.length_append, List.length_append, List.length_append, ih]
    omega
theorem tks_bd (s : List Int32) : ∀ q ∈ tks s, q.2.1 < q.2.2 ∧ q.2.2 ≤ s.length := by
  intro q hq
  obtain ⟨h1, h2⟩ := lxT_ok s
  have := psn_bd (lxT s).1 0 (LX_w _ _ h1) q hq
  have hl := fl_len (lxT s).1 (lxT s).2
  rw [h2] at hl
  omega
theorem oln_len (ks : List Nat) : ∀ (n f t : Nat), f ≤ t → (oln ks n f t).2.length + f ≤ t + n
  | 0, f, t, h => by
    unfold oln
    split <;> simp <;> omega
  | n + 1, f, t, h => by
    rw [oln_s]
    split
    · have := oln_len ks n (t + 1) (t + 1) (Nat.le_refl _)
      have hr : (rsx ks f t).length ≤ t - f := by
        unfold rsx
        split
        · exact scn_len _ _ _ _
        · simp
      simp only [List.length_append]
      omega
    · have := oln_len ks n f (t + 1) (by omega)
      omega
theorem outl_len (ks : List Nat) : (outl ks).2.length ≤ ks.length := by
  have := oln_len ks ks.length 0 0 (Nat.le_refl _)
  unfold outl
  omega
theorem outl_lt (ks : List Nat) : ∀ q ∈ (outl ks).2, q.1 < ks.length ∧ q.2.1 < ks.length := by
  intro q hq
  obtain ⟨i, l, b⟩ := q
  obtain ⟨f', e', -, -, h1, h2, h3, h4, -⟩ := (out_all ks ks.length 0 0 (by omega) (Nat.le_refl _)).2.1 i l b hq
  exact ⟨by show i < _; omega, by show l < _; omega⟩
def cov (A : List (Nat × Nat × Nat)) (n : Nat) (ex : List (Nat × Nat × Nat)) (p : Nat) : Bool := ex.any (fun q => decide (tst A q.1 ≤ p ∧ p < min (ten A q.2.1) n))
theorem mkx_p (A : List (Nat × Nat × Nat)) (n : Nat) (v : Int32) : ∀ (ex : List (Nat × Nat × Nat)) (f : Nat → Int32) (p : Nat), mkx A n v ex f p = if cov A n ex p = true then v else f p
  | [], f, p => rfl
  | q :: ex, f, p => by
    rw [mkx_c, mkx_p A n v ex]
    have hc : cov A n (q :: ex) p = (decide (tst A q.1 ≤ p ∧ p < min (ten A q.2.1) n) || cov A n ex p) := rfl
    rw [hc]
    cases h1 : cov A n ex p with
    | true => simp
    | false =>
      unfold mkf
      by_cases h2 : tst A q.1 ≤ p ∧ p < min (ten A q.2.1) n
      · rw [if_pos h2, decide_eq_true h2]
        simp
      · rw [if_neg h2, decide_eq_false h2]
        simp
/-- the marks of a text that was just loaded -/
def mk0 (s : List Int32) : List Int32 := (List.range s.length).map (fun p => if cov (tks s) s.length (outl (kds s)).2 p = true then nI 0 else -(nI 1))
section LO
variable {E : XE} {d : Nat} {Q : Int32 → mI → mP → Prop} {P : mP}
/-- what changes in the class's memory when the program changes -/
def FrP (o : Nat) (I I' : mI) : Prop := (∀ m, m ≠ 60 → (m < o ∨ o + 5 < m) → (m < 85 ∨ 90 < m) → I' m = I m) ∧ ∀ j, j ≠ 6 → I' 60 j = I 60 j
theorem s_become_P (hS : Sh P) {I : mI} {fr M : Nat} (hM : kk 112 fr = (1, M)) (hM2 : M < 2 ^ 20) (hfr : fr < 60) {s : List Int32} (hs : s.length ≤ 60) (hs2 : s.length ≤ M) (hc : Rc (I fr) 0 s)
    (h : ∀ I', FrP (P 60 0) I I' → TXT I' (P 60 0) s (mk0 s) (tks s) → OS I' (outl (kds s)).1 → OE I' (outl (kds s)).2 → I' 60 6 = nI 0 → Q (nI 0) I' P) : V E (d + 28) m_Program_become 112 Q 0 [some (.inr 60), some (.inr fr), some (.inl (nI s.length)), none] [] 112 I P := by
  obtain ⟨ho, hT⟩ := hS.now
  obtain ⟨-, -, -, -, ⟨-, -, p4, -⟩, hO, -⟩ := hS
  generalize ho0 : P 60 0 = o at ho hT h
  have ho1 : o + 5 < 85 := by omega
  have ho2 : 60 < o := by omega
  have hne : (o ≠ 0) = True := by simp; omega
  have htl := tks_len s
  have hkl : (kds s).length = (tks s).length := by unfold kds; rw [List.length_map]
  refine x_Program_become_0 _ _ _ ?_
  simp only [k60, ho0, hne, true_and, hT.1]
  refine s_become_T (d := d + 23) hT (by decide) hM hM2 (by omega) (by omega) hs2 hc (fun I1 hf1 ht1 => ?_)
  simp only [ho0, p4, k85, hne, nzl 85 (by decide), true_and]
  obtain ⟨a1, a2, a3, a4, a5⟩ := ht1
  refine s_become_O (d := d) (ks := kds s) hO hT ho1 (by decide) (by omega) (by omega) (kds_k10 s) a5.kr (fun I2 hf2 hs2 he2 => ?_)
  have g2 : ∀ m, o ≤ m → m ≤ o + 5 → I2 m = I1 m := fun m h1 h2 => hf2 m (by omega)
  refine l_become_P (d := d + 26) ⟨ho0, p4⟩ hO hT ho1 ho2 (n := s.length) (by omega) (A := tks s) (by omega) (fun q hq => by have := tks_bd s q hq; omega) (by have := outl_len (kds s); omega) (fun q hq => by have := outl_lt (kds s) q hq; omega) (outl (kds s)).2.length 0 I2 (by omega) (by omega) (by rw [g2 o (by omega) (by omega)]; exact a1) ?_ he2 ?_
  · refine ⟨by rw [g2 o (by omega) (by omega)]; exact a5.1, fun t k' a' b' ht => ?_⟩
    rw [g2 (o + 3) (by omega) (by omega), g2 (o + 4) (by omega) (by omega), g2 (o + 5) (by omega) (by omega)]
    exact a5.2 t k' a' b' ht
  · rw [List.drop_zero]
    generalize hI3 : uI (sI I2 (o + 2) (mkx (tks s) s.length (nI 0) (outl (kds s)).2 (I2 (o + 2)))) 60 6 (nI 0) = I3
    have f3 : ∀ m, m ≠ 60 → m ≠ o + 2 → I3 m = I2 m := fun m h1 h2 => by rw [← hI3, uI_n h1, sI_n h2]
    refine h I3 ⟨fun m h1 h2 h3 => ?_, fun j hj => ?_⟩ ⟨?_, ?_, ?_, ?_, ?_⟩ ?_ ?_ ?_
    · rw [f3 m h1 (by omega), hf2 m (by omega), hf1 m (by omega)]
    · rw [← hI3, uI_o hj, sI_n (by omega), hf2 60 (by omega), hf1 60 (by omega)]
    · rw [f3 o (by omega) (by omega), g2 o (by omega) (by omega)]
      exact a1
    · rw [f3 (o + 1) (by omega) (by omega), g2 (o + 1) (by omega) (by omega)]
      exact a2
    · unfold mk0
      simp
    · intro p x hx
      have hp : p < s.length := by
        have := (List.getElem?_eq_some_iff.mp hx).1
        unfold mk0 at this
        simpa using this
      unfold mk0 at hx
      rw [List.getElem?_map, List.getElem?_range hp] at hx
      injection hx with hx
      rw [Nat.zero_add, ← hI3, uI_n (by omega), sI_s, mkx_p, ← hx, g2 (o + 2) (by omega) (by omega)]
      have := a4 p (-(nI 1)) (by rw [List.getElem?_replicate, if_pos hp])
      rw [Nat.zero_add] at this
      rw [this]
    · refine ⟨by rw [f3 o (by omega) (by omega), g2 o (by omega) (by omega)]; exact a5.1, fun t k' a' b' ht => ?_⟩
      rw [f3 (o + 3) (by omega) (by omega), f3 (o + 4) (by omega) (by omega), f3 (o + 5) (by omega) (by omega), g2 (o + 3) (by omega) (by omega), g2 (o + 4) (by omega) (by omega), g2 (o + 5) (by omega) (by omega)]
      exact a5.2 t k' a' b' ht
    · exact ⟨by rw [f3 85 (by decide) (by omega)]; exact hs2.1, fun k x hx => by rw [f3 86 (by decide) (by omega)]; exact hs2.2 k x hx⟩
    · refine ⟨by rw [f3 85 (by decide) (by omega)]; exact he2.1, fun k a b c hx => ?_⟩
      rw [f3 87 (by decide) (by omega), f3 88 (by decide) (by omega), f3 89 (by decide) (by omega)]
      exact he2.2 k a b c hx
    · rw [← hI3, uI_s]
end LO
end
section
/-! How many changes lead from one text to another. -/
def wdf : Nat → List Int32 → List Int32 → Nat
  | 0, a, b => a.length + b.length
  | _ + 1, [], b => b.length
  | _ + 1, x :: a, [] => a.length + 1
  | n + 1, x :: a, y :: b => if x = y then wdf n a b else 1 + min (wdf n a (y :: b)) (wdf n (x :: a) b)
theorem wdf_f : ∀ (n n' : Nat) (a b : List Int32), a.length + b.length ≤ n → a.length + b.length ≤ n' → wdf n a b = wdf n' a b
  | 0, n', a, b, h, _ => by
    have ha : a = [] := List.length_eq_zero_iff.mp (by omega)
    have hb : b = [] := List.length_eq_zero_iff.mp (by omega)
    subst ha; subst hb
    cases n' <;> rfl
  | n + 1, 0, a, b, _, h => by
    have ha : a = [] := List.length_eq_zero_iff.mp (by omega)
    have hb : b = [] := List.length_eq_zero_iff.mp (by omega)
    subst ha; subst hb
    rfl
  | n + 1, n' + 1, [], b, _, _ => rfl
  | n + 1, n' + 1, x :: a, [], _, _ => rfl
  | n + 1, n' + 1, x :: a, y :: b, h, h' => by
    simp only [List.length_cons] at h h'
    unfold wdf
    rw [wdf_f n n' a b (by omega) (by omega), wdf_f n n' a (y :: b) (by simp; omega) (by simp; omega), wdf_f n n' (x :: a) b (by simp; omega) (by simp; omega)]
def wd (a b : List Int32) : Nat := wdf (a.length + b.length) a b
theorem wd_l (b : List Int32) : wd [] b = b.length := by
  unfold wd
  cases b <;> simp [wdf]
theorem wd_r (a : List Int32) : wd a [] = a.length := by
  unfold wd
  cases a <;> simp [wdf]
theorem wd_c (x y : Int32) (a b : List Int32) : wd (x :: a) (y :: b) = if x = y then wd a b else 1 + min (wd a (y :: b)) (wd (x :: a) b) := by
  unfold wd
  rw [show (x :: a).length + (y :: b).length = a.length + b.length + 1 + 1 by simp; omega]
  conv => lhs; unfold wdf
  rw [wdf_f _ (a.length + b.length) a b (by omega) (by omega), wdf_f _ (a.length + (y :: b).length) a (y :: b) (by simp; omega) (by omega), wdf_f _ ((x :: a).length + b.length) (x :: a) b (by simp; omega) (by omega)]
theorem wd_bd : ∀ (N : Nat) (a b : List Int32), a.length + b.length ≤ N → wd a b ≤ a.length + b.length
  | 0, a, b, h => by
    have ha : a = [] := List.length_eq_zero_iff.mp (by omega)
    have hb : b = [] := List.length_eq_zero_iff.mp (by omega)
    subst ha; subst hb
    decide
  | N + 1, [], b, _ => by rw [wd_l]; simp
  | N + 1, x :: a, [], _ => by rw [wd_r]; simp
  | N + 1, x :: a, y :: b, h => by
    simp only [List.length_cons] at h ⊢
    have h1 := wd_bd N a b (by omega)
    have h2 := wd_bd N a (y :: b) (by simp; omega)
    simp only [List.length_cons] at h2
    rw [wd_c]
    split <;> omega
/-- one character more changes the number by one at most -/
theorem wd_lip : ∀ (N : Nat) (a b : List Int32), a.length + b.length ≤ N → (∀ x, wd (x :: a) b ≤ 1 + wd a b) ∧ (∀ y, wd a b ≤ 1 + wd a (y :: b)) ∧ (∀ y, wd a (y :: b) ≤ 1 + wd a b) ∧ (∀ x, wd a b ≤ 1 + wd (x :: a) b)
  | 0, a, b, h => by
    have ha : a = [] := List.length_eq_zero_iff.mp (by omega)
    have hb : b = [] := List.length_eq_zero_iff.mp (by omega)
    subst ha; subst hb
    refine ⟨fun x => ?_, fun x => ?_, fun x => ?_, fun x => ?_⟩ <;> simp [wd_l, wd_r]
  | N + 1, [], b, h => by
    refine ⟨fun x => ?_, fun y => ?_, fun y => ?_, fun x => ?_⟩
    · cases b with
      | nil => simp [wd_l, wd_r]
      | cons y b =>
        have ih := wd_lip N [] b (by simp at h ⊢; omega)
        rw [wd_c, wd_l, wd_l]
        simp only [List.length_cons]
        split <;> omega
    · simp [wd_l]
      omega
    · simp [wd_l]
      omega
    · cases b with
      | nil => simp [wd_l]
      | cons y b =>
        have ih := wd_lip N [] b (by simp at h ⊢; omega)
        have i4 := ih.2.2.2 x
        rw [wd_l] at i4
        rw [wd_c, wd_l, wd_l]
        simp only [List.length_cons]
        split <;> omega
  | N + 1, z :: a, [], h => by
    refine ⟨fun x => ?_, fun y => ?_, fun y => ?_, fun x => ?_⟩
    · simp [wd_r]
      omega
    · have ih := wd_lip N a [] (by simp at h ⊢; omega)
      have i2 := ih.2.1 y
      rw [wd_r] at i2
      rw [wd_c, wd_r, wd_r]
      simp only [List.length_cons]
      split <;> omega
    · have ih := wd_lip N a [] (by simp at h ⊢; omega)
      rw [wd_c, wd_r, wd_r]
      simp only [List.length_cons]
      split <;> omega
    · simp [wd_r]
      omega
  | N + 1, z :: a, w :: b, h => by
    simp only [List.length_cons] at h
    have iab := wd_lip N a b (by omega)
    have ia := wd_lip N a (w :: b) (by simp; omega)
    have ib := wd_lip N (z :: a) b (by simp; omega)
    have e := wd_c z w a b
    refine ⟨fun x => ?_, fun y => ?_, fun y => ?_, fun x => ?_⟩
    · rw [wd_c x w]
      have h2 := ib.2.1 w
      split <;> omega
    · rw [wd_c z y]
      have h1 := ia.1 z
      have h2 := ia.2.1 y
      split <;> omega
    · rw [wd_c z y]
      have h2 := ia.2.2.2 z
      split <;> omega
    · rw [wd_c x w]
      have h1 := ib.2.2.1 w
      have h2 := ib.2.2.2 x
      split <;> omega
theorem drop_e {s : List Int32} {p : Nat} {x : Int32} (h : s[p]? = some x) : s.drop p = x :: s.drop (p + 1) := by
  obtain ⟨l1, e1⟩ := List.getElem?_eq_some_iff.mp h
  rw [List.drop_eq_getElem_cons l1, e1]
def wv (a b : List Int32) (i j : Nat) : Nat := wd (a.drop i) (b.drop j)
theorem wv_n {a b : List Int32} {i j : Nat} (h : a.length ≤ i) : wv a b i j = b.length - j := by
  unfold wv
  rw [List.drop_eq_nil_of_le h, wd_l, List.length_drop]
theorem wv_m {a b : List Int32} {i j : Nat} (h : b.length ≤ j) : wv a b i j = a.length - i := by
  unfold wv
  rw [List.drop_eq_nil_of_le h, wd_r, List.length_drop]
theorem wv_e {a b : List Int32} {i j : Nat} {x y : Int32} (hx : a[i]? = some x) (hy : b[j]? = some y) : wv a b i j = if x = y then wv a b (i + 1) (j + 1) else 1 + min (wv a b (i + 1) j) (wv a b i (j + 1)) := by
  unfold wv
  rw [drop_e hx, drop_e hy, wd_c]
theorem wv_k {a b : List Int32} {i j : Nat} {x y : Int32} (hx : a[i]? = some x) (hy : b[j]? = some y) : wv a b (i + 1) (j + 1) ≤ 1 + min (wv a b (i + 1) j) (wv a b i (j + 1)) := by
  unfold wv
  rw [drop_e hx, drop_e hy]
  have := wd_lip _ (a.drop (i + 1)) (b.drop (j + 1)) (Nat.le_refl _)
  have h1 := this.2.1 y
  have h2 := this.2.2.2 x
  omega
theorem wv_b (a b : List Int32) (i j : Nat) : wv a b i j ≤ a.length + b.length := by
  unfold wv
  have := wd_bd _ (a.drop i) (b.drop j) (Nat.le_refl _)
  rw [List.length_drop, List.length_drop] at this
  omega
/-- the table from place (i0, j0) on, in the order in which it is filled -/
def DT (f : Nat → Int32) (a b : List Int32) (i0 j0 : Nat) : Prop := ∀ i j, i ≤ a.length → j ≤ b.length → (i0 < i ∨ (i = i0 ∧ j0 ≤ j)) → f (121 * i + j) = nI (wv a b i j)
theorem DT.st {f : Nat → Int32} {a b : List Int32} {i j : Nat} (h : DT f a b i (j + 1)) (hb : b.length ≤ 120) (hj : j ≤ b.length) : DT (upd f (121 * i + j) (nI (wv a b i j))) a b i j := by
  intro i' j' h1 h2 h3
  by_cases e : i' = i ∧ j' = j
  · obtain ⟨rfl, rfl⟩ := e
    unfold upd
    rw [if_pos rfl]
  · unfold upd
    rw [if_neg (by omega)]
    exact h i' j' h1 h2 (by omega)
theorem DT.row {f : Nat → Int32} {a b : List Int32} {i : Nat} (h : DT f a b i 0) : DT f a b (i - 1) (b.length + 1) := fun i' j' h1 h2 h3 => h i' j' h1 h2 (by omega)
theorem mxn (a b : Nat) : nI a * nI b = nI (a * b) := pk_mul a b
section CO
variable {E : XE} {d : Nat} {Q : Int32 → mI → mP → Prop} {P : mP} {a b : List Int32}
theorem l_compare (hM : MO P) (ha : a.length ≤ 60) (hb : b.length ≤ 120) : ∀ (k : Nat) (I : mI), k ≤ a.length + 1 → I 95 3 = nI a.length → I 95 2 = nI b.length → Rc (I 96) 128 a → Rc (I 96) 0 b → DT (I 111) a b k 0 →
    (∀ I', (∀ m, m ≠ 111 → I' m = I m) → DT (I' 111) a b 0 0 → Q (nI 0) I' P) → V E d m_Model_compare 112 Q 5 [some (.inr 95), some (.inl (ix k)), none, none, none, none, none] [] 112 I P := by
  have hM' := hM
  obtain ⟨p0, -, -, -, -, -, -, -, -, -, -, -, -, -, -, p25⟩ := hM'
  intro k
  induction k with
  | zero =>
    intro I _ _ _ _ _ hD h
    exact x_Model_compare_5 _ _ ⟨fun _ => h I (fun _ _ => rfl) hD, fun q => absurd m1_lt q⟩
  | succ i ih =>
    intro I hi h3 h2 hca hcb hD h
    show V E d m_Model_compare 112 Q 5 [some (.inr 95), some (.inl (nI i)), none, none, none, none, none] [] 112 I P
    refine x_Model_compare_5 _ _ ⟨fun q => absurd q (nI_pos (by omega)), fun _ => ⟨k95, ?_⟩⟩
    rw [h2]
    -- the row i, from j = k - 1 down
    have row : ∀ (k : Nat) (I1 : mI), k ≤ b.length + 1 → (∀ m, m ≠ 111 → I1 m = I m) → DT (I1 111) a b i k → V E d m_Model_compare 112 Q 14 [some (.inr 95), some (.inl (nI i)), some (.inl (ix k)), none, none, none, none] [] 112 I1 P := by
      intro k
      induction k with
      | zero =>
        intro I1 _ hf hD1
        refine x_Model_compare_14 _ _ _ ⟨fun _ => ?_, fun q => absurd m1_lt q⟩
        rw [ix_add]
        refine ih I1 (by omega) (by rw [hf 95 (by decide)]; exact h3) (by rw [hf 95 (by decide)]; exact h2) (by rw [hf 96 (by decide)]; exact hca) (by rw [hf 96 (by decide)]; exact hcb) ?_ (fun I' hf' hD' => h I' (fun m hm => (hf' m hm).trans (hf m hm)) hD')
        exact hD1
      | succ j ihj =>
        intro I1 hj hf hD1
        have g3 : I1 95 3 = nI a.length := by rw [hf 95 (by decide)]; exact h3
        have g2 : I1 95 2 = nI b.length := by rw [hf 95 (by decide)]; exact h2
        have hij : 121 * i + j < 7381 := by omega
        -- the value is stored
        have store : V E d m_Model_compare 112 Q 152 [some (.inr 95), some (.inl (nI i)), some (.inl (nI j)), some (.inl (nI (wv a b i j))), none, none, none] [] 112 I1 P := by
          refine x_Model_compare_152 _ _ _ _ ?_
          simp only [k95, p25, k111, nzl 111 (by decide), true_and]
          rw [mxn, nI_add, clp (by omega), ix_add]
          refine ⟨vp_in_nI hij (by decide), ihj _ (by omega) (fun m hm => by rw [uI_n hm]; exact hf m hm) ?_⟩
          show DT (uI I1 111 (121 * i + j) (nI (wv a b i j)) 111) a b i j
          unfold uI
          rw [sI_s]
          exact hD1.st hb (by omega)
        show V E d m_Model_compare 112 Q 14 [some (.inr 95), some (.inl (nI i)), some (.inl (nI j)), none, none, none, none] [] 112 I1 P
        refine x_Model_compare_14 _ _ _ ⟨fun q => absurd q (nI_pos (by omega)), fun _ => ⟨k95, ?_⟩⟩
        rw [g3, g2]
        have at42 : ∀ v, (a.length ≤ i ∨ b.length ≤ j → v = wv a b i j) → V E d m_Model_compare 112 Q 42 [some (.inr 95), some (.inl (nI i)), some (.inl (nI j)), some (.inl (nI v)), none, none, none] [] 112 I1 P := by
          intro v hv
          refine x_Model_compare_42 _ _ _ _ ⟨k95, ?_⟩
          rw [g3, g2]
          refine pk_le a.length i (fun q => by rw [hv (Or.inl q)]; exact store) (fun q => ⟨k95, pk_le b.length j (fun q2 => by rw [hv (Or.inr q2)]; exact store) (fun q2 => ?_)⟩)
          obtain ⟨x, hx, -⟩ := drop_c (s := a) (p := i) q
          obtain ⟨y, hy, -⟩ := drop_c (s := b) (p := j) q2
          simp only [k95, p25, k111, nzl 111 (by decide), true_and]
          have e1 : I1 111 (121 * i + 121 + j) = nI (wv a b (i + 1) j) := by
            have := hD1 (i + 1) j (by omega) (by omega) (Or.inl (by omega))
            rw [show 121 * (i + 1) + j = 121 * i + 121 + j by omega] at this
            exact this
          have e2 : I1 111 (121 * i + j + 1) = nI (wv a b i (j + 1)) := hD1 i (j + 1) (by omega) (by omega) (Or.inr ⟨rfl, Nat.le_refl _⟩)
          have e3 : I1 111 (121 * i + 121 + j + 1) = nI (wv a b (i + 1) (j + 1)) := by
            have := hD1 (i + 1) (j + 1) (by omega) (by omega) (Or.inl (by omega))
            rw [show 121 * (i + 1) + (j + 1) = 121 * i + 121 + j + 1 by omega] at this
            exact this
          have b1 := wv_b a b (i + 1) j
          have b2 := wv_b a b i (j + 1)
          have b3 := wv_b a b (i + 1) (j + 1)
          have hk := wv_k hx hy
          have he := wv_e hx hy
          rw [mxn, nI_add, nI_add, nI_add, nI_add, clp (by omega), clp (by omega), e1, e2]
          refine ⟨vp_in_nI (by omega) (by decide), vp_in_nI (by omega) (by decide), ?_⟩
          have at106 : V E d m_Model_compare 112 Q 106 [some (.inr 95), some (.inl (nI i)), some (.inl (nI j)), some (.inl (nI (1 + min (wv a b (i + 1) j) (wv a b i (j + 1))))), none, none, none] [] 112 I1 P := by
            refine x_Model_compare_106 _ _ _ _ ?_
            simp only [k95, p25, k111, p0, k96, nzl 111 (by decide), nzl 96 (by decide), true_and]
            rw [mxn, nI_add, nI_add, nI_add, nI_add, clp (by omega), clp (by omega), clp (by omega), e3]
            have ea : I1 96 (128 + i) = x := by rw [hf 96 (by decide)]; exact hca i x hx
            have eb : I1 96 j = y := by rw [hf 96 (by decide)]; exact hcb.at0 hy
            rw [ea, eb]
            refine ⟨vp_in_nI (by omega) (by decide), vp_in_nI (by omega) (by decide), vp_in_nI (by omega) (by decide), fun c => ?_, fun c => ?_⟩
            · rw [if_neg c] at he
              rw [← he]
              exact store
            · rw [if_pos c] at he
              refine pk_le _ _ (fun q3 => ?_) (fun q3 => ?_)
              · have : 1 + min (wv a b (i + 1) j) (wv a b i (j + 1)) = wv a b i j := by omega
                rw [this]
                exact store
              · rw [← he]
                exact store
          refine pk_le _ _ (fun q3 => ?_) (fun q3 => ?_)
          · rw [nI_add, show 1 + wv a b i (j + 1) = 1 + min (wv a b (i + 1) j) (wv a b i (j + 1)) by omega]
            exact at106
          · rw [nI_add, show 1 + wv a b (i + 1) j = 1 + min (wv a b (i + 1) j) (wv a b i (j + 1)) by omega]
            exact at106
        rw [nI_eq (by omega) (by omega)]
        refine ⟨fun q => ⟨k95, ?_⟩, fun q => ⟨k95, ?_⟩⟩
        · rw [pk_sub (by omega)]
          refine at42 _ (fun q2 => ?_)
          rw [wv_m (by omega)]
        · rw [pk_sub (by omega)]
          refine at42 _ (fun q2 => ?_)
          rw [wv_n (by omega)]
    exact row (b.length + 1) I (Nat.le_refl _) (fun _ _ => rfl) (by
      intro i' j' h1' h2' h3'
      exact hD i' j' h1' h2' (by omega))
theorem s_compare (hM : MO P) (ha : a.length ≤ 60) (hb : b.length ≤ 120) {I : mI} (h3 : I 95 3 = nI a.length) (h2 : I 95 2 = nI b.length) (hca : Rc (I 96) 128 a) (hcb : Rc (I 96) 0 b)
    (h : ∀ I', (∀ m, m ≠ 111 → I' m = I m) → DT (I' 111) a b 0 0 → Q (nI 0) I' P) : V E d m_Model_compare 112 Q 0 [some (.inr 95), none, none, none, none, none, none] [] 112 I P := by
  refine x_Model_compare_0 _ ⟨k95, ?_⟩
  rw [h3]
  exact l_compare hM ha hb (a.length + 1) I (Nat.le_refl _) h3 h2 hca hcb (fun i j h1 _ h4 => by omega) h
end CO
end
section
/-! The class's table of changes. -/
theorem k93 : kk 112 93 = (1, 7381) := rfl
theorem k94 : kk 112 94 = (1, 180) := rfl
section WE
variable {E : XE} {d : Nat} {Q : Int32 → mI → mP → Prop} {P : mP} {a b : List Int32} {o : Nat}
theorem l_weigh (hP : P 92 0 = 93) (hT : TO P o 120) (ho : o + 5 < 85) (ha : a.length ≤ 60) (hb : b.length ≤ 120) : ∀ (k : Nat) (I : mI), k ≤ a.length + 1 → I o 5 = nI b.length → Rc (I 4) 0 a → 4 < o → Rc (I (o + 1)) 0 b → DT (I 93) a b k 0 →
    (∀ I', (∀ m, m ≠ 93 → I' m = I m) → DT (I' 93) a b 0 0 → Q (nI 0) I' P) → V E (d + 1) m_Patch_weigh 112 Q 3 [some (.inr 92), some (.inr 4), some (.inl (nI a.length)), some (.inr o), some (.inl (ix k)), none, none, none] [] 112 I P := by
  have hT' := hT
  obtain ⟨t0, ⟨p0, c0⟩, -⟩ := hT'
  intro k
  induction k with
  | zero =>
    intro I _ _ _ _ _ hD h
    exact x_Patch_weigh_3 _ _ _ _ _ ⟨fun _ => h I (fun _ _ => rfl) hD, fun q => absurd m1_lt q⟩
  | succ i ih =>
    intro I hi h5 hca h4o hcb hD h
    show V E (d + 1) m_Patch_weigh 112 Q 3 [some (.inr 92), some (.inr 4), some (.inl (nI a.length)), some (.inr o), some (.inl (nI i)), none, none, none] [] 112 I P
    refine x_Patch_weigh_3 _ _ _ _ _ ⟨fun q => absurd q (nI_pos (by omega)), fun _ => ⟨t0, ?_⟩⟩
    rw [h5, mxn]
    have row : ∀ (k : Nat) (I1 : mI), k ≤ b.length + 1 → (∀ m, m ≠ 93 → I1 m = I m) → DT (I1 93) a b i k → V E (d + 1) m_Patch_weigh 112 Q 21 [some (.inr 92), some (.inr 4), some (.inl (nI a.length)), some (.inr o), some (.inl (nI i)), some (.inl (nI (i * 121))), some (.inl (ix k)), none] [] 112 I1 P := by
      intro k
      induction k with
      | zero =>
        intro I1 _ hf hD1
        refine x_Patch_weigh_21 _ _ _ _ _ _ _ ⟨fun _ => ?_, fun q => absurd m1_lt q⟩
        rw [ix_add]
        exact ih I1 (by omega) (by rw [hf o (by omega)]; exact h5) (by rw [hf 4 (by decide)]; exact hca) h4o (by rw [hf (o + 1) (by omega)]; exact hcb) hD1 (fun I' hf' hD' => h I' (fun m hm => (hf' m hm).trans (hf m hm)) hD')
      | succ j ihj =>
        intro I1 hj hf hD1
        have g5 : I1 o 5 = nI b.length := by rw [hf o (by omega)]; exact h5
        have hij : 121 * i + j < 7381 := by omega
        have store : ∀ v : Int32, v = nI (wv a b i j) → V E (d + 1) m_Patch_weigh 112 Q 21 [some (.inr 92), some (.inr 4), some (.inl (nI a.length)), some (.inr o), some (.inl (nI i)), some (.inl (nI (i * 121))), some (.inl (nI j + -(nI 1))), none] [] 112 (uI I1 93 (121 * i + j) v) P := by
          intro v hv
          subst hv
          rw [ix_add]
          refine ihj _ (by omega) (fun m hm => by rw [uI_n hm]; exact hf m hm) ?_
          show DT (uI I1 93 (121 * i + j) (nI (wv a b i j)) 93) a b i j
          unfold uI
          rw [sI_s]
          exact hD1.st hb (by omega)
        show V E (d + 1) m_Patch_weigh 112 Q 21 [some (.inr 92), some (.inr 4), some (.inl (nI a.length)), some (.inr o), some (.inl (nI i)), some (.inl (nI (i * 121))), some (.inl (nI j)), none] [] 112 I1 P
        refine x_Patch_weigh_21 _ _ _ _ _ _ _ ⟨fun q => absurd q (nI_pos (by omega)), fun _ => ?_⟩
        simp only [t0, p0, c0, hP, k92, k93, k4_, nzz 1 (by decide), nzl 93 (by decide), true_and, g5]
        have ei : nI (i * 121) + nI j = nI (121 * i + j) := by rw [nI_add, Nat.mul_comm]
        rw [ei, clp (show 121 * i + j < 2 ^ 31 by omega)]
        have hin : vp_in (nI (121 * i + j)) 7381 := vp_in_nI hij (by decide)
        rw [nI_eq (by omega) (by omega), nI_eq (by omega) (by omega)]
        refine ⟨fun qi => ⟨fun qj => ?_, fun qj => ⟨hin, store _ ?_⟩⟩, fun qi => ⟨hin, store _ ?_⟩⟩
        · have hil : i < a.length := by omega
          have hjl : j < b.length := by omega
          obtain ⟨x, hx, -⟩ := drop_c (s := a) (p := i) hil
          obtain ⟨y, hy, -⟩ := drop_c (s := b) (p := j) hjl
          have e1 : I1 93 (i * 121 + 121 + j) = nI (wv a b (i + 1) j) := by
            have := hD1 (i + 1) j (by omega) (by omega) (Or.inl (by omega))
            rw [show 121 * (i + 1) + j = i * 121 + 121 + j by omega] at this
            exact this
          have e2 : I1 93 (121 * i + j + 1) = nI (wv a b i (j + 1)) := hD1 i (j + 1) (by omega) (by omega) (Or.inr ⟨rfl, Nat.le_refl _⟩)
          have e3 : I1 93 (i * 121 + 121 + j + 1) = nI (wv a b (i + 1) (j + 1)) := by
            have := hD1 (i + 1) (j + 1) (by omega) (by omega) (Or.inl (by omega))
            rw [show 121 * (i + 1) + (j + 1) = i * 121 + 121 + j + 1 by omega] at this
            exact this
          have b1 := wv_b a b (i + 1) j
          have b2 := wv_b a b i (j + 1)
          have he := wv_e hx hy
          rw [clp (show i < 2 ^ 31 by omega), clp (show j < 2 ^ 31 by omega), nI_add (i * 121) 121, nI_add (i * 121 + 121) j, nI_add (121 * i + j) 1, nI_add (i * 121 + 121 + j) 1, clp (show i * 121 + 121 + j < 2 ^ 31 by omega), clp (show 121 * i + j + 1 < 2 ^ 31 by omega), clp (show i * 121 + 121 + j + 1 < 2 ^ 31 by omega), e1, e2, e3]
          have ea : I1 4 i = x := by rw [hf 4 (by decide)]; exact hca.at0 hx
          have eb : I1 (o + 1) j = y := by rw [hf (o + 1) (by omega)]; exact hcb.at0 hy
          rw [ea, eb]
          refine ⟨vp_in_nI (by omega) (by decide), vp_in_nI (by omega) (by decide), fun c => ⟨vp_in_nI (by omega) (by decide), vp_in_nI (by omega) (by decide), hin, store _ ?_⟩, fun c => ⟨vp_in_nI (by omega) (by decide), hin, store _ ?_⟩⟩
          · rw [if_neg c] at he
            rw [mnn (by omega) (by omega), nI_add, he]
          · rw [if_pos c] at he
            rw [he]
        · rw [pk_sub (by omega), wv_m (by omega)]
        · rw [pk_sub (by omega), wv_n (by omega)]
    exact row (b.length + 1) I (Nat.le_refl _) (fun _ _ => rfl) (by
      intro i' j' h1' h2' h3'
      exact hD i' j' h1' h2' (by omega))
theorem s_weigh (hP : P 92 0 = 93) (hT : TO P o 120) (ho : o + 5 < 85) (ho4 : 4 < o) (ha : a.length ≤ 60) (hb : b.length ≤ 120) {I : mI} (h5 : I o 5 = nI b.length) (hca : Rc (I 4) 0 a) (hcb : Rc (I (o + 1)) 0 b)
    (h : ∀ I', (∀ m, m ≠ 93 → I' m = I m) → DT (I' 93) a b 0 0 → Q (nI 0) I' P) : V E (d + 1) m_Patch_weigh 112 Q 0 [some (.inr 92), some (.inr 4), some (.inl (nI a.length)), some (.inr o), none, none, none, none] [] 112 I P :=
  x_Patch_weigh_0 _ _ _ _ (l_weigh hP hT ho ha hb (a.length + 1) I (Nat.le_refl _) h5 hca ho4 hcb (fun i j h1 _ h4 => by omega) h)
theorem s_deletes (hP : P 92 0 = 93) {I : mI} (hD : DT (I 93) a b 0 0) (ha : a.length ≤ 60) (hb : b.length ≤ 120) {i j : Nat} (hi : i < a.length) (hj : j ≤ b.length) (h : Q (bI (decide (wv a b i j = 1 + wv a b (i + 1) j))) I P) : V E d m_Patch_deletes 112 Q 0 [some (.inr 92), some (.inl (nI i)), some (.inl (nI j))] [] 112 I P := by
  refine x_Patch_deletes_0 _ _ _ ?_
  simp only [k92, hP, k93, nzl 93 (by decide), true_and]
  have e1 := hD i j (by omega) hj (by omega)
  have e2 := hD (i + 1) j (by omega) hj (by omega)
  have b1 := wv_b a b i j
  have b2 := wv_b a b (i + 1) j
  rw [n1, mxn, mxn, nI_add, nI_add, Nat.mul_comm i, Nat.mul_comm (i + 1), clp (by omega), clp (by omega), e1, e2, nI_add, nI_eq (by omega) (by omega)]
  refine ⟨vp_in_nI (by omega) (by decide), vp_in_nI (by omega) (by decide), fun c => ?_, fun c => ?_⟩
  · rw [decide_eq_false c] at h
    exact ⟨rfl, h⟩
  · rw [decide_eq_true c] at h
    exact ⟨rfl, h⟩
end WE
/-- the steps from place (i, j) on -/
def stp (a b : List Int32) : Nat → Nat → Nat → List Int32
  | 0, _, _ => []
  | n + 1, i, j => match a[i]?, b[j]? with
    | some x, some y => if x = y then (nI 1000 + x) :: stp a b n (i + 1) (j + 1) else if wv a b i j = 1 + wv a b (i + 1) j then (nI 2000 + x) :: stp a b n (i + 1) j else (nI 3000 + y) :: stp a b n i (j + 1)
    | some x, none => (nI 2000 + x) :: stp a b n (i + 1) j
    | none, some y => (nI 3000 + y) :: stp a b n i (j + 1)
    | none, none => []
def stps (a b : List Int32) : List Int32 := stp a b (a.length + b.length) 0 0
theorem stp_len (a b : List Int32) : ∀ (n i j : Nat), (stp a b n i j).length ≤ n
  | 0, _, _ => Nat.le_refl _
  | n + 1, i, j => by
    unfold stp
    split
    · split
      · exact Nat.succ_le_succ (stp_len a b n _ _)
      · split
        · exact Nat.succ_le_succ (stp_len a b n _ _)
        · exact Nat.succ_le_succ (stp_len a b n _ _)
    · exact Nat.succ_le_succ (stp_len a b n _ _)
    · exact Nat.succ_le_succ (stp_len a b n _ _)
    · exact Nat.zero_le _
end
section
/-! The steps. -/
theorem Rc.psh {f : Nat → Int32} {s : List Int32} {o : Nat} {v : Int32} (h : Rc f o s) : Rc (upd f (o + s.length) v) o (s ++ [v]) := by
  intro j x hx
  unfold upd
  by_cases hj : j < s.length
  · rw [List.getElem?_append_left hj] at hx
    rw [if_neg (by omega)]
    exact h j x hx
  · by_cases e : j = s.length
    · subst e
      rw [if_pos rfl]
      rw [List.getElem?_append_right (Nat.le_refl _), Nat.sub_self] at hx
      injection hx
    · exfalso
      have := (List.getElem?_eq_some_iff.mp hx).1
      simp at this
      omega
theorem gno {s : List Int32} {i : Nat} (h : s.length ≤ i) : s[i]? = none := List.getElem?_eq_none h
theorem stp_s (a b : List Int32) (n i j : Nat) : stp a b (n + 1) i j = match a[i]?, b[j]? with
    | some x, some y => if x = y then (nI 1000 + x) :: stp a b n (i + 1) (j + 1) else if wv a b i j = 1 + wv a b (i + 1) j then (nI 2000 + x) :: stp a b n (i + 1) j else (nI 3000 + y) :: stp a b n i (j + 1)
    | some x, none => (nI 2000 + x) :: stp a b n (i + 1) j
    | none, some y => (nI 3000 + y) :: stp a b n i (j + 1)
    | none, none => [] := rfl
section WK
variable {E : XE} {d : Nat} {Q : Int32 → mI → mP → Prop} {P : mP} {a b : List Int32} {o : Nat}
theorem l_walk (hP : P 92 0 = 93) (hP1 : P 92 1 = 94) (hT : TO P o 120) (ho : o + 5 < 85) (h4o : 4 < o) (ha : a.length ≤ 60) (hb : b.length ≤ 120) : ∀ (f i j n : Nat) (S : List Int32) (I : mI), n + f = a.length + b.length → n ≤ i + j → i ≤ a.length → j ≤ b.length → S.length = n → I o 5 = nI b.length → Rc (I 4) 0 a → Rc (I (o + 1)) 0 b → DT (I 93) a b 0 0 → Rc (I 94) 0 S → I 92 2 = nI n →
    (∀ I', (∀ m, m ≠ 92 → m ≠ 94 → I' m = I m) → (∀ k, k ≠ 2 → I' 92 k = I 92 k) → Rc (I' 94) 0 (S ++ stp a b f i j) → I' 92 2 = nI (S ++ stp a b f i j).length → Q (nI 0) I' P) → V E (d + 1) m_Patch_walk 112 Q 32 [some (.inr 92), some (.inr 4), some (.inl (nI a.length)), some (.inr o), some (.inl (nI i)), some (.inl (nI j)), some (.inl (nI (a.length + b.length))), some (.inl (nI n))] [] 112 I P := by
  have hT' := hT
  obtain ⟨t0, ⟨p0, c0⟩, -⟩ := hT'
  intro f
  induction f with
  | zero =>
    intro i j n S I hn hij hi hj hS h5 hca hcb hD hR h2 h
    refine x_Patch_walk_32 _ _ _ _ _ _ _ _ (pk_le (a.length + b.length) n (fun _ => ?_) (fun q => by omega))
    have e : stp a b 0 i j = [] := rfl
    rw [e, List.append_nil] at h
    exact h I (fun _ _ _ => rfl) (fun _ _ => rfl) hR (by rw [hS]; exact h2)
  | succ f ih =>
    intro i j n S I hn hij hi hj hS h5 hca hcb hD hR h2 h
    have s181 : ∀ (v : Int32) (i' j' : Nat), i' ≤ a.length → j' ≤ b.length → n + 1 ≤ i' + j' → stp a b (f + 1) i j = v :: stp a b f i' j' → V E (d + 1) m_Patch_walk 112 Q 181 [some (.inr 92), some (.inr 4), some (.inl (nI a.length)), some (.inr o), some (.inl (nI i')), some (.inl (nI j')), some (.inl (nI (a.length + b.length))), some (.inl (nI n))] [] 112 (uI I 94 n v) P := by
      intro v i' j' hi' hj' hij' e
      refine x_Patch_walk_181 _ _ _ _ _ _ _ _ ⟨k92, k92, ?_⟩
      rw [uI_n (by decide), h2, n1]
      refine ih i' j' (n + 1) (S ++ [v]) _ (by omega) hij' hi' hj' (by simp [hS]) ?_ ?_ ?_ ?_ ?_ ?_ ?_
      · rw [uI_n (by omega), uI_n (by omega)]; exact h5
      · rw [uI_n (by omega), uI_n (by omega)]; exact hca
      · rw [uI_n (by omega), uI_n (by omega)]; exact hcb
      · rw [uI_n (by omega), uI_n (by omega)]; exact hD
      · rw [uI_n (by omega)]
        unfold uI
        rw [sI_s, ← hS]
        have := hR.psh (v := v)
        rw [Nat.zero_add] at this
        exact this
      · rw [uI_s]
      · rw [e] at h
        intro I' h1 h2' h3 h4
        rw [List.append_assoc, List.singleton_append] at h3 h4
        refine h I' (fun m hm hm' => ?_) (fun k hk => ?_) h3 h4
        · rw [h1 m hm hm', uI_n hm, uI_n hm']
        · rw [h2' k hk, uI_o hk, uI_n (by decide)]
    refine x_Patch_walk_32 _ _ _ _ _ _ _ _ (pk_le (a.length + b.length) n (fun q => by omega) (fun _ => ?_))
    rw [h5]
    have fin : a.length ≤ i → b.length ≤ j → Q (nI 0) I P := by
      intro q q2
      have e : stp a b (f + 1) i j = [] := by
        rw [stp_s]
        rw [gno q, gno q2]
      rw [e, List.append_nil] at h
      exact h I (fun _ _ _ => rfl) (fun _ _ => rfl) hR (by rw [hS]; exact h2)
    have in94 : vp_in (nI n) 180 := vp_in_nI (by omega) (by decide)
    have s149 : j < b.length → (∀ y, b[j]? = some y → stp a b (f + 1) i j = (nI 3000 + y) :: stp a b f i (j + 1)) → V E (d + 1) m_Patch_walk 112 Q 149 [some (.inr 92), some (.inr 4), some (.inl (nI a.length)), some (.inr o), some (.inl (nI i)), some (.inl (nI j)), some (.inl (nI (a.length + b.length))), some (.inl (nI n))] [] 112 I P := by
      intro q e
      obtain ⟨y, hy, -⟩ := drop_c (s := b) (p := j) q
      refine x_Patch_walk_149 _ _ _ _ _ _ _ _ ⟨t0, ?_⟩
      rw [h5]
      refine pk_le b.length j (fun q2 => by omega) (fun _ => ?_)
      simp only [t0, p0, c0, hP1, k92, k94, nzz 1 (by decide), nzl 94 (by decide), true_and, h2]
      rw [clp (show n < 2 ^ 31 by omega), clp (show j < 2 ^ 31 by omega), n1, hcb.at0 hy]
      exact ⟨vp_in_nI (by omega) (by decide), in94, s181 _ i (j + 1) hi (by omega) (by omega) (e y hy)⟩
    have s109 : (i < a.length ∨ j < b.length) → (∀ x y, a[i]? = some x → b[j]? = some y → x ≠ y) → V E (d + 1) m_Patch_walk 112 Q 109 [some (.inr 92), some (.inr 4), some (.inl (nI a.length)), some (.inr o), some (.inl (nI i)), some (.inl (nI j)), some (.inl (nI (a.length + b.length))), some (.inl (nI n))] [] 112 I P := by
      intro hor hne
      refine x_Patch_walk_109 _ _ _ _ _ _ _ _ (pk_le a.length i (fun q => ?_) (fun q => ⟨k92, ?_⟩))
      · refine s149 (by omega) (fun y hy => ?_)
        rw [stp_s]
        rw [gno q, hy]
      · obtain ⟨x, hx, -⟩ := drop_c (s := a) (p := i) q
        refine s_deletes hP hD ha hb q hj (bz_i (fun c => ?_) (fun c => ?_))
        · have c' := of_decide_eq_false c
          have hjl : j < b.length := by
            apply Classical.byContradiction
            intro hc
            rw [wv_m (by omega), wv_m (by omega)] at c'
            omega
          refine s149 hjl (fun y hy => ?_)
          rw [stp_s]
          rw [hx, hy]
          simp only [if_neg (hne x y hx hy), if_neg c']
        · have c' := of_decide_eq_true c
          simp only [k4_, hP1, k92, k94, nzl 94 (by decide), true_and, h2]
          rw [clp (show n < 2 ^ 31 by omega), clp (show i < 2 ^ 31 by omega), n1, hca.at0 hx]
          refine ⟨vp_in_nI (by omega) (by decide), in94, s181 _ (i + 1) j (by omega) hj (by omega) ?_⟩
          rw [stp_s]
          rw [hx]
          cases hb' : b[j]? with
          | none => rfl
          | some y => simp only [if_neg (hne x y hx hb'), if_pos c']
    have s54 : (i < a.length ∨ j < b.length) → V E (d + 1) m_Patch_walk 112 Q 54 [some (.inr 92), some (.inr 4), some (.inl (nI a.length)), some (.inr o), some (.inl (nI i)), some (.inl (nI j)), some (.inl (nI (a.length + b.length))), some (.inl (nI n))] [] 112 I P := by
      intro hor
      refine x_Patch_walk_54 _ _ _ _ _ _ _ _ (pk_le a.length i (fun q => s109 hor (fun x y hx _ => by rw [gno q] at hx; cases hx)) (fun q => ⟨t0, ?_⟩))
      rw [h5]
      refine pk_le b.length j (fun q2 => s109 hor (fun x y _ hy => by rw [gno q2] at hy; cases hy)) (fun q2 => ?_)
      obtain ⟨x, hx, -⟩ := drop_c (s := a) (p := i) q
      obtain ⟨y, hy, -⟩ := drop_c (s := b) (p := j) q2
      simp only [t0, p0, c0, k4_, hP1, k92, k94, nzz 1 (by decide), nzl 94 (by decide), true_and, h2]
      rw [clp (show n < 2 ^ 31 by omega), clp (show i < 2 ^ 31 by omega), clp (show j < 2 ^ 31 by omega), n1, n1, hca.at0 hx, hcb.at0 hy]
      refine ⟨vp_in_nI (by omega) (by decide), vp_in_nI (by omega) (by decide), fun c => s109 hor (fun x' y' hx' hy' => ?_), fun c => ⟨vp_in_nI (by omega) (by decide), in94, s181 _ (i + 1) (j + 1) (by omega) (by omega) (by omega) ?_⟩⟩
      · rw [hx] at hx'
        rw [hy] at hy'
        cases hx'
        cases hy'
        exact c
      · rw [stp_s]
        rw [hx, hy]
        simp only [if_pos c]
    refine pk_lt i a.length (fun q => s54 (Or.inl q)) (fun q => ⟨t0, pk_le b.length j (fun q2 => fin (by omega) q2) (fun q2 => s54 (Or.inr q2))⟩)
theorem s_walk (hP : P 92 0 = 93) (hP1 : P 92 1 = 94) (hT : TO P o 120) (ho : o + 5 < 85) (h4o : 4 < o) (ha : a.length ≤ 60) (hb : b.length ≤ 120) {I : mI} (h5 : I o 5 = nI b.length) (hca : Rc (I 4) 0 a) (hcb : Rc (I (o + 1)) 0 b) (hD : DT (I 93) a b 0 0)
    (h : ∀ I', (∀ m, m ≠ 92 → m ≠ 94 → I' m = I m) → I' 92 3 = nI (wv a b 0 0) → Rc (I' 94) 0 (stps a b) → I' 92 2 = nI (stps a b).length → Q (nI 0) I' P) : V E (d + 1) m_Patch_walk 112 Q 0 [some (.inr 92), some (.inr 4), some (.inl (nI a.length)), some (.inr o), none, none, none, none] [] 112 I P := by
  refine x_Patch_walk_0 _ _ _ _ ?_
  simp only [hT.1, k92, hP, k93, nzl 93 (by decide), true_and]
  rw [h5, nI_add, clp (show 0 < 2 ^ 31 by decide), uI_n (by decide)]
  have e0 := hD 0 0 (by omega) (by omega) (by omega)
  rw [show 121 * 0 + 0 = 0 from rfl] at e0
  rw [e0]
  refine ⟨vp_in_nI (by decide) (by decide), l_walk hP hP1 hT ho h4o ha hb (a.length + b.length) 0 0 0 [] _ (by omega) (by omega) (by omega) (by omega) rfl ?_ ?_ ?_ ?_ (fun j x hx => by simp at hx) ?_ ?_⟩
  · rw [uI_n (by omega), uI_n (by omega)]; exact h5
  · rw [uI_n (by omega), uI_n (by omega)]; exact hca
  · rw [uI_n (by omega), uI_n (by omega)]; exact hcb
  · rw [uI_n (by omega), uI_n (by omega)]; exact hD
  · rw [uI_o (by decide), uI_s]
  · intro I' h1 h2 h3 h4
    rw [List.nil_append] at h3 h4
    refine h I' (fun m hm hm' => ?_) ?_ h3 h4
    · rw [h1 m hm hm', uI_n hm, uI_n hm]
    · rw [h2 3 (by decide), uI_s]
/-- what the class keeps of the patch -/
def PT (I : mI) (a b : List Int32) : Prop := I 92 3 = nI (wv a b 0 0) ∧ Rc (I 94) 0 (stps a b) ∧ I 92 2 = nI (stps a b).length
def FrPt (I I' : mI) : Prop := ∀ m, m ≠ 92 → m ≠ 93 → m ≠ 94 → I' m = I m
theorem s_trace (hP : P 92 0 = 93) (hP1 : P 92 1 = 94) (hT : TO P o 120) (ho : o + 5 < 85) (h4o : 4 < o) (ha : a.length ≤ 60) (hb : b.length ≤ 120) {I : mI} {kn : Bool} (hk : I 92 4 = bI kn) (hkn : kn = true → PT I a b) (h5 : I o 5 = nI b.length) (hca : Rc (I 4) 0 a) (hcb : Rc (I (o + 1)) 0 b)
    (h : ∀ I', FrPt I I' → PT I' a b → I' 92 4 = bI true → Q (nI 0) I' P) : V E (d + 2) m_Patch_trace 112 Q 0 [some (.inr 92), some (.inr 4), some (.inl (nI a.length)), some (.inr o)] [] 112 I P := by
  refine x_Patch_trace_0 _ _ _ _ ⟨k92, ?_⟩
  rw [hk]
  refine bn_i (fun c => h I (fun _ _ _ _ => rfl) (hkn c) (by rw [hk, c])) (fun c => pk_lt 60 a.length (fun q => by omega) (fun _ => ⟨hT.1, ?_⟩))
  rw [h5]
  refine pk_le b.length 120 (fun _ => ⟨k92, ?_⟩) (fun q => by omega)
  refine s_weigh hP hT ho h4o ha hb h5 hca hcb (fun I1 f1 D1 => ⟨k92, ?_⟩)
  refine s_walk hP hP1 hT ho h4o ha hb (by rw [f1 o (by omega)]; exact h5) (by rw [f1 4 (by omega)]; exact hca) (by rw [f1 (o + 1) (by omega)]; exact hcb) D1 (fun I2 f2 w1 w2 w3 => ⟨k92, rfl, rfl, ?_⟩)
  refine h _ (fun m h92 h93 h94 => ?_) ⟨?_, ?_, ?_⟩ ?_
  · rw [uI_n h92, f2 m h92 h94, f1 m h93]
  · rw [uI_o (by decide)]; exact w1
  · rw [uI_n (by decide)]; exact w2
  · rw [uI_o (by decide)]; exact w3
  · rw [uI_s]; rfl
end WK
end
section
/-! The steps as the document tells them. -/
section ST
variable {E : XE} {d : Nat} {Q : Int32 → mI → mP → Prop} {P : mP} {a b : List Int32}
/-- the answer of step: the one asked for, or -1 -/
def sta (l : List Int32) (n : Nat) (w : Int32) : Int32 → Prop := fun v => (∃ k x, w = nI (n + k) ∧ l[k]? = some x ∧ v = x) ∨ (v = -(nI 1) ∧ ∀ k, k < l.length → w ≠ nI (n + k))
theorem sta_c {l : List Int32} {n : Nat} {w v y : Int32} (hw : w ≠ nI n) (h : sta l (n + 1) w v) : sta (y :: l) n w v := by
  rcases h with ⟨k, x, h1, h2, h3⟩ | ⟨h1, h2⟩
  · exact Or.inl ⟨k + 1, x, by rw [h1]; congr 1; omega, by simpa using h2, h3⟩
  · refine Or.inr ⟨h1, fun k hk => ?_⟩
    cases k with
    | zero => exact hw
    | succ k =>
      have := h2 k (by simpa using hk)
      rw [show n + (k + 1) = n + 1 + k by omega]
      exact this
theorem l_step (hM : MO P) (ha : a.length ≤ 60) (hb : b.length ≤ 120) {I : mI} {w : Int32} (h3 : I 95 3 = nI a.length) (h2 : I 95 2 = nI b.length) (hca : Rc (I 96) 128 a) (hcb : Rc (I 96) 0 b) (hD : DT (I 111) a b 0 0) : ∀ (f i j n : Nat), (a.length - i) + (b.length - j) ≤ f → i ≤ a.length → j ≤ b.length → (∀ v, sta (stp a b f i j) n w v → Q v I P) → V E (d + 1) m_Model_step 112 Q 11 [some (.inr 95), some (.inl w), some (.inl (nI i)), some (.inl (nI j)), some (.inl (nI n)), none, none, none] [] 112 I P := by
  have hM' := hM
  obtain ⟨p0, -, -, -, -, -, -, -, -, -, -, -, -, -, -, p25⟩ := hM'
  have out : ∀ (f i j n : Nat), a.length ≤ i → b.length ≤ j → (∀ v, sta (stp a b f i j) n w v → Q v I P) → Q (-(nI 1)) I P := by
    intro f i j n hi hj h
    refine h _ (Or.inr ⟨rfl, fun k hk => ?_⟩)
    exfalso
    cases f with
    | zero => exact absurd hk (by simp [stp])
    | succ f =>
      rw [stp_s, gno hi, gno hj] at hk
      exact absurd hk (by simp)
  intro f
  induction f with
  | zero =>
    intro i j n hf hi hj h
    refine x_Model_step_11 _ _ _ _ _ ⟨k95, ?_⟩
    rw [h3, h2]
    exact pk_lt i a.length (fun q => by omega) (fun q => ⟨k95, pk_le b.length j (fun q2 => out 0 i j n q q2 h) (fun q2 => by omega)⟩)
  | succ f ih =>
    intro i j n hf hi hj h
    have hij : 121 * i + j < 7381 := by omega
    have hin : vp_in (nI (121 * i + j)) 7381 := vp_in_nI hij (by decide)
    have e0 : I 111 (121 * i + j) = nI (wv a b i j) := hD i j hi hj (by omega)
    -- the choice is made: keep, drop
    have s219 : ∀ (y : Int32) (i' j' : Nat) (kd dd : Bool), stp a b (f + 1) i j = y :: stp a b f i' j' → w ≠ nI n → i' ≤ a.length → j' ≤ b.length → (a.length - i') + (b.length - j') ≤ f → (i' = if kd || dd then i + 1 else i) → (j' = if dd then j else j + 1) → V E (d + 1) m_Model_step 112 Q 201 [some (.inr 95), some (.inl w), some (.inl (nI i)), some (.inl (nI j)), some (.inl (nI n)), none, some (.inl (bI kd)), some (.inl (bI dd))] [] 112 I P := by
      intro y i' j' kd dd e hw hi' hj' hf' ei ej
      have fin : V E (d + 1) m_Model_step 112 Q 219 [some (.inr 95), some (.inl w), some (.inl (nI i')), some (.inl (nI j)), some (.inl (nI n)), none, none, some (.inl (bI dd))] [] 112 I P := by
        have g := ih i' j' (n + 1) hf' hi' hj' (fun v hv => h v (by rw [e]; exact sta_c hw hv))
        refine x_Model_step_219 _ _ _ _ _ _ (bz_i (fun c => ?_) (fun c => ?_))
        · rw [n1, n1]
          subst c
          rw [if_neg (by decide)] at ej
          subst ej
          exact g
        · rw [n1]
          subst c
          rw [if_pos rfl] at ej
          subst ej
          rw [nI_add]
          exact g
      refine x_Model_step_201 _ _ _ _ _ _ _ (bn_i (fun c => ?_) (fun c => bz_i (fun c2 => ?_) (fun c2 => ?_)))
      · subst c
        rw [Bool.true_or, if_pos rfl] at ei
        subst ei
        rw [n1]
        exact fin
      · subst c
        subst c2
        rw [if_neg (by decide)] at ei
        subst ei
        rw [nI_add]
        exact fin
      · subst c
        subst c2
        rw [if_pos (by decide)] at ei
        subst ei
        rw [n1]
        exact fin
    have hit : ∀ (y : Int32) (l : List Int32), stp a b (f + 1) i j = y :: l → nI n = w → Q y I P := by
      intro y l e hw
      refine h y (Or.inl ⟨0, y, hw.symm, ?_, rfl⟩)
      rw [e]
      rfl
    have s144 : ∀ (kd dd : Bool) (y : Int32) (i' j' : Nat), stp a b (f + 1) i j = y :: stp a b f i' j' → i' ≤ a.length → j' ≤ b.length → (a.length - i') + (b.length - j') ≤ f → (i' = if kd || dd then i + 1 else i) → (j' = if dd then j else j + 1) → (kd = true → j < b.length ∧ y = nI 1000 + I 96 j) → (kd = false → dd = true → i < a.length ∧ y = nI 2000 + I 96 (128 + i)) → (kd = false → dd = false → j < b.length ∧ y = nI 3000 + I 96 j) → V E (d + 1) m_Model_step 112 Q 144 [some (.inr 95), some (.inl w), some (.inl (nI i)), some (.inl (nI j)), some (.inl (nI n)), none, some (.inl (bI kd)), some (.inl (bI dd))] [] 112 I P := by
      intro kd dd y i' j' e hi' hj' hf' ei ej hk hd hn
      refine x_Model_step_144 _ _ _ _ _ _ _ ⟨fun c => s219 y i' j' kd dd e (fun hh => c hh.symm) hi' hj' hf' ei ej, fun c => bz_i (fun c1 => bz_i (fun c2 => ?_) (fun c2 => ?_)) (fun c1 => ?_)⟩
      · simp only [k95, p0, k96, nzl 96 (by decide), true_and]
        have hh := hn c1 c2
        refine ⟨vp_in_nI (by omega) (by decide), ?_⟩
        rw [clp (by omega), ← hh.2]
        exact hit y _ e c
      · simp only [k95, p0, k96, nzl 96 (by decide), true_and]
        have hh := hd c1 c2
        rw [nI_add 128 i]
        refine ⟨vp_in_nI (by omega) (by decide), ?_⟩
        rw [clp (by omega), ← hh.2]
        exact hit y _ e c
      · simp only [k95, p0, k96, nzl 96 (by decide), true_and]
        have hh := hk c1
        refine ⟨vp_in_nI (by omega) (by decide), ?_⟩
        rw [clp (by omega), ← hh.2]
        exact hit y _ e c
    have s103n : (i < a.length ∨ j < b.length) → (∀ x y, a[i]? = some x → b[j]? = some y → x ≠ y) → V E (d + 1) m_Model_step 112 Q 103 [some (.inr 95), some (.inl w), some (.inl (nI i)), some (.inl (nI j)), some (.inl (nI n)), some (.inl (nI (wv a b i j))), some (.inl (bI false)), none] [] 112 I P := by
      intro hor hne
      have ins : j < b.length → (∀ y, b[j]? = some y → stp a b (f + 1) i j = (nI 3000 + y) :: stp a b f i (j + 1)) → V E (d + 1) m_Model_step 112 Q 144 [some (.inr 95), some (.inl w), some (.inl (nI i)), some (.inl (nI j)), some (.inl (nI n)), none, some (.inl (bI false)), some (.inl (bI false))] [] 112 I P := by
        intro hj2 e
        obtain ⟨y, hy, -⟩ := drop_c (s := b) (p := j) hj2
        refine s144 false false (nI 3000 + y) i (j + 1) (e y hy) hi (by omega) (by omega) rfl rfl (fun c => by cases c) (fun _ c => by cases c) (fun _ _ => ⟨hj2, by rw [hcb.at0 hy]⟩)
      refine x_Model_step_103 _ _ _ _ _ _ _ (bn_i (fun c => by cases c) (fun _ => ⟨k95, ?_⟩))
      rw [h3]
      refine pk_le a.length i (fun q => ins (by omega) (fun y hy => by rw [stp_s, gno q, hy])) (fun q => ?_)
      obtain ⟨x, hx, -⟩ := drop_c (s := a) (p := i) q
      simp only [k95, p25, k111, nzl 111 (by decide), true_and]
      have e1 := hD (i + 1) j (by omega) hj (by omega)
      have b1 := wv_b a b i j
      have b2 := wv_b a b (i + 1) j
      rw [mxn, nI_add (121 * i) 121, nI_add (121 * i + 121) j, clp (show 121 * i + 121 + j < 2 ^ 31 by omega), show 121 * i + 121 + j = 121 * (i + 1) + j by omega, e1, n1, nI_eq (by omega) (by omega)]
      refine ⟨vp_in_nI (by omega) (by decide), fun c => ?_, fun c => ?_⟩
      · have hjl : j < b.length := by
          apply Classical.byContradiction
          intro hc
          rw [wv_m (by omega), wv_m (by omega)] at c
          omega
        refine ins hjl (fun y hy => ?_)
        rw [stp_s, hx, hy]
        have c' : ¬ wv a b i j = 1 + wv a b (i + 1) j := by omega
        simp only [if_neg (hne x y hx hy), if_neg c']
      · refine s144 false true (nI 2000 + x) (i + 1) j ?_ (by omega) hj (by omega) rfl rfl (fun c => by cases c) (fun _ _ => ⟨q, by rw [hca i x hx]⟩) (fun _ c => by cases c)
        rw [stp_s, hx]
        have c' : wv a b i j = 1 + wv a b (i + 1) j := by omega
        cases hb' : b[j]? with
        | none => rfl
        | some y => simp only [if_neg (hne x y hx hb'), if_pos c']
    have cmp : (i < a.length ∨ j < b.length) → kk 112 95 = (0, 6) ∧ P 95 25 ≠ 0 ∧ (kk 112 (P 95 25)).1 = 1 ∧ vp_in (((nI 121) * nI i) + nI j) (kk 112 (P 95 25)).2 ∧ kk 112 95 = (0, 6) ∧ (nI a.length ≤ nI i → V E (d + 1) m_Model_step 112 Q 103 [some (.inr 95), some (.inl w), some (.inl (nI i)), some (.inl (nI j)), some (.inl (nI n)), some (.inl (I (P 95 25) (((nI 121) * nI i) + nI j).toNatClampNeg)), some (.inl (nI 0)), none] [] 112 I P) ∧ (¬ nI a.length ≤ nI i → kk 112 95 = (0, 6) ∧ (nI b.length ≤ nI j → V E (d + 1) m_Model_step 112 Q 103 [some (.inr 95), some (.inl w), some (.inl (nI i)), some (.inl (nI j)), some (.inl (nI n)), some (.inl (I (P 95 25) (((nI 121) * nI i) + nI j).toNatClampNeg)), some (.inl (nI 0)), none] [] 112 I P) ∧ (¬ nI b.length ≤ nI j → kk 112 95 = (0, 6) ∧ P 95 0 ≠ 0 ∧ (kk 112 (P 95 0)).1 = 1 ∧ vp_in ((nI 128) + nI i) (kk 112 (P 95 0)).2 ∧ kk 112 95 = (0, 6) ∧ P 95 0 ≠ 0 ∧ (kk 112 (P 95 0)).1 = 1 ∧ vp_in (nI j) (kk 112 (P 95 0)).2 ∧ (¬ (I (P 95 0) ((nI 128) + nI i).toNatClampNeg) = (I (P 95 0) (nI j).toNatClampNeg) → V E (d + 1) m_Model_step 112 Q 103 [some (.inr 95), some (.inl w), some (.inl (nI i)), some (.inl (nI j)), some (.inl (nI n)), some (.inl (I (P 95 25) (((nI 121) * nI i) + nI j).toNatClampNeg)), some (.inl (nI 0)), none] [] 112 I P) ∧ ((I (P 95 0) ((nI 128) + nI i).toNatClampNeg) = (I (P 95 0) (nI j).toNatClampNeg) → kk 112 95 = (0, 6) ∧ P 95 25 ≠ 0 ∧ (kk 112 (P 95 25)).1 = 1 ∧ vp_in (((((nI 121) * nI i) + (nI 121)) + nI j) + (nI 1)) (kk 112 (P 95 25)).2 ∧ (¬ (I (P 95 25) (((((nI 121) * nI i) + (nI 121)) + nI j) + (nI 1)).toNatClampNeg) = (I (P 95 25) (((nI 121) * nI i) + nI j).toNatClampNeg) → V E (d + 1) m_Model_step 112 Q 103 [some (.inr 95), some (.inl w), some (.inl (nI i)), some (.inl (nI j)), some (.inl (nI n)), some (.inl (I (P 95 25) (((nI 121) * nI i) + nI j).toNatClampNeg)), some (.inl (nI 0)), none] [] 112 I P) ∧ ((I (P 95 25) (((((nI 121) * nI i) + (nI 121)) + nI j) + (nI 1)).toNatClampNeg) = (I (P 95 25) (((nI 121) * nI i) + nI j).toNatClampNeg) → V E (d + 1) m_Model_step 112 Q 103 [some (.inr 95), some (.inl w), some (.inl (nI i)), some (.inl (nI j)), some (.inl (nI n)), some (.inl (I (P 95 25) (((nI 121) * nI i) + nI j).toNatClampNeg)), some (.inl (nI 1)), none] [] 112 I P)))) := by
      intro hor
      simp only [k95, p25, k111, p0, k96, nzl 111 (by decide), nzl 96 (by decide), true_and]
      rw [mxn, nI_add (121 * i) j, clp (show 121 * i + j < 2 ^ 31 by omega), e0]
      refine ⟨hin, pk_le a.length i (fun q => s103n hor (fun x y hx _ => by rw [gno q] at hx; cases hx)) (fun q => pk_le b.length j (fun q2 => s103n hor (fun x y _ hy => by rw [gno q2] at hy; cases hy)) (fun q2 => ?_))⟩
      obtain ⟨x, hx, -⟩ := drop_c (s := a) (p := i) q
      obtain ⟨y, hy, -⟩ := drop_c (s := b) (p := j) q2
      have e3 := hD (i + 1) (j + 1) (by omega) (by omega) (by omega)
      have he := wv_e hx hy
      rw [nI_add 128 i, clp (show 128 + i < 2 ^ 31 by omega), clp (show j < 2 ^ 31 by omega), hca i x hx, hcb.at0 hy, nI_add (121 * i) 121, nI_add (121 * i + 121) j, nI_add (121 * i + 121 + j) 1, clp (show 121 * i + 121 + j + 1 < 2 ^ 31 by omega)]
      rw [show 121 * i + 121 + j + 1 = 121 * (i + 1) + (j + 1) by omega, e3]
      refine ⟨vp_in_nI (by omega) (by decide), vp_in_nI (by omega) (by decide), fun c => s103n hor (fun x' y' hx' hy' => ?_), fun c => ?_⟩
      · rw [hx] at hx'
        rw [hy] at hy'
        cases hx'
        cases hy'
        exact c
      · rw [if_pos c] at he
        rw [he]
        refine ⟨vp_in_nI (by omega) (by decide), fun c2 => absurd rfl c2, fun _ => ?_⟩
        refine x_Model_step_103 _ _ _ _ _ _ _ ⟨fun _ => ?_, fun c2 => absurd c2 (by decide)⟩
        exact s144 true false (nI 1000 + x) (i + 1) (j + 1) (by rw [stp_s, hx, hy]; simp only [if_pos c]) (by omega) (by omega) (by omega) rfl rfl (fun _ => ⟨q2, by rw [hcb.at0 hy, c]⟩) (fun c => by cases c) (fun c => by cases c)
    refine x_Model_step_11 _ _ _ _ _ ⟨k95, ?_⟩
    rw [h3, h2]
    exact pk_lt i a.length (fun q => cmp (Or.inl q)) (fun q => ⟨k95, pk_le b.length j (fun q2 => out (f + 1) i j n q q2 h) (fun q2 => cmp (Or.inr q2))⟩)
theorem s_step (hM : MO P) (ha : a.length ≤ 60) (hb : b.length ≤ 120) {I : mI} {w : Int32} (h3 : I 95 3 = nI a.length) (h2 : I 95 2 = nI b.length) (hca : Rc (I 96) 128 a) (hcb : Rc (I 96) 0 b)
    (h : ∀ I' v, (∀ m, m ≠ 111 → I' m = I m) → sta (stps a b) 0 w v → Q v I' P) : V E (d + 1) m_Model_step 112 Q 0 [some (.inr 95), some (.inl w), none, none, none, none, none, none] [] 112 I P := by
  refine x_Model_step_0 _ _ ⟨k95, s_compare hM ha hb h3 h2 hca hcb (fun I' f1 D1 => ?_)⟩
  exact l_step hM ha hb (by rw [f1 95 (by decide)]; exact h3) (by rw [f1 95 (by decide)]; exact h2) (by rw [f1 96 (by decide)]; exact hca) (by rw [f1 96 (by decide)]; exact hcb) D1 (a.length + b.length) 0 0 0 (by omega) (by omega) (by omega) (fun v hv => h I' v f1 hv)
theorem s_distance (hM : MO P) (ha : a.length ≤ 60) (hb : b.length ≤ 120) {I : mI} (h3 : I 95 3 = nI a.length) (h2 : I 95 2 = nI b.length) (hca : Rc (I 96) 128 a) (hcb : Rc (I 96) 0 b)
    (h : ∀ I', (∀ m, m ≠ 111 → I' m = I m) → Q (nI (wv a b 0 0)) I' P) : V E (d + 1) m_Model_distance 112 Q 0 [some (.inr 95)] [] 112 I P := by
  refine x_Model_distance_0 _ ⟨k95, s_compare hM ha hb h3 h2 hca hcb (fun I' f1 D1 => ?_)⟩
  have hM' := hM
  obtain ⟨p0, -, -, -, -, -, -, -, -, -, -, -, -, -, -, p25⟩ := hM'
  simp only [k95, p25, k111, nzl 111 (by decide), true_and]
  rw [clp (show 0 < 2 ^ 31 by decide), show I' 111 0 = nI (wv a b 0 0) from D1 0 0 (by omega) (by omega) (by omega)]
  exact ⟨vp_in_nI (by decide) (by decide), h I' f1⟩
end ST
end
section
/-! Operations of the class's texts. -/
def sub (l : List Int32) (a b : Nat) : List Int32 := (l.drop a).take (b - a)
theorem sub_len {l : List Int32} {a b : Nat} (h : b ≤ l.length) : (sub l a b).length = b - a := by
  unfold sub
  rw [List.length_take, List.length_drop]
  omega
theorem sub_nil {l : List Int32} {a b : Nat} (h : b ≤ a) : sub l a b = [] := by
  unfold sub
  rw [show b - a = 0 by omega]
  rfl
theorem sub_at {l : List Int32} {a b j : Nat} {x : Int32} (h : (sub l a b)[j]? = some x) : l[a + j]? = some x ∧ j < b - a := by
  unfold sub at h
  by_cases hj : j < b - a
  · rw [List.getElem?_take_of_lt hj, List.getElem?_drop] at h
    exact ⟨h, hj⟩
  · rw [List.getElem?_take_eq_none (by omega)] at h
    cases h
theorem Rc.cpy {f g : Nat → Int32} {s s' : List Int32} {a b : Nat} (h : Rc g 0 s) (h' : Rc f 0 s') : Rc (va_cpy f g a s.length (b - a)) 0 (s ++ sub s' a b) := by
  intro j x hx
  by_cases hj : j < s.length
  · rw [List.getElem?_append_left hj] at hx
    rw [pk_cpy_out (by omega)]
    exact h j x hx
  · rw [List.getElem?_append_right (by omega)] at hx
    obtain ⟨h1, h2⟩ := sub_at hx
    rw [pk_cpy_in (by omega) (by omega)]
    have := h' _ x h1
    rw [show a + (0 + j - s.length) = 0 + (a + (j - s.length)) by omega]
    exact this
theorem TR.fr {I I' : mI} {o : Nat} {A : List (Nat × Nat × Nat)} (h : TR I o A) (h0 : I' o 6 = I o 6) (h3 : I' (o + 3) = I (o + 3)) (h4 : I' (o + 4) = I (o + 4)) (h5 : I' (o + 5) = I (o + 5)) : TR I' o A := by
  refine ⟨h0.trans h.1, fun t k a b e => ?_⟩
  rw [h3, h4, h5]
  exact h.2 t k a b e
theorem TXT.fr {I I' : mI} {o : Nat} {s mk : List Int32} {A : List (Nat × Nat × Nat)} (h : TXT I o s mk A) (hf : ∀ m, o ≤ m → m ≤ o + 5 → I' m = I m) : TXT I' o s mk A := by
  obtain ⟨h1, h2, h3, h4, h5⟩ := h
  refine ⟨by rw [hf o (by omega) (by omega)]; exact h1, by rw [hf (o + 1) (by omega) (by omega)]; exact h2, h3, by rw [hf (o + 2) (by omega) (by omega)]; exact h4, h5.fr ?_ ?_ ?_ ?_⟩
  · rw [hf o (by omega) (by omega)]
  · rw [hf (o + 3) (by omega) (by omega)]
  · rw [hf (o + 4) (by omega) (by omega)]
  · rw [hf (o + 5) (by omega) (by omega)]
theorem FrK.rf {o : Nat} {I : mI} : FrK o I I := fun _ _ => rfl
theorem FrK.tr {o : Nat} {I I' I'' : mI} (h : FrK o I I') (h' : FrK o I' I'') : FrK o I I'' := fun m hm => (h' m hm).trans (h m hm)
/-- the two texts lie apart -/
def apt (o o' : Nat) : Prop := o + 5 < o' ∨ o' + 5 < o
theorem FrK.txt {I I' : mI} {o o' : Nat} {s mk : List Int32} {A : List (Nat × Nat × Nat)} (h : FrK o I I') (ha : apt o o') (hx : TXT I o' s mk A) : TXT I' o' s mk A := hx.fr (fun m h1 h2 => h m (by unfold apt at ha; omega))
section OP
variable {E : XE} {d : Nat} {Q : Int32 → mI → mP → Prop} {P : mP} {o o' N N' : Nat} {s mk s' mk' : List Int32} {A A' : List (Nat × Nat × Nat)}
theorem s_appendCharacters (hT : TO P o N) (hT' : TO P o' N') (hN : N < 2 ^ 20) (hN' : N' < 2 ^ 20) (hap : apt o o') {I : mI} (hx : TXT I o s mk A) (hx' : TXT I o' s' mk' A') (hs' : s'.length ≤ N') {a b : Nat} (hab : a ≤ b) (hb : b ≤ s'.length) (hr : s.length + (b - a) ≤ N) (h : ∀ I', FrK o I I' → TXT I' o (s ++ sub s' a b) (mk ++ sub mk' a b) A → Q (nI 0) I' P) : V E (d + 1) m_Text_appendCharacters 112 Q 0 [some (.inr o), some (.inr o'), some (.inl (nI a)), some (.inl (nI b)), none] [] 112 I P := by
  obtain ⟨t0, ⟨p0, k0⟩, ⟨p1, k1⟩, -⟩ := hT
  obtain ⟨t0', ⟨p0', k0'⟩, ⟨p1', k1'⟩, -⟩ := hT'
  have hxx := hx
  obtain ⟨h5, hc, hm, hk, hA⟩ := hx
  obtain ⟨h5', hc', hm', hk', hA'⟩ := hx'
  unfold apt at hap
  refine x_Text_appendCharacters_0 _ _ _ _ ?_
  rw [pk_sub hab]
  refine pk_le (b - a) 0 (fun q => ?_) (fun q => ?_)
  · refine h I FrK.rf ?_
    rw [sub_nil (by omega), sub_nil (by omega), List.append_nil, List.append_nil]
    exact hxx
  · simp only [t0, t0', p0, p1, p0', p1', k0, k1, k0', k1', nzz 1 (by decide), nzz 2 (by decide), true_and]
    have e1 : ∀ f, sI I (o + 1) f o = I o := fun f => sI_n (by omega)
    rw [e1, sI_n (show o ≠ o + 2 by omega), e1, h5, nI_add, clp (show a < 2 ^ 31 by omega), clp (show b - a < 2 ^ 31 by omega), clp (show s.length < 2 ^ 31 by omega), sI_n (show o' + 2 ≠ o + 1 by omega), sI_n (show o + 2 ≠ o + 1 by omega)]
    refine ⟨by decide, by decide, pk_le (s.length + (b - a)) N (fun _ => ?_) (fun q2 => by omega)⟩
    refine ⟨nI_pos (by omega), nI_pos (by omega), nI_pos (by omega), by omega, by omega, nI_pos (by omega), nI_pos (by omega), nI_pos (by omega), by omega, by omega, ?_⟩
    refine h _ (fun m hm => ?_) ⟨?_, ?_, ?_, ?_, ?_⟩
    · rw [uI_n (by omega), sI_n (by omega), sI_n (by omega)]
    · rw [uI_s, List.length_append, sub_len hb]
    · rw [uI_n (by omega), sI_n (by omega), sI_s]
      exact hc.cpy hc'
    · rw [List.length_append, List.length_append, hm, sub_len hb, sub_len (by omega)]
    · rw [uI_n (by omega), sI_s, ← hm]
      exact hk.cpy hk'
    · refine hA.fr ?_ ?_ ?_ ?_
      · rw [uI_o (by decide), sI_n (by omega), sI_n (by omega)]
      · rw [uI_n (by omega), sI_n (by omega), sI_n (by omega)]
      · rw [uI_n (by omega), sI_n (by omega), sI_n (by omega)]
      · rw [uI_n (by omega), sI_n (by omega), sI_n (by omega)]
theorem s_spanSize (hT : TO P o N) (hN : N < 2 ^ 20) {I : mI} (hA : TR I o A) (hl : A.length ≤ N) {f b : Nat} (hfb : f < b) (hb : b ≤ A.length) (h2 : tst A f ≤ ten A (b - 1)) (h : Q (nI (ten A (b - 1) - tst A f)) I P) : V E d m_Text_spanSize 112 Q 0 [some (.inr o), some (.inl (nI f)), some (.inl (nI b))] [] 112 I P := by
  obtain ⟨t0, -, -, -, ⟨p3, k3⟩, ⟨p4, k4⟩⟩ := hT
  refine x_Text_spanSize_0 _ _ _ ⟨fun q => absurd q (nI_pos (by omega)), fun _ => pk_le b f (fun q => by omega) (fun _ => ⟨t0, ?_⟩)⟩
  rw [hA.1]
  refine pk_lt A.length b (fun q => by omega) (fun _ => ?_)
  simp only [t0, p3, k3, p4, k4, nzz 4 (by decide), nzz 5 (by decide), true_and]
  rw [pk_sub (show 1 ≤ b by omega), clp (show b - 1 < 2 ^ 31 by omega), clp (show f < 2 ^ 31 by omega), (hA.st (show b - 1 < A.length by omega)).2, (hA.st (show f < A.length by omega)).1, pk_sub h2]
  exact ⟨vp_in_nI (by omega) (by omega), vp_in_nI (by omega) (by omega), h⟩
/-- tokens f .. b - 1, moved from place st to place n -/
def shf (A : List (Nat × Nat × Nat)) (f b n : Nat) : List (Nat × Nat × Nat) := ((A.drop f).take (b - f)).map (fun q => (q.1, q.2.1 + n - tst A f, q.2.2 + n - tst A f))
theorem sub3 {a b c : Nat} (h : c ≤ a + b) : nI a + (nI b - nI c) = nI (a + b - c) := by
  rw [← pk_sub h, ← nI_add, Int32.sub_eq_add_neg, Int32.sub_eq_add_neg, Int32.add_assoc]
theorem l_appendSpan (hT : TO P o N) (hT' : TO P o' N') (hN : N < 2 ^ 20) (hN' : N' < 2 ^ 20) (hap : apt o o') (hl : A'.length ≤ N') {f b : Nat} (hfb : f < b) (hb : b ≤ A'.length) (hst : ∀ q ∈ A', q.2.1 < 2 ^ 20 ∧ q.2.2 < 2 ^ 20) {n : Nat} (hn : n < 2 ^ 20) (hge : ∀ t k a e, f ≤ t → A'[t]? = some (k, a, e) → tst A' f ≤ a ∧ tst A' f ≤ e) : ∀ (m t : Nat) (A1 : List (Nat × Nat × Nat)) (I : mI), b - t = m → f ≤ t → t ≤ b → A1.length + (b - t) ≤ N → TR I o A1 → TR I o' A' →
    (∀ I', FrT o I I' → TR I' o (A1 ++ ((A'.drop t).take (b - t)).map (fun q => (q.1, q.2.1 + n - tst A' f, q.2.2 + n - tst A' f))) → V E (d + 1) m_Text_appendSpan 112 Q 121 [some (.inr o), some (.inr o'), some (.inl (nI f)), some (.inl (nI b)), none, none, none] [] 112 I' P) → V E (d + 1) m_Text_appendSpan 112 Q 45 [some (.inr o), some (.inr o'), some (.inl (nI f)), some (.inl (nI b)), none, some (.inl (nI n - nI (tst A' f))), some (.inl (nI t))] [] 112 I P := by
  obtain ⟨t0, -, -, ⟨p2, k2⟩, ⟨p3, k3⟩, ⟨p4, k4⟩⟩ := hT
  obtain ⟨t0', -, -, ⟨p2', k2'⟩, ⟨p3', k3'⟩, ⟨p4', k4'⟩⟩ := hT'
  unfold apt at hap
  intro m
  induction m with
  | zero =>
    intro t A1 I hm h1 h2 hr hA1 hA' h
    refine x_Text_appendSpan_45 _ _ _ _ _ _ (pk_le b t (fun _ => ?_) (fun q => by omega))
    rw [show b - t = 0 by omega] at h
    refine h I FrT.rf ?_
    simpa using hA1
  | succ m ih =>
    intro t A1 I hm h1 h2 hr hA1 hA' h
    have htl : t < A'.length := by omega
    obtain ⟨⟨k, a, e⟩, hq⟩ : ∃ q, A'[t]? = some q := ⟨_, List.getElem?_eq_getElem htl⟩
    have hmem : (k, a, e) ∈ A' := List.mem_of_getElem? hq
    have hae := hst _ hmem
    dsimp only at hae
    have hg := hge t k a e h1 hq
    obtain ⟨r1, r2, r3⟩ := hA'.2 t k a e hq
    refine x_Text_appendSpan_45 _ _ _ _ _ _ (pk_le b t (fun q => by omega) (fun _ => ?_))
    simp only [t0, t0', p2, k2, p2', k2', nzz 3 (by decide), true_and]
    rw [hA1.1, clp (show t < 2 ^ 31 by omega), clp (show A1.length < 2 ^ 31 by omega), r1]
    refine ⟨vp_in_nI (by omega) (by omega), vp_in_nI (by omega) (by omega), x_Text_appendSpan_67 _ _ _ _ _ _ ?_⟩
    simp only [t0, t0', p3, k3, p3', k3', nzz 4 (by decide), true_and]
    rw [uI_n (show o ≠ o + 3 by omega), hA1.1, clp (show t < 2 ^ 31 by omega), clp (show A1.length < 2 ^ 31 by omega), uI_n (show o' + 4 ≠ o + 3 by omega), r2, sub3 (by omega)]
    refine ⟨vp_in_nI (by omega) (by omega), vp_in_nI (by omega) (by omega), x_Text_appendSpan_86 _ _ _ _ _ _ ?_⟩
    simp only [t0, t0', p4, k4, p4', k4', nzz 5 (by decide), true_and]
    rw [uI_n (show o ≠ o + 4 by omega), uI_n (show o ≠ o + 3 by omega), hA1.1, clp (show t < 2 ^ 31 by omega), clp (show A1.length < 2 ^ 31 by omega), uI_n (show o' + 5 ≠ o + 4 by omega), uI_n (show o' + 5 ≠ o + 3 by omega), r3, sub3 (by omega)]
    refine ⟨vp_in_nI (by omega) (by omega), vp_in_nI (by omega) (by omega), x_Text_appendSpan_105 _ _ _ _ _ _ ⟨t0, t0, ?_⟩⟩
    rw [uI_n (show o ≠ o + 5 by omega), uI_n (show o ≠ o + 4 by omega), uI_n (show o ≠ o + 3 by omega), hA1.1, n1, n1]
    have htr := ad1_tr (k := k) (a := a + n - tst A' f) (b := e + n - tst A' f) hA1
    have hfr : FrT o I (ad1 I o A1.length (nI k) (nI (a + n - tst A' f)) (nI (e + n - tst A' f))) := ad1_fr
    refine ih (t + 1) _ _ (by omega) (by omega) (by omega) (by rw [List.length_append, List.length_singleton]; omega) htr (hA'.fr ?_ ?_ ?_ ?_) (fun I' hf' hr' => h I' (hfr.tr hf') ?_)
    · exact congrFun (hfr.1 o' (by omega) (by omega) (by omega) (by omega)) 6
    · exact hfr.1 (o' + 3) (by omega) (by omega) (by omega) (by omega)
    · exact hfr.1 (o' + 4) (by omega) (by omega) (by omega) (by omega)
    · exact hfr.1 (o' + 5) (by omega) (by omega) (by omega) (by omega)
    · have e2 : (A'.drop t).take (b - t) = (k, a, e) :: (A'.drop (t + 1)).take (b - (t + 1)) := by
        rw [List.drop_eq_getElem_cons htl, show b - t = b - (t + 1) + 1 by omega, List.take_succ_cons]
        congr 1
        exact Option.some.inj ((List.getElem?_eq_getElem htl).symm.trans hq)
      rw [e2, List.map_cons]
      rw [List.append_assoc] at hr'
      exact hr'
theorem s_appendSpan (hT : TO P o N) (hT' : TO P o' N') (hN : N < 2 ^ 20) (hN' : N' < 2 ^ 20) (hap : apt o o') {I : mI} (hx : TXT I o s mk A) (hx' : TXT I o' s' mk' A') (hs' : s'.length ≤ N') (hl : A'.length ≤ N') {f b : Nat} (hfb : f < b) (hb : b ≤ A'.length) (hst : ∀ q ∈ A', q.2.1 < q.2.2 ∧ q.2.2 ≤ s'.length) (hge : ∀ t k a e, f ≤ t → A'[t]? = some (k, a, e) → tst A' f ≤ a) (hlt : tst A' f < ten A' (b - 1)) (hs : s.length + (ten A' (b - 1) - tst A' f) ≤ N) (hA : A.length + (b - f) ≤ N) (h : ∀ I', FrK o I I' → TXT I' o (s ++ sub s' (tst A' f) (ten A' (b - 1))) (mk ++ sub mk' (tst A' f) (ten A' (b - 1))) (A ++ shf A' f b s.length) → Q (nI 0) I' P) : V E (d + 2) m_Text_appendSpan 112 Q 0 [some (.inr o), some (.inr o'), some (.inl (nI f)), some (.inl (nI b)), none, none, none] [] 112 I P := by
  have hTT := hT
  have hTT' := hT'
  have hxx := hx
  have hxx' := hx'
  obtain ⟨t0, ⟨p0, k0⟩, -, -, ⟨p3, k3⟩, ⟨p4, k4⟩⟩ := hT
  obtain ⟨t0', ⟨p0', k0'⟩, -, -, ⟨p3', k3'⟩, ⟨p4', k4'⟩⟩ := hT'
  obtain ⟨h5, hc, hm, hk, hAA⟩ := hx
  obtain ⟨h5', hc', hm', hk', hAA'⟩ := hx'
  have hte : ten A' (b - 1) ≤ s'.length := by
    unfold ten
    rw [List.getElem?_eq_getElem (show b - 1 < A'.length by omega)]
    exact (hst _ (List.getElem_mem _)).2
  have hap' := hap
  unfold apt at hap'
  refine x_Text_appendSpan_0 _ _ _ _ ⟨t0', s_spanSize hTT' hN' hAA' hl hfb hb (by omega) ⟨fun q => ?_, fun _ => ?_⟩⟩
  · exact absurd ((nI_eq (a := ten A' (b - 1) - tst A' f) (b := 0) (by omega) (by omega)).mp q) (by omega)
  simp only [t0, t0', p0, k0, p3', k3', nzz 1 (by decide), nzz 4 (by decide), true_and]
  rw [h5, nI_add]
  refine ⟨by decide, by decide, pk_le (s.length + (ten A' (b - 1) - tst A' f)) N (fun _ => ⟨vp_in_nI (by omega) (by omega), ?_⟩) (fun q => by omega)⟩
  rw [clp (show f < 2 ^ 31 by omega), (hAA'.st (show f < A'.length by omega)).1]
  refine l_appendSpan hTT hTT' hN hN' hap hl hfb hb (fun q hq => by have := hst q hq; omega) (by omega) (fun t k a e h1 h2 => ⟨hge t k a e h1 h2, ?_⟩) (b - f) f A I rfl (Nat.le_refl _) (by omega) (by omega) hAA hAA' (fun I1 f1 r1 => ?_)
  · have h3 := hge t k a e h1 h2
    have h4 := (hst _ (List.mem_of_getElem? h2)).1
    dsimp only at h4
    omega
  have fK : FrK o I I1 := fun m hm => f1.1 m (by omega) (by omega) (by omega) (by omega)
  refine x_Text_appendSpan_121 _ _ _ _ ?_
  simp only [t0, t0', p3', k3', p4', k4', nzz 5 (by decide), nzz 4 (by decide), true_and]
  have x1' := fK.txt hap hxx'
  rw [pk_sub (show 1 ≤ b by omega), clp (show b - 1 < 2 ^ 31 by omega), clp (show f < 2 ^ 31 by omega), (x1'.2.2.2.2.st (show b - 1 < A'.length by omega)).2, (x1'.2.2.2.2.st (show f < A'.length by omega)).1]
  refine ⟨vp_in_nI (by omega) (by omega), vp_in_nI (by omega) (by omega), ?_⟩
  have x1 : TXT I1 o s mk (A ++ shf A' f b s.length) := by
    refine ⟨by rw [f1.2 5 (by decide)]; exact h5, by rw [f1.1 (o + 1) (by omega) (by omega) (by omega) (by omega)]; exact hc, hm, by rw [f1.1 (o + 2) (by omega) (by omega) (by omega) (by omega)]; exact hk, r1⟩
  exact s_appendCharacters hTT hTT' hN hN' hap x1 x1' hs' (by omega) hte hs (fun I2 f2 x2 => h I2 (fK.tr f2) x2)
theorem s_cutAt (hT : TO P o N) (hN : N < 2 ^ 20) {I : mI} (hx : TXT I o s mk A) (hl : A.length ≤ N) (hs : s.length ≤ N) {t : Nat} (ht : t < A.length) (hst : tst A t ≤ s.length) (h : ∀ I', FrK o I I' → TXT I' o (s.take (tst A t)) (mk.take (tst A t)) (A.take t) → Q (nI 0) I' P) : V E d m_Text_cutAt 112 Q 0 [some (.inr o), some (.inl (nI t))] [] 112 I P := by
  obtain ⟨t0, -, -, -, ⟨p3, k3⟩, -⟩ := hT
  obtain ⟨h5, hc, hm, hk, hA⟩ := hx
  refine x_Text_cutAt_0 _ _ ⟨fun q => absurd q (nI_pos (by omega)), fun _ => ⟨t0, ?_⟩⟩
  rw [hA.1]
  refine pk_le A.length t (fun q => by omega) (fun _ => ?_)
  simp only [t0, p3, k3, nzz 4 (by decide), true_and]
  rw [clp (show t < 2 ^ 31 by omega), (hA.st ht).1]
  refine ⟨vp_in_nI (by omega) (by omega), h _ (fun m hm => ?_) ⟨?_, ?_, ?_, ?_, ?_, ?_⟩⟩
  · rw [uI_n (by omega), uI_n (by omega)]
  · rw [uI_o (by decide), uI_s, List.length_take, Nat.min_eq_left hst]
  · rw [uI_n (by omega), uI_n (by omega)]
    intro j x hx
    have hj : j < tst A t := by
      have := (List.getElem?_eq_some_iff.mp hx).1
      rw [List.length_take] at this
      omega
    rw [List.getElem?_take_of_lt hj] at hx
    exact hc j x hx
  · rw [List.length_take, List.length_take, hm]
  · rw [uI_n (by omega), uI_n (by omega)]
    intro j x hx
    have hj : j < tst A t := by
      have := (List.getElem?_eq_some_iff.mp hx).1
      rw [List.length_take] at this
      omega
    rw [List.getElem?_take_of_lt hj] at hx
    exact hk j x hx
  · rw [uI_s, List.length_take, Nat.min_eq_left (by omega)]
  · intro t' k a b e
    have ht' : t' < t := by
      have := (List.getElem?_eq_some_iff.mp e).1
      rw [List.length_take] at this
      omega
    rw [List.getElem?_take_of_lt ht'] at e
    rw [uI_n (by omega), uI_n (by omega), uI_n (by omega), uI_n (by omega), uI_n (by omega), uI_n (by omega)]
    exact hA.2 t' k a b e
/-- where the space before token t begins, and where it ends -/
def spa (A : List (Nat × Nat × Nat)) (t : Nat) : Nat := match t with
  | 0 => 0
  | t + 1 => ten A t
def spe (A : List (Nat × Nat × Nat)) (n t : Nat) : Nat := if t < A.length then tst A t else n
theorem s_appendSpace (hT : TO P o N) (hT' : TO P o' N') (hN : N < 2 ^ 20) (hN' : N' < 2 ^ 20) (hap : apt o o') {I : mI} (hx : TXT I o s mk A) (hx' : TXT I o' s' mk' A') (hs' : s'.length ≤ N') (hl : A'.length ≤ N') {t : Nat} (ht : t ≤ A'.length) (hab : spa A' t ≤ spe A' s'.length t) (hb : spe A' s'.length t ≤ s'.length) (hr : s.length + (spe A' s'.length t - spa A' t) ≤ N) (h : ∀ I', FrK o I I' → TXT I' o (s ++ sub s' (spa A' t) (spe A' s'.length t)) (mk ++ sub mk' (spa A' t) (spe A' s'.length t)) A → Q (nI 0) I' P) : V E (d + 2) m_Text_appendSpace 112 Q 0 [some (.inr o), some (.inr o'), some (.inl (nI t)), none, none] [] 112 I P := by
  have hTT := hT
  have hTT' := hT'
  obtain ⟨t0, -⟩ := hT
  obtain ⟨t0', -, -, -, ⟨p3', k3'⟩, ⟨p4', k4'⟩⟩ := hT'
  have hAA' := hx'.2.2.2.2
  have fin : V E (d + 2) m_Text_appendSpace 112 Q 52 [some (.inr o), some (.inr o'), none, some (.inl (nI (spa A' t))), some (.inl (nI (spe A' s'.length t)))] [] 112 I P :=
    x_Text_appendSpace_52 _ _ _ _ ⟨t0, s_appendCharacters hTT hTT' hN hN' hap hx hx' hs' hab hb hr h⟩
  have s25 : V E (d + 2) m_Text_appendSpace 112 Q 25 [some (.inr o), some (.inr o'), some (.inl (nI t)), some (.inl (nI (spa A' t))), none] [] 112 I P := by
    refine x_Text_appendSpace_25 _ _ _ _ ⟨fun q => absurd q (nI_pos (by omega)), fun _ => ⟨t0', ?_⟩⟩
    rw [hAA'.1, hx'.1]
    refine pk_le A'.length t (fun q => ⟨t0', ?_⟩) (fun q => ?_)
    · rw [show spe A' s'.length t = s'.length by unfold spe; rw [if_neg (by omega)]] at fin
      exact fin
    · simp only [t0', p3', k3', nzz 4 (by decide), true_and]
      rw [clp (show t < 2 ^ 31 by omega), (hAA'.st q).1]
      rw [show spe A' s'.length t = tst A' t by unfold spe; rw [if_pos q]] at fin
      exact ⟨vp_in_nI (by omega) (by omega), fin⟩
  cases t with
  | zero => exact x_Text_appendSpace_0 _ _ _ ⟨fun _ => s25, fun q => absurd (show nI 0 ≤ 0 by decide) q⟩
  | succ t =>
    refine x_Text_appendSpace_0 _ _ _ (pk_le (t + 1) 0 (fun q => by omega) (fun _ => ⟨t0', ?_⟩))
    rw [hAA'.1]
    refine pk_lt A'.length (t + 1) (fun q => by omega) (fun _ => ?_)
    simp only [t0', p4', k4', nzz 5 (by decide), true_and]
    rw [pk_sub (show 1 ≤ t + 1 by omega), Nat.add_sub_cancel, clp (show t < 2 ^ 31 by omega), (hAA'.st (show t < A'.length by omega)).2]
    exact ⟨vp_in_nI (by omega) (by omega), s25⟩
end OP
end
section
/-! The other operations of texts. -/
/-- reading of an expression, token by token: what may come, how many calls are open, how many were at most -/
def ast (hol : Bool) (q n mx k : Nat) : Option (Nat × Nat × Nat) :=
  if q ≤ 1 then (if k = 1 then some (2, n, mx) else if k = 2 ∨ (k = 3 ∧ hol = true) then some (3, n, mx) else if q = 1 ∧ k = 5 ∧ 0 < n then some (3, n - 1, mx) else none)
  else (if q = 2 ∧ k = 4 then some (1, n + 1, max mx (n + 1)) else if k = 5 ∧ 0 < n then some (3, n - 1, mx) else if k = 6 ∧ 0 < n then some (0, n, mx) else none)
def rn (hol : Bool) : Nat → Nat → Nat → List Nat → Option (Nat × Nat × Nat)
  | q, n, mx, [] => some (q, n, mx)
  | q, n, mx, k :: r => match ast hol q n mx k with
    | some (q', n', mx') => rn hol q' n' mx' r
    | none => none
theorem rn_c (hol : Bool) (q n mx k : Nat) (r : List Nat) : rn hol q n mx (k :: r) = match ast hol q n mx k with
    | some (q', n', mx') => rn hol q' n' mx' r
    | none => none := rfl
theorem ast_4 {hol : Bool} {q n mx : Nat} {z : Nat × Nat × Nat} (h : ast hol q n mx 4 = some z) : q = 2 ∧ z = (1, n + 1, max mx (n + 1)) := by
  unfold ast at h
  split at h
  · simp at h
  · split at h
    · rename_i h1
      cases h
      exact ⟨h1.1, rfl⟩
    · simp at h
theorem ast_5 {hol : Bool} {q n mx : Nat} {z : Nat × Nat × Nat} (h : ast hol q n mx 5 = some z) : 0 < n ∧ z = (3, n - 1, mx) := by
  unfold ast at h
  split at h
  · simp at h
    exact ⟨h.1.2, h.2.symm⟩
  · simp at h
    exact ⟨h.1, h.2.symm⟩
theorem ast_o {hol : Bool} {q n mx k : Nat} {z : Nat × Nat × Nat} (h4 : k ≠ 4) (h5 : k ≠ 5) (h : ast hol q n mx k = some z) : z.2 = (n, mx) := by
  unfold ast at h
  split at h
  · split at h
    · cases h; rfl
    · split at h
      · cases h; rfl
      · split at h
        · omega
        · cases h
  · split at h
    · omega
    · split at h
      · omega
      · split at h
        · cases h; rfl
        · cases h
section O2
variable {E : XE} {d : Nat} {Q : Int32 → mI → mP → Prop} {P : mP} {o o' N N' : Nat} {s mk s' mk' : List Int32} {A A' : List (Nat × Nat × Nat)}
theorem l_deepestNesting (hT : TO P o N) (hN : N < 2 ^ 20) {ks : List Nat} (hk : k10 ks) (hl : ks.length ≤ N) {I : mI} (hR : KR I o ks) {hol : Bool} {q' n' mx' : Nat} : ∀ (m t q n mx : Nat), ks.length - t = m → t ≤ ks.length → n ≤ mx → mx ≤ t → rn hol q n mx (ks.drop t) = some (q', n', mx') → Q (nI mx') I P → V E (d + 1) m_Text_deepestNesting 112 Q 6 [some (.inr o), some (.inl (nI n)), some (.inl (nI mx)), some (.inl (nI t))] [] 112 I P := by
  obtain ⟨t0, -, -, ⟨p2, k2⟩, -⟩ := hT
  intro m
  induction m with
  | zero =>
    intro t q n mx hm ht hn hmx hr h
    refine x_Text_deepestNesting_6 _ _ _ _ ⟨t0, ?_⟩
    rw [hR.1]
    refine pk_le ks.length t (fun _ => ?_) (fun q => by omega)
    rw [List.drop_eq_nil_of_le (by omega)] at hr
    cases hr
    exact h
  | succ m ih =>
    intro t q n mx hm ht hn hmx hr h
    have htl : t < ks.length := by omega
    refine x_Text_deepestNesting_6 _ _ _ _ ⟨t0, ?_⟩
    rw [hR.1]
    refine pk_le ks.length t (fun q => by omega) (fun _ => ?_)
    have hq : ks[t]? = some ks[t] := List.getElem?_eq_getElem htl
    have hv := hR.2 t _ hq
    have h10 : ks[t] < 10 := hk _ (List.getElem_mem _)
    rw [List.drop_eq_getElem_cons htl, rn_c] at hr
    generalize ks[t] = k at hr hv h10
    simp only [t0, p2, k2, nzz 3 (by decide), true_and]
    rw [clp (show t < 2 ^ 31 by omega), hv, nI_eq (by omega) (by omega), nI_eq (by omega) (by omega), n1, n1]
    refine ⟨vp_in_nI (by omega) (by omega), fun c4 => ⟨vp_in_nI (by omega) (by omega), fun c5 => ?_, fun c5 => ?_⟩, fun c4 => ?_⟩
    · rw [mxx (by omega) (by omega), Nat.max_eq_left hn]
      cases ha : ast hol q n mx k with
      | none => rw [ha] at hr; cases hr
      | some z =>
        obtain ⟨q2, n2, mx2⟩ := z
        have := ast_o c4 c5 ha
        cases this
        rw [ha] at hr
        exact ih (t + 1) q2 n mx (by omega) (by omega) hn (by omega) hr h
    · subst c5
      cases ha : ast hol q n mx 5 with
      | none => rw [ha] at hr; cases hr
      | some z =>
        obtain ⟨hpos, rfl⟩ := ast_5 ha
        rw [ha] at hr
        obtain ⟨n, rfl⟩ : ∃ j, n = j + 1 := ⟨n - 1, by omega⟩
        rw [ix_add (n + 1), show ix (n + 1) = nI n from rfl, mxx (by omega) (by omega), Nat.max_eq_left (by omega)]
        exact ih (t + 1) 3 n mx (by omega) (by omega) (by omega) (by omega) hr h
    · subst c4
      cases ha : ast hol q n mx 4 with
      | none => rw [ha] at hr; cases hr
      | some z =>
        obtain ⟨-, rfl⟩ := ast_4 ha
        rw [ha] at hr
        rw [mxx (by omega) (by omega)]
        exact ih (t + 1) 1 (n + 1) (max mx (n + 1)) (by omega) (by omega) (by omega) (by omega) hr h
theorem s_deepestNesting (hT : TO P o N) (hN : N < 2 ^ 20) {ks : List Nat} (hk : k10 ks) (hl : ks.length ≤ N) {I : mI} (hR : KR I o ks) {hol : Bool} {q' n' mx' : Nat} (hr : rn hol 0 0 0 ks = some (q', n', mx')) (h : Q (nI mx') I P) : V E (d + 1) m_Text_deepestNesting 112 Q 0 [some (.inr o), none, none, none] [] 112 I P :=
  x_Text_deepestNesting_0 _ (l_deepestNesting hT hN hk hl hR ks.length 0 0 0 0 (by omega) (by omega) (by omega) (by omega) hr h)
theorem s_digitOf (hT : TO P o N) (hN : N < 2 ^ 20) {I : mI} (hx : TXT I o s mk A) (hs : s.length ≤ N) (hl : A.length ≤ N) {t : Nat} (ht : t < A.length) {x : Int32} (hc : s[tst A t + 1]? = some x) (h : Q (x - nI 48) I P) : V E d m_Text_digitOf 112 Q 0 [some (.inr o), some (.inl (nI t))] [] 112 I P := by
  obtain ⟨t0, ⟨p0, k0⟩, -, -, ⟨p3, k3⟩, -⟩ := hT
  obtain ⟨h5, hcc, hm, hk, hA⟩ := hx
  have hlt := (List.getElem?_eq_some_iff.mp hc).1
  refine x_Text_digitOf_0 _ _ ?_
  simp only [t0, p0, k0, p3, k3, nzz 1 (by decide), nzz 4 (by decide), true_and]
  rw [clp (show t < 2 ^ 31 by omega), (hA.st ht).1, n1, clp (show tst A t + 1 < 2 ^ 31 by omega), hcc.at0 hc]
  exact ⟨vp_in_nI (by omega) (by omega), vp_in_nI (by omega) (by omega), h⟩
/-- the characters of token t -/
def tkw (s : List Int32) (A : List (Nat × Nat × Nat)) (t : Nat) : Option (List Int32) := if t < A.length then some (sub s (tst A t) (ten A t)) else none
def sTk (s : List Int32) (A : List (Nat × Nat × Nat)) (t : Nat) (s' : List Int32) (A' : List (Nat × Nat × Nat)) (u : Nat) : Bool := decide (t < A.length ∧ tkw s A t = tkw s' A' u)
theorem l_sameToken (hT : TO P o N) (hT' : TO P o' N') (hN : N < 2 ^ 20) (hN' : N' < 2 ^ 20) {I : mI} (hx : TXT I o s mk A) (hx' : TXT I o' s' mk' A') (hs : s.length ≤ N) (hs' : s'.length ≤ N') (hl : A.length ≤ N) (hl' : A'.length ≤ N') {t u w : Nat} (ht : t < A.length) (hu : u < A'.length) (hw : tst A t + w ≤ s.length) (hw' : tst A' u + w ≤ s'.length) : ∀ (m p : Nat), w - p = m → p ≤ w → ((∀ j, p ≤ j → j < w → s[tst A t + j]? = s'[tst A' u + j]?) → Q (nI 1) I P) → (∀ j, p ≤ j → j < w → s[tst A t + j]? ≠ s'[tst A' u + j]? → Q (nI 0) I P) → V E d m_Text_sameToken 112 Q 64 [some (.inr o), some (.inl (nI t)), some (.inr o'), some (.inl (nI u)), some (.inl (nI w)), some (.inl (nI p))] [] 112 I P := by
  obtain ⟨t0, ⟨p0, k0⟩, -, -, ⟨p3, k3⟩, -⟩ := hT
  obtain ⟨t0', ⟨p0', k0'⟩, -, -, ⟨p3', k3'⟩, -⟩ := hT'
  obtain ⟨h5, hcc, hm, hk, hA⟩ := hx
  obtain ⟨h5', hcc', hm', hk', hA'⟩ := hx'
  intro m
  induction m with
  | zero =>
    intro p hmm hp h1 _
    exact x_Text_sameToken_64 _ _ _ _ _ _ (pk_le w p (fun _ => ⟨rfl, h1 (fun j _ _ => by omega)⟩) (fun q => by omega))
  | succ m ih =>
    intro p hmm hp h1 h0
    refine x_Text_sameToken_64 _ _ _ _ _ _ (pk_le w p (fun q => by omega) (fun _ => ?_))
    simp only [t0, p0, k0, p3, k3, t0', p0', k0', p3', k3', nzz 1 (by decide), nzz 4 (by decide), true_and]
    rw [clp (show t < 2 ^ 31 by omega), clp (show u < 2 ^ 31 by omega), (hA.st ht).1, (hA'.st hu).1, nI_add, nI_add, clp (show tst A t + p < 2 ^ 31 by omega), clp (show tst A' u + p < 2 ^ 31 by omega)]
    have e1 : s[tst A t + p]? = some s[tst A t + p] := List.getElem?_eq_getElem (by omega)
    have e2 : s'[tst A' u + p]? = some s'[tst A' u + p] := List.getElem?_eq_getElem (by omega)
    rw [hcc.at0 e1, hcc'.at0 e2, n1]
    refine ⟨vp_in_nI (by omega) (by omega), vp_in_nI (by omega) (by omega), vp_in_nI (by omega) (by omega), vp_in_nI (by omega) (by omega), fun c => ?_, fun c => ⟨rfl, ?_⟩⟩
    · refine ih (p + 1) (by omega) (by omega) (fun hh => h1 (fun j hj1 hj2 => ?_)) (fun j hj1 hj2 => h0 j (by omega) hj2)
      by_cases e : j = p
      · subst e
        rw [e1, e2, c]
      · exact hh j (by omega) hj2
    · refine h0 p (Nat.le_refl _) (by omega) ?_
      rw [e1, e2]
      intro hh
      injection hh with hh
      exact c hh
theorem sub_eq {s s' : List Int32} {a b a' b' : Nat} (hw : b - a = b' - a') (hb : b ≤ s.length) (hb' : b' ≤ s'.length) : sub s a b = sub s' a' b' ↔ ∀ j, 0 ≤ j → j < b - a → s[a + j]? = s'[a' + j]? := by
  unfold sub
  constructor
  · intro h j _ hj
    have := congrArg (fun l => l[j]?) h
    rw [List.getElem?_take_of_lt hj, List.getElem?_take_of_lt (by omega), List.getElem?_drop, List.getElem?_drop] at this
    exact this
  · intro h
    apply List.ext_getElem?
    intro j
    by_cases hj : j < b - a
    · rw [List.getElem?_take_of_lt hj, List.getElem?_take_of_lt (by omega), List.getElem?_drop, List.getElem?_drop]
      exact h j (Nat.zero_le _) hj
    · rw [List.getElem?_take_eq_none (by omega), List.getElem?_take_eq_none (by omega)]
theorem s_sameToken (hT : TO P o N) (hT' : TO P o' N') (hN : N < 2 ^ 20) (hN' : N' < 2 ^ 20) {I : mI} (hx : TXT I o s mk A) (hx' : TXT I o' s' mk' A') (hs : s.length ≤ N) (hs' : s'.length ≤ N') (hl : A.length ≤ N) (hl' : A'.length ≤ N') (hst : ∀ q ∈ A, q.2.1 < q.2.2 ∧ q.2.2 ≤ s.length) (hst' : ∀ q ∈ A', q.2.1 < q.2.2 ∧ q.2.2 ≤ s'.length) {t u : Nat} (ht : t < 2 ^ 31) (hu : u < 2 ^ 31) (h : Q (bI (sTk s A t s' A' u)) I P) : V E d m_Text_sameToken 112 Q 0 [some (.inr o), some (.inl (nI t)), some (.inr o'), some (.inl (nI u)), none, none] [] 112 I P := by
  have hTT := hT
  have hTT' := hT'
  have hxx := hx
  have hxx' := hx'
  obtain ⟨t0, ⟨p0, k0⟩, -, -, ⟨p3, k3⟩, ⟨p4, k4⟩⟩ := hT
  obtain ⟨t0', ⟨p0', k0'⟩, -, -, ⟨p3', k3'⟩, ⟨p4', k4'⟩⟩ := hT'
  obtain ⟨h5, hcc, hm, hk, hA⟩ := hx
  obtain ⟨h5', hcc', hm', hk', hA'⟩ := hx'
  have no : sTk s A t s' A' u = false → Q (nI 0) I P := fun e => by rw [e] at h; exact h
  have yes : sTk s A t s' A' u = true → Q (nI 1) I P := fun e => by rw [e] at h; exact h
  refine x_Text_sameToken_0 _ _ _ _ ⟨fun q => absurd q (nI_pos ht), fun _ => ⟨t0, ?_⟩⟩
  rw [hA.1]
  refine pk_le A.length t (fun q => ⟨rfl, no (by unfold sTk; rw [decide_eq_false]; omega)⟩) (fun q => ⟨fun q2 => absurd q2 (nI_pos hu), fun _ => ⟨t0', ?_⟩⟩)
  rw [hA'.1]
  refine pk_lt u A'.length (fun q2 => ?_) (fun q2 => ⟨rfl, no ?_⟩)
  · simp only [t0, p3, k3, p4, k4, t0', p3', k3', p4', k4', nzz 5 (by decide), nzz 4 (by decide), true_and]
    have b1 : tst A t < ten A t ∧ ten A t ≤ s.length := by
      unfold tst ten
      rw [List.getElem?_eq_getElem q]
      exact hst _ (List.getElem_mem _)
    have b2 : tst A' u < ten A' u ∧ ten A' u ≤ s'.length := by
      unfold tst ten
      rw [List.getElem?_eq_getElem q2]
      exact hst' _ (List.getElem_mem _)
    rw [clp (show t < 2 ^ 31 by omega), clp (show u < 2 ^ 31 by omega), (hA.st q).1, (hA'.st q2).1, (hA.st q).2, (hA'.st q2).2, pk_sub (by omega), pk_sub (by omega), nI_eq (by omega) (by omega)]
    refine ⟨vp_in_nI (by omega) (by omega), vp_in_nI (by omega) (by omega), vp_in_nI (by omega) (by omega), vp_in_nI (by omega) (by omega), fun c => ?_, fun c => ⟨rfl, no ?_⟩⟩
    · have hse := sub_eq (s := s) (s' := s') c b1.2 b2.2
      refine l_sameToken hTT hTT' hN hN' hxx hxx' hs hs' hl hl' q q2 (by omega) (by omega) _ 0 rfl (Nat.zero_le _) (fun hh => yes ?_) (fun j hj1 hj2 hne => no ?_)
      · unfold sTk tkw
        rw [if_pos q, if_pos q2]
        exact decide_eq_true ⟨q, by rw [hse.mpr hh]⟩
      · unfold sTk tkw
        rw [if_pos q, if_pos q2]
        apply decide_eq_false
        intro hh
        exact hne (hse.mp (Option.some.inj hh.2) j hj1 hj2)
    · unfold sTk tkw
      rw [if_pos q, if_pos q2]
      apply decide_eq_false
      intro hh
      have := congrArg List.length (Option.some.inj hh.2)
      rw [sub_len b1.2, sub_len b2.2] at this
      exact c this
  · unfold sTk tkw
    rw [if_pos q, if_neg (by omega)]
    apply decide_eq_false
    intro hh
    cases hh.2
theorem l_sameTokens (hT : TO P o N) (hN : N < 2 ^ 20) {I : mI} (hx : TXT I o s mk A) (hs : s.length ≤ N) (hl : A.length ≤ N) (hst : ∀ q ∈ A, q.2.1 < q.2.2 ∧ q.2.2 ≤ s.length) {t u c : Nat} (ht : t < 2 ^ 20) (hu : u < 2 ^ 20) (hc : c < 2 ^ 20) : ∀ (m n : Nat), c - n = m → n ≤ c → ((∀ j, n ≤ j → j < c → sTk s A (t + j) s A (u + j) = true) → Q (nI 1) I P) → (∀ j, n ≤ j → j < c → sTk s A (t + j) s A (u + j) = false → Q (nI 0) I P) → V E (d + 1) m_Text_sameTokens 112 Q 3 [some (.inr o), some (.inl (nI t)), some (.inl (nI u)), some (.inl (nI c)), some (.inl (nI n))] [] 112 I P := by
  intro m
  induction m with
  | zero =>
    intro n hm hn h1 _
    exact x_Text_sameTokens_3 _ _ _ _ _ (pk_le c n (fun _ => ⟨rfl, h1 (fun j _ _ => by omega)⟩) (fun q => by omega))
  | succ m ih =>
    intro n hm hn h1 h0
    refine x_Text_sameTokens_3 _ _ _ _ _ (pk_le c n (fun q => by omega) (fun _ => ⟨hT.1, ?_⟩))
    rw [nI_add t n, nI_add u n]
    refine s_sameToken hT hT hN hN hx hx hs hs hl hl hst hst (by omega) (by omega) (bn_i (fun e => ?_) (fun e => ⟨rfl, h0 n (Nat.le_refl _) (by omega) e⟩))
    rw [n1]
    refine ih (n + 1) (by omega) (by omega) (fun hh => h1 (fun j hj1 hj2 => ?_)) (fun j hj1 hj2 => h0 j (by omega) hj2)
    by_cases e2 : j = n
    · subst e2
      exact e
    · exact hh j (by omega) hj2
def sTks (s : List Int32) (A : List (Nat × Nat × Nat)) (t u c : Nat) : Bool := (List.range c).all (fun j => sTk s A (t + j) s A (u + j))
theorem s_sameTokens (hT : TO P o N) (hN : N < 2 ^ 20) {I : mI} (hx : TXT I o s mk A) (hs : s.length ≤ N) (hl : A.length ≤ N) (hst : ∀ q ∈ A, q.2.1 < q.2.2 ∧ q.2.2 ≤ s.length) {t u c : Nat} (ht : t < 2 ^ 20) (hu : u < 2 ^ 20) (hc : c < 2 ^ 20) (h : Q (bI (sTks s A t u c)) I P) : V E (d + 1) m_Text_sameTokens 112 Q 0 [some (.inr o), some (.inl (nI t)), some (.inl (nI u)), some (.inl (nI c)), none] [] 112 I P := by
  refine x_Text_sameTokens_0 _ _ _ _ (l_sameTokens hT hN hx hs hl hst ht hu hc c 0 rfl (Nat.zero_le _) (fun hh => ?_) (fun j _ hj e => ?_))
  · have : sTks s A t u c = true := by
      unfold sTks
      rw [List.all_eq_true]
      intro j hj
      exact hh j (Nat.zero_le _) (List.mem_range.mp hj)
    rw [this] at h
    exact h
  · have : sTks s A t u c = false := by
      unfold sTks
      rw [List.all_eq_false]
      exact ⟨j, List.mem_range.mpr hj, by rw [e]; decide⟩
    rw [this] at h
    exact h
theorem Rc.cp0 {f g : Nat → Int32} {s : List Int32} {n : Nat} (h : Rc f 0 s) (hn : s.length ≤ n) : Rc (va_cpy f g 0 0 n) 0 s := by
  intro j x hx
  have hj := (List.getElem?_eq_some_iff.mp hx).1
  rw [pk_cpy_in (by omega) (by omega), show 0 + (0 + j - 0) = 0 + j by omega]
  exact h j x hx
theorem s_becomeCopy (hT : TO P o N) (hT' : TO P o' N) (hN : N < 2 ^ 20) (hap : apt o o') {I : mI} (hx' : TXT I o' s mk A) (hs : s.length ≤ N) (hl : A.length ≤ N) (h : ∀ I', FrK o I I' → TXT I' o s mk A → Q (nI 0) I' P) : V E (d + 1) m_Text_becomeCopy 112 Q 0 [some (.inr o), some (.inr o')] [] 112 I P := by
  have hTT := hT
  obtain ⟨t0, ⟨p0, k0⟩, ⟨p1, k1⟩, ⟨p2, k2⟩, ⟨p3, k3⟩, ⟨p4, k4⟩⟩ := hT
  obtain ⟨t0', ⟨p0', k0'⟩, ⟨p1', k1'⟩, ⟨p2', k2'⟩, ⟨p3', k3'⟩, ⟨p4', k4'⟩⟩ := hT'
  unfold apt at hap
  refine x_Text_becomeCopy_0 _ _ ⟨t0, s_empty hTT ?_⟩
  simp only [t0, t0', p0, k0, p0', k0', nzz 1 (by decide), true_and]
  generalize hI1 : uI (uI I o 5 (nI 0)) o 6 (nI 0) = I1
  have f1 : FrK o I I1 := fun m hm => by rw [← hI1, uI_n (by omega), uI_n (by omega)]
  have x1 := f1.txt hap hx'
  clear hI1 hx'
  rw [x1.1]
  refine ⟨by decide, by decide, pk_le s.length N (fun _ => ?_) (fun q => by omega)⟩
  rw [uI_n (show o' ≠ o by omega), x1.2.2.2.2.1]
  generalize hI2 : uI (uI I1 o 5 (nI s.length)) o 6 (nI A.length) = I2
  have g5 : I2 o 5 = nI s.length := by rw [← hI2, uI_o (by decide), uI_s]
  have g6 : I2 o 6 = nI A.length := by rw [← hI2, uI_s]
  have f2 : FrK o I1 I2 := fun m hm => by rw [← hI2, uI_n (by omega), uI_n (by omega)]
  have x2 := f2.txt hap x1
  rw [g5, clp (show 0 < 2 ^ 31 by decide), clp (show s.length < 2 ^ 31 by omega)]
  refine ⟨nI_pos (by omega), nI_pos (by omega), nI_pos (by omega), by omega, by omega, ?_⟩
  generalize hI3 : sI I2 (o + 1) (va_cpy (I2 (o' + 1)) (I2 (o + 1)) 0 0 s.length) = I3
  have f3 : ∀ m, m ≠ o + 1 → I3 m = I2 m := fun m hm => by rw [← hI3, sI_n hm]
  have c3 : Rc (I3 (o + 1)) 0 s := by rw [← hI3, sI_s]; exact x2.2.1.cp0 (Nat.le_refl _)
  refine x_Text_becomeCopy_50 _ _ ?_
  simp only [t0, t0', p1, k1, p1', k1', nzz 2 (by decide), true_and]
  rw [f3 o (by omega), g5, clp (show 0 < 2 ^ 31 by decide), clp (show s.length < 2 ^ 31 by omega), f3 (o' + 2) (by omega)]
  refine ⟨nI_pos (by omega), nI_pos (by omega), nI_pos (by omega), by omega, by omega, ?_⟩
  generalize hI4 : sI I3 (o + 2) (va_cpy (I2 (o' + 2)) (I3 (o + 2)) 0 0 s.length) = I4
  have f4 : ∀ m, m ≠ o + 2 → I4 m = I3 m := fun m hm => by rw [← hI4, sI_n hm]
  have c4 : Rc (I4 (o + 2)) 0 mk := by rw [← hI4, sI_s]; exact x2.2.2.2.1.cp0 (by rw [x2.2.2.1]; exact Nat.le_refl _)
  refine x_Text_becomeCopy_67 _ _ ?_
  simp only [t0, t0', p2, k2, p2', k2', nzz 3 (by decide), true_and]
  rw [f4 o (by omega), f3 o (by omega), g6, clp (show 0 < 2 ^ 31 by decide), clp (show A.length < 2 ^ 31 by omega), f4 (o' + 3) (by omega), f3 (o' + 3) (by omega)]
  refine ⟨nI_pos (by omega), nI_pos (by omega), nI_pos (by omega), by omega, by omega, ?_⟩
  generalize hI5 : sI I4 (o + 3) (va_cpy (I2 (o' + 3)) (I4 (o + 3)) 0 0 A.length) = I5
  have f5 : ∀ m, m ≠ o + 3 → I5 m = I4 m := fun m hm => by rw [← hI5, sI_n hm]
  refine x_Text_becomeCopy_84 _ _ ?_
  simp only [t0, t0', p3, k3, p3', k3', nzz 4 (by decide), true_and]
  rw [f5 o (by omega), f4 o (by omega), f3 o (by omega), g6, clp (show 0 < 2 ^ 31 by decide), clp (show A.length < 2 ^ 31 by omega), f5 (o' + 4) (by omega), f4 (o' + 4) (by omega), f3 (o' + 4) (by omega)]
  refine ⟨nI_pos (by omega), nI_pos (by omega), nI_pos (by omega), by omega, by omega, ?_⟩
  generalize hI6 : sI I5 (o + 4) (va_cpy (I2 (o' + 4)) (I5 (o + 4)) 0 0 A.length) = I6
  have f6 : ∀ m, m ≠ o + 4 → I6 m = I5 m := fun m hm => by rw [← hI6, sI_n hm]
  refine x_Text_becomeCopy_101 _ _ ?_
  simp only [t0, t0', p4, k4, p4', k4', nzz 5 (by decide), true_and]
  rw [f6 o (by omega), f5 o (by omega), f4 o (by omega), f3 o (by omega), g6, clp (show 0 < 2 ^ 31 by decide), clp (show A.length < 2 ^ 31 by omega), f6 (o' + 5) (by omega), f5 (o' + 5) (by omega), f4 (o' + 5) (by omega), f3 (o' + 5) (by omega)]
  refine ⟨nI_pos (by omega), nI_pos (by omega), nI_pos (by omega), by omega, by omega, ?_⟩
  refine h _ (fun m hm => ?_) ⟨?_, ?_, x2.2.2.1, ?_, ?_, ?_⟩
  · rw [sI_n (by omega), f6 m (by omega), f5 m (by omega), f4 m (by omega), f3 m (by omega), f2 m hm, f1 m hm]
  · rw [sI_n (by omega), f6 o (by omega), f5 o (by omega), f4 o (by omega), f3 o (by omega), g5]
  · rw [sI_n (by omega), f6 (o + 1) (by omega), f5 (o + 1) (by omega), f4 (o + 1) (by omega)]
    exact c3
  · rw [sI_n (by omega), f6 (o + 2) (by omega), f5 (o + 2) (by omega)]
    exact c4
  · rw [sI_n (by omega), f6 o (by omega), f5 o (by omega), f4 o (by omega), f3 o (by omega), g6]
  · intro t k a b e
    have htl := (List.getElem?_eq_some_iff.mp e).1
    obtain ⟨r1, r2, r3⟩ := x2.2.2.2.2.2 t k a b e
    refine ⟨?_, ?_, ?_⟩
    · rw [sI_n (by omega), f6 (o + 3) (by omega), ← hI5, sI_s, pk_cpy_in (by omega) (by omega), show 0 + (t - 0) = t by omega]
      exact r1
    · rw [sI_n (by omega), ← hI6, sI_s, pk_cpy_in (by omega) (by omega), show 0 + (t - 0) = t by omega]
      exact r2
    · rw [sI_s, pk_cpy_in (by omega) (by omega), show 0 + (t - 0) = t by omega]
      exact r3
end O2
end
section
/-! Reading of expressions token by token is the grammar. -/
theorem rn_app (hol : Bool) : ∀ (A B : List Nat) (q n mx : Nat), rn hol q n mx (A ++ B) = match rn hol q n mx A with
    | some (q', n', mx') => rn hol q' n' mx' B
    | none => none
  | [], B, q, n, mx => rfl
  | k :: A, B, q, n, mx => by
    show rn hol q n mx (k :: (A ++ B)) = _
    rw [rn_c, rn_c]
    cases ast hol q n mx k with
    | none => rfl
    | some z => exact rn_app hol A B _ _ _
theorem rn_then {hol : Bool} {A B : List Nat} {q n mx q' n' mx' : Nat} (h : rn hol q n mx A = some (q', n', mx')) : rn hol q n mx (A ++ B) = rn hol q' n' mx' B := by
  rw [rn_app, h]
theorem ast_1 {hol : Bool} {q n mx : Nat} (h : q ≤ 1) : ast hol q n mx 1 = some (2, n, mx) := by
  unfold ast
  rw [if_pos h, if_pos rfl]
theorem ast_2 {hol : Bool} {q n mx : Nat} (h : q ≤ 1) : ast hol q n mx 2 = some (3, n, mx) := by
  unfold ast
  rw [if_pos h, if_neg (by decide), if_pos (Or.inl rfl)]
theorem ast_3 {q n mx : Nat} (h : q ≤ 1) : ast true q n mx 3 = some (3, n, mx) := by
  unfold ast
  rw [if_pos h, if_neg (by decide), if_pos (Or.inr ⟨rfl, rfl⟩)]
theorem ast_24 {hol : Bool} {n mx : Nat} : ast hol 2 n mx 4 = some (1, n + 1, max mx (n + 1)) := by
  unfold ast
  rw [if_neg (by decide), if_pos ⟨rfl, rfl⟩]
theorem ast_15 {hol : Bool} {n mx : Nat} : ast hol 1 (n + 1) mx 5 = some (3, n, mx) := by
  unfold ast
  rw [if_pos (by decide), if_neg (by decide), if_neg (by omega), if_pos ⟨rfl, rfl, by omega⟩]
  rfl
theorem ast_n5 {hol : Bool} {q n mx : Nat} (h : q = 2 ∨ q = 3) : ast hol q (n + 1) mx 5 = some (3, n, mx) := by
  unfold ast
  rw [if_neg (by omega), if_neg (by omega), if_pos ⟨rfl, by omega⟩]
  rfl
theorem ast_n6 {hol : Bool} {q n mx : Nat} (h : q = 2 ∨ q = 3) : ast hol q (n + 1) mx 6 = some (0, n + 1, mx) := by
  unfold ast
  rw [if_neg (by omega), if_neg (by omega), if_neg (by omega), if_pos ⟨rfl, by omega⟩]
def AuE (hol : Bool) (l : List Nat) : Prop := ∀ m dp, le_ hol l = some (m, dp) → ∀ q a mx, q ≤ 1 → a ≤ mx → ∃ q', (q' = 2 ∨ q' = 3) ∧ (q' = 2 → ∀ r, l.drop m ≠ 4 :: r) ∧ rn hol q a mx (l.take m) = some (q', a, max mx (a + dp))
def AuA (hol : Bool) (l : List Nat) : Prop := ∀ m dp, la_ hol l = some (m, dp) → ∀ q a mx, q ≤ 1 → a + 1 ≤ mx → rn hol q (a + 1) mx (l.take m) = some (3, a, max mx (a + 1 + dp))
theorem au_leaf {hol : Bool} {k q a mx : Nat} {r : List Nat} {z : Nat} (hz : z = 2 ∨ z = 3) (h4 : z = 2 → ∀ r', r ≠ 4 :: r') (ha : a ≤ mx) (h : ast hol q a mx k = some (z, a, mx)) : ∃ q', (q' = 2 ∨ q' = 3) ∧ (q' = 2 → ∀ r', (k :: r).drop 1 ≠ 4 :: r') ∧ rn hol q a mx ((k :: r).take 1) = some (q', a, max mx (a + 0)) := by
  refine ⟨z, hz, h4, ?_⟩
  show rn hol q a mx [k] = _
  rw [rn_c, h]
  show some (z, a, mx) = _
  rw [Nat.max_eq_left (by omega)]
theorem au_all (hol : Bool) : ∀ N : Nat, (∀ l : List Nat, l.length ≤ N → AuE hol l) ∧ (∀ l : List Nat, l.length ≤ N → AuA hol l) := by
  intro N
  induction N with
  | zero =>
    constructor
    · intro l hl m dp h
      have : l = [] := List.length_eq_zero_iff.mp (by omega)
      subst this
      rw [le_nil] at h
      cases h
    · intro l hl m dp h
      have : l = [] := List.length_eq_zero_iff.mp (by omega)
      subst this
      rw [la_nil] at h
      cases h
  | succ N ih =>
    have hE : ∀ l : List Nat, l.length ≤ N + 1 → AuE hol l := by
      intro l hl m dp h q a mx hq hmx
      cases l with
      | nil => rw [le_nil] at h; cases h
      | cons k r =>
        have hrl : r.length ≤ N := by simpa using hl
        by_cases k1 : k = 1
        · subst k1
          by_cases h4 : ∃ r2, r = 4 :: r2
          · obtain ⟨r2, rfl⟩ := h4
            by_cases h5 : ∃ r3, r2 = 5 :: r3
            · obtain ⟨r3, rfl⟩ := h5
              rw [le_c5] at h
              cases h
              refine ⟨3, Or.inr rfl, (fun e => absurd e (by decide)), ?_⟩
              show rn hol q a mx [1, 4, 5] = _
              rw [rn_c, ast_1 hq]
              dsimp only
              rw [rn_c, ast_24]
              dsimp only
              rw [rn_c, ast_15]
              rfl
            · have hne : ∀ r', r2 ≠ 5 :: r' := fun r' e => h5 ⟨r', e⟩
              rw [le_call hne] at h
              cases hla : la_ hol r2 with
              | none => rw [hla] at h; cases h
              | some z =>
                obtain ⟨m', dp'⟩ := z
                rw [hla] at h
                cases h
                refine ⟨3, Or.inr rfl, (fun e => absurd e (by decide)), ?_⟩
                show rn hol q a mx (1 :: 4 :: r2.take m') = some (3, a, max mx (a + (dp' + 1)))
                rw [rn_c, ast_1 hq]
                dsimp only
                rw [rn_c, ast_24]
                dsimp only
                rw [ih.2 r2 (by simp at hrl; omega) m' dp' hla 1 a _ (by omega) (by omega)]
                rw [show max (max mx (a + 1)) (a + 1 + dp') = max mx (a + (dp' + 1)) by omega]
          · have hne : ∀ r', r ≠ 4 :: r' := fun r' e => h4 ⟨r', e⟩
            rw [le_name hne] at h
            cases h
            exact au_leaf (Or.inl rfl) (fun _ => hne) hmx (ast_1 hq)
        · by_cases k2 : k = 2
          · subst k2
            rw [le_num] at h
            cases h
            exact au_leaf (z := 3) (Or.inr rfl) (fun e => absurd e (by decide)) hmx (ast_2 hq)
          · by_cases k3 : k = 3
            · subst k3
              rw [le_hole] at h
              by_cases hh : hol = true
              · subst hh
                rw [if_pos rfl] at h
                cases h
                exact au_leaf (z := 3) (Or.inr rfl) (fun e => absurd e (by decide)) hmx (ast_3 hq)
              · rw [if_neg hh] at h
                cases h
            · rw [le_oth r k1 k2 k3] at h
              cases h
    refine ⟨hE, ?_⟩
    intro l hl m dp h q a mx hq hmx
    cases hle : le_ hol l with
    | none => rw [la_n hle] at h; cases h
    | some z =>
      obtain ⟨m1, d1⟩ := z
      have hb := le_b hle
      obtain ⟨q', hq', hn4, hrn⟩ := hE l hl m1 d1 hle q (a + 1) mx hq hmx
      by_cases h5 : ∃ r, l.drop m1 = 5 :: r
      · obtain ⟨r, h5⟩ := h5
        rw [la_5 hle h5] at h
        cases h
        have e : l.take (m1 + 1) = l.take m1 ++ [5] := by
          rw [List.take_add, h5]
          rfl
        rw [e, rn_then hrn, rn_c, ast_n5 hq']
        rfl
      · by_cases h6 : ∃ r, l.drop m1 = 6 :: r
        · obtain ⟨r, h6⟩ := h6
          rw [la_6 hle h6] at h
          cases hla : la_ hol r with
          | none => rw [hla] at h; cases h
          | some z =>
            obtain ⟨m2, d2⟩ := z
            rw [hla] at h
            cases h
            have hr : r.length ≤ N := by
              have := congrArg List.length h6
              rw [List.length_drop, List.length_cons] at this
              omega
            have e : l.take (m1 + 1 + m2) = l.take m1 ++ (6 :: r.take m2) := by
              rw [Nat.add_assoc, List.take_add, h6, Nat.add_comm 1 m2]
              rfl
            dsimp only
            rw [e, rn_then hrn, rn_c, ast_n6 hq']
            dsimp only
            rw [ih.2 r hr m2 d2 hla 0 a _ (by omega) (by omega)]
            rw [show max (max mx (a + 1 + d1)) (a + 1 + d2) = max mx (a + 1 + max d1 d2) by omega]
        · rw [la_o hle (fun r e => h5 ⟨r, e⟩) (fun r e => h6 ⟨r, e⟩)] at h
          cases h
theorem au_e {hol : Bool} {l : List Nat} {m dp : Nat} (h : le_ hol l = some (m, dp)) {q a mx : Nat} (hq : q ≤ 1) (ha : a ≤ mx) : ∃ q', (q' = 2 ∨ q' = 3) ∧ (q' = 2 → ∀ r, l.drop m ≠ 4 :: r) ∧ rn hol q a mx (l.take m) = some (q', a, max mx (a + dp)) := (au_all hol l.length).1 l (Nat.le_refl _) m dp h q a mx hq ha
def BuE (hol : Bool) (l : List Nat) : Prop := ∀ (L r : List Nat), l = L ++ r → (∀ r', r ≠ 4 :: r') → ∀ q a mx z, q ≤ 1 → a ≤ mx → (q = 1 → ∀ l', l ≠ 5 :: l') → rn hol q a mx L = some z → z.2.1 ≤ a → 2 ≤ z.1 → ∃ m dp, le_ hol l = some (m, dp) ∧ m ≤ L.length
def BuA (hol : Bool) (l : List Nat) : Prop := ∀ (L r : List Nat), l = L ++ r → (∀ r', r ≠ 4 :: r') → ∀ q a mx z, q ≤ 1 → a + 1 ≤ mx → (q = 1 → ∀ l', l ≠ 5 :: l') → rn hol q (a + 1) mx L = some z → z.2.1 ≤ a → 2 ≤ z.1 → ∃ m dp, la_ hol l = some (m, dp) ∧ m ≤ L.length
theorem bu_all (hol : Bool) : ∀ N : Nat, (∀ l : List Nat, l.length ≤ N → BuE hol l) ∧ (∀ l : List Nat, l.length ≤ N → BuA hol l) := by
  intro N
  induction N with
  | zero =>
    constructor
    · intro l hl L r e hr q a mx z hq ha h5 h hz1 hz2
      have : L = [] := List.length_eq_zero_iff.mp (by rw [e, List.length_append] at hl; omega)
      subst this
      cases h
      dsimp only at hz2
      omega
    · intro l hl L r e hr q a mx z hq ha h5 h hz1 hz2
      have : L = [] := List.length_eq_zero_iff.mp (by rw [e, List.length_append] at hl; omega)
      subst this
      cases h
      dsimp only at hz2
      omega
  | succ N ih =>
    have hE : ∀ l : List Nat, l.length ≤ N + 1 → BuE hol l := by
      intro l hl L r e hr q a mx z hq ha h5 h hz1 hz2
      subst e
      cases L with
      | nil =>
        cases h
        dsimp only at hz2
        omega
      | cons k L =>
        rw [rn_c] at h
        by_cases k1 : k = 1
        · subst k1
          rw [ast_1 hq] at h
          dsimp only at h
          by_cases h4 : ∃ r4, L ++ r = 4 :: r4
          · obtain ⟨r4, h4⟩ := h4
            cases L with
            | nil => exact absurd h4 (hr r4)
            | cons k4 L =>
              injection h4 with e1 e2
              subst e1
              subst e2
              rw [rn_c, ast_24] at h
              dsimp only at h
              cases L with
              | nil =>
                cases h
                dsimp only at hz2
                omega
              | cons k5 L =>
                by_cases hk5 : k5 = 5
                · subst hk5
                  exact ⟨3, 1, le_c5 _, by simp⟩
                · have hne : ∀ r', (k5 :: L) ++ r ≠ 5 :: r' := fun r' e => by
                    injection e with e1 e2
                    exact hk5 e1
                  obtain ⟨m, dp, hla, hm⟩ := ih.2 ((k5 :: L) ++ r) (by simp at hl ⊢; omega) (k5 :: L) r rfl hr 1 a _ z (by omega) (by omega) (fun _ => hne) h hz1 hz2
                  refine ⟨m + 2, dp + 1, ?_, by simp at hm ⊢; omega⟩
                  show le_ hol (1 :: 4 :: ((k5 :: L) ++ r)) = _
                  rw [le_call hne, hla]
                  rfl
          · exact ⟨1, 0, le_name (fun r' e => h4 ⟨r', e⟩), by simp⟩
        · by_cases k2 : k = 2
          · subst k2
            exact ⟨1, 0, le_num _, by simp⟩
          · by_cases k3 : k = 3 ∧ hol = true
            · obtain ⟨rfl, rfl⟩ := k3
              exact ⟨1, 0, by show le_ true (3 :: (L ++ r)) = _; rw [le_hole, if_pos rfl], by simp⟩
            · exfalso
              have : ast hol q a mx k = none := by
                unfold ast
                rw [if_pos hq, if_neg k1, if_neg (fun c => c.elim k2 k3), if_neg (fun c => h5 c.1 (L ++ r) (by rw [c.2.1]; rfl))]
              rw [this] at h
              cases h
    refine ⟨hE, ?_⟩
    intro l hl L r e hr q a mx z hq ha h5 h hz1 hz2
    obtain ⟨m, dp, hle, hm⟩ := hE l hl L r e hr q (a + 1) mx z hq ha h5 h (by omega) hz2
    obtain ⟨q', hq', hn4, hrn⟩ := au_e hle (q := q) (a := a + 1) (mx := mx) hq ha
    have et : l.take m = L.take m := by rw [e, List.take_append_of_le_length hm]
    have ed : l.drop m = L.drop m ++ r := by rw [e, List.drop_append_of_le_length hm]
    rw [et] at hrn
    have h2 : rn hol q (a + 1) mx (L.take m ++ L.drop m) = some z := by rw [List.take_append_drop]; exact h
    rw [rn_then hrn] at h2
    cases hd : L.drop m with
    | nil =>
      rw [hd] at h2
      cases h2
      dsimp only at hz1
      omega
    | cons k L3 =>
      rw [hd] at h2 ed
      rw [rn_c] at h2
      have hlen : L.length = m + 1 + L3.length := by
        have := congrArg List.length hd
        rw [List.length_drop, List.length_cons] at this
        omega
      by_cases k5 : k = 5
      · subst k5
        exact ⟨m + 1, dp, la_5 hle ed, by omega⟩
      · by_cases k6 : k = 6
        · subst k6
          rw [ast_n6 hq'] at h2
          dsimp only at h2
          have hll : (L3 ++ r).length ≤ N := by
            have := congrArg List.length e
            rw [List.length_append] at this ⊢
            omega
          obtain ⟨m2, d2, hla, hm2⟩ := ih.2 (L3 ++ r) hll L3 r rfl hr 0 a _ z (by omega) (by omega) (fun c => absurd c (by decide)) h2 hz1 hz2
          refine ⟨m + 1 + m2, max dp d2, ?_, by omega⟩
          rw [la_6 (r := L3 ++ r) hle ed, hla]
          rfl
        · exfalso
          have : ast hol q' (a + 1) (max mx (a + 1 + dp)) k = none := by
            unfold ast
            rw [if_neg (by omega), if_neg (fun c => hn4 c.1 (L3 ++ r) (by rw [ed, c.2]; rfl)), if_neg (by omega), if_neg (by omega)]
          rw [this] at h2
          cases h2
/-- what is read to its end is an expression -/
theorem bu_e {hol : Bool} {L r : List Nat} {q' mx : Nat} (hr : ∀ r', r ≠ 4 :: r') (h : rn hol 0 0 0 L = some (q', 0, mx)) (hq : 2 ≤ q') : le_ hol (L ++ r) = some (L.length, mx) := by
  obtain ⟨m, dp, hle, hm⟩ := (bu_all hol _).1 (L ++ r) (Nat.le_refl _) L r rfl hr 0 0 0 _ (by omega) (by omega) (fun c => absurd c (by decide)) h (Nat.le_refl _) hq
  obtain ⟨q2, hq2, hn4, hrn⟩ := au_e hle (q := 0) (a := 0) (mx := 0) (by omega) (by omega)
  have et : (L ++ r).take m = L.take m := List.take_append_of_le_length hm
  have ed : (L ++ r).drop m = L.drop m ++ r := List.drop_append_of_le_length hm
  rw [et] at hrn
  have h2 : rn hol 0 0 0 (L.take m ++ L.drop m) = some (q', 0, mx) := by rw [List.take_append_drop]; exact h
  rw [rn_then hrn] at h2
  cases hd : L.drop m with
  | nil =>
    rw [hd] at h2
    cases h2
    have : L.length ≤ m := List.drop_eq_nil_iff.mp hd
    rw [hle, show m = L.length by omega]
    congr 2
    omega
  | cons k L3 =>
    exfalso
    rw [hd] at h2 ed
    rw [rn_c] at h2
    have : ast hol q2 0 (max 0 (0 + dp)) k = none := by
      unfold ast
      rw [if_neg (by omega), if_neg (fun c => hn4 c.1 (L3 ++ r) (by rw [ed, c.2]; rfl)), if_neg (by omega), if_neg (by omega)]
    rw [this] at h2
    cases h2
end
section
/-! Does a pattern fit: the class. -/
def RO (P : mP) (o : Nat) : Prop := kk 112 o = (0, 1) ∧ P o 0 = o + 1 ∧ TO P (o + 1) 60 ∧ (P o 2 = o + 7 ∧ kk 112 (o + 7) = (1, 10)) ∧ (P o 3 = o + 8 ∧ kk 112 (o + 8) = (1, 10))
/-- the figure of the hole that token t is -/
def dgt (s : List Int32) (A : List (Nat × Nat × Nat)) (t : Nat) : Nat := match s[tst A t + 1]? with
  | some x => (x - nI 48).toNatClampNeg
  | none => 0
/-- every hole has its figure -/
def HD (s : List Int32) (A : List (Nat × Nat × Nat)) : Prop := ∀ t a b, A[t]? = some (3, a, b) → dgt s A t < 10 ∧ s[tst A t + 1]? = some (nI (48 + dgt s A t))
abbrev BN : Type := Nat → Option (Nat × Nat)
def B0 : BN := fun _ => none
def BR (I : mI) (o : Nat) (B : BN) (n : Nat) : Prop := ∀ d, d < 10 → (B d = none → I (o + 7) d = -(nI 1)) ∧ ∀ f b, B d = some (f, b) → I (o + 7) d = nI f ∧ I (o + 8) d = nI b ∧ f < b ∧ b ≤ n
def bho (s' : List Int32) (A' : List (Nat × Nat × Nat)) (dg t : Nat) (B : BN) : Option (Nat × BN) := match le_ true ((A'.map Prod.fst).drop t) with
  | some (m, dp) => if dp ≤ 12 then (match B dg with
    | none => some (t + m, fun x => if x = dg then some (t, t + m) else B x)
    | some (f, b) => if b - f = m ∧ sTks s' A' f t m = true then some (t + m, B) else none) else none
  | none => none
def mtc (s : List Int32) (A : List (Nat × Nat × Nat)) (s' : List Int32) (A' : List (Nat × Nat × Nat)) : Nat → Nat → Nat → BN → Option (Nat × BN)
  | 0, _, t, B => some (t, B)
  | n + 1, p, t, B => if (A.map Prod.fst)[p]? = some 3 then (match bho s' A' (dgt s A p) t B with
      | some (t', B') => mtc s A s' A' n (p + 1) t' B'
      | none => none) else if sTk s A p s' A' t = true then mtc s A s' A' n (p + 1) (t + 1) B else none
def FrH (o : Nat) (I I' : mI) : Prop := ∀ m, m ≠ o + 7 → m ≠ o + 8 → I' m = I m
theorem FrH.rf {o : Nat} {I : mI} : FrH o I I := fun _ _ _ => rfl
theorem FrH.tr {o : Nat} {I I' I'' : mI} (h : FrH o I I') (h' : FrH o I' I'') : FrH o I I'' := fun m a b => (h' m a b).trans (h m a b)
theorem FrH.txt {I I' : mI} {o o' : Nat} {s mk : List Int32} {A : List (Nat × Nat × Nat)} (h : FrH o I I') (ha : o' + 5 < o + 7 ∨ o + 8 < o') (hx : TXT I o' s mk A) : TXT I' o' s mk A := hx.fr (fun m h1 h2 => h m (by omega) (by omega))
def dig (x : Nat) : Int32 := nI (48 + x) - nI 48
theorem dig_e (x : Nat) : nI (48 + x) - nI 48 = nI x := by rw [pk_sub (by omega)]; congr 1; omega
section MA
variable {E : XE} {d : Nat} {Q : Int32 → mI → mP → Prop} {P : mP} {o o' N' : Nat} {s mk s' mk' : List Int32} {A A' : List (Nat × Nat × Nat)}
theorem s_behindHole (hO : RO P o) (hT' : TO P o' N') (hN' : N' < 2 ^ 20) (hap : o' + 5 < o + 7 ∨ o + 8 < o') {I : mI} (hx' : TXT I o' s' mk' A') (hs' : s'.length ≤ N') (hl' : A'.length ≤ N') (hk' : k10 (A'.map Prod.fst)) (hst' : ∀ q ∈ A', q.2.1 < q.2.2 ∧ q.2.2 ≤ s'.length) {B : BN} (hB : BR I o B A'.length) {dg t : Nat} (hd : dg < 10) (ht : t ≤ A'.length)
    (h1 : ∀ I' t' B', FrH o I I' → bho s' A' dg t B = some (t', B') → t' ≤ A'.length → BR I' o B' A'.length → Q (nI t') I' P) (h0 : bho s' A' dg t B = none → Q (-(nI 1)) I P) : V E (d + 26) m_Rule_behindHole 112 Q 0 [some (.inr o), some (.inl (nI dg)), some (.inr o'), some (.inl (nI t)), none, none, none, none] [] 112 I P := by
  obtain ⟨o0, -, -, ⟨o2, k2⟩, ⟨o3, k3⟩⟩ := hO
  have hml : (A'.map Prod.fst).length = A'.length := List.length_map _
  refine x_Rule_behindHole_0 _ _ _ _ ⟨hT'.1, s_behindExpression hT' hN' hx'.2.2.2.2.kr (by omega) hk' (by omega) ?_⟩
  have hBd := hB dg hd
  unfold bho at h1 h0
  cases hle : le_ true ((A'.map Prod.fst).drop t) with
  | none =>
    rw [hle] at h0
    exact ⟨fun c => absurd rfl c, fun _ => h0 rfl⟩
  | some z =>
    obtain ⟨m, dp⟩ := z
    have hb := le_b hle
    rw [List.length_drop, hml] at hb
    rw [hle] at h0 h1
    dsimp only at h0 h1
    by_cases hdp : dp ≤ 12
    · rw [if_pos hdp] at h0 h1
      have e1 : bxv 0 t (some (m, dp)) = nI (t + m) := by
        show (if 0 + dp ≤ 12 then _ else _) = _
        rw [if_pos (by omega)]
      rw [e1]
      refine ⟨fun _ => ?_, fun c => absurd c.symm (m1_ne (by omega))⟩
      simp only [o0, o2, k2, o3, k3, nzz 7 (by decide), nzz 8 (by decide), true_and]
      rw [clp (show dg < 2 ^ 31 by omega)]
      refine ⟨vp_in_nI hd (by decide), ?_⟩
      cases hBv : B dg with
      | none =>
        rw [hBv] at h0 h1
        dsimp only at h0 h1
        rw [hBd.1 hBv]
        refine ⟨fun c => absurd rfl c, fun _ => ⟨vp_in_nI hd (by decide), vp_in_nI hd (by decide), ?_⟩⟩
        refine h1 _ _ _ (fun m' a b => ?_) rfl (by omega) (fun d' hd' => ?_)
        · rw [uI_n b, uI_n a]
        · by_cases e : d' = dg
          · subst e
            refine ⟨fun c => ?_, fun f b c => ?_⟩
            · rw [if_pos rfl] at c
              cases c
            · rw [if_pos rfl] at c
              cases c
              refine ⟨?_, ?_, by omega, by omega⟩
              · rw [uI_n (by omega), uI_s]
              · rw [uI_s]
          · have hB' := hB d' hd'
            refine ⟨fun c => ?_, fun f b c => ?_⟩
            · rw [if_neg e] at c
              rw [uI_n (by omega), uI_o e]
              exact hB'.1 c
            · rw [if_neg e] at c
              have := hB'.2 f b c
              rw [uI_n (by omega), uI_o e, uI_o e, uI_n (show o + 8 ≠ o + 7 by omega)]
              exact this
      | some fb =>
        obtain ⟨f, b⟩ := fb
        obtain ⟨r1, r2, r3, r4⟩ := hBd.2 f b hBv
        rw [hBv] at h0 h1
        dsimp only at h0 h1
        rw [r1, r2]
        refine ⟨fun _ => ⟨vp_in_nI hd (by decide), ?_⟩, fun c => absurd c.symm (m1_ne (by omega))⟩
        rw [pk_sub (show f ≤ b by omega), pk_sub (show t ≤ t + m by omega), show t + m - t = m by omega, nI_eq (by omega) (by omega)]
        refine ⟨fun c => ?_, fun c => ⟨hT'.1, ?_⟩⟩
        · rw [if_neg (fun cc => c cc.1)] at h0
          exact x_Rule_behindHole_87 _ _ ⟨fun _ => h0 rfl, fun c => absurd rfl c⟩
        · refine s_sameTokens (d := d + 24) hT' hN' hx' hs' hl' hst' (by omega) (by omega) (by omega) (bz_i (fun c2 => ?_) (fun c2 => ?_))
          · rw [if_neg (fun cc => by rw [c2] at cc; exact absurd cc.2 (by decide))] at h0
            exact x_Rule_behindHole_87 _ _ ⟨fun _ => h0 rfl, fun c => absurd rfl c⟩
          · rw [if_pos ⟨c, c2⟩] at h1
            exact x_Rule_behindHole_87 _ _ ⟨fun c => absurd c (by decide), fun _ => h1 I _ _ FrH.rf rfl (by omega) hB⟩
    · rw [if_neg hdp] at h0
      have e1 : bxv 0 t (some (m, dp)) = -(nI 1) := by
        show (if 0 + dp ≤ 12 then _ else _) = _
        rw [if_neg (by omega)]
      rw [e1]
      exact ⟨fun c => absurd rfl c, fun _ => h0 rfl⟩
theorem l_matches (hO : RO P o) (hT' : TO P o' N') (hN' : N' < 2 ^ 20) (hap : o' + 5 < o ∨ o + 8 < o') (hs : s.length ≤ 60) (hl : A.length ≤ 60) (hk : k10 (A.map Prod.fst)) (hst : ∀ q ∈ A, q.2.1 < q.2.2 ∧ q.2.2 ≤ s.length) (hH : HD s A) (hs' : s'.length ≤ N') (hl' : A'.length ≤ N') (hk' : k10 (A'.map Prod.fst)) (hst' : ∀ q ∈ A', q.2.1 < q.2.2 ∧ q.2.2 ≤ s'.length) {ar e : Nat} (har : ar ≤ A.length) (he : e < 2 ^ 31) : ∀ (n p t : Nat) (B : BN) (I : mI), p + n = ar → t ≤ A'.length → I o 1 = nI ar → TXT I (o + 1) s mk A → TXT I o' s' mk' A' → BR I o B A'.length →
    (∀ I' B', FrH o I I' → mtc s A s' A' n p t B = some (e, B') → BR I' o B' A'.length → Q (nI 1) I' P) → (∀ I', FrH o I I' → (∀ B', mtc s A s' A' n p t B ≠ some (e, B')) → Q (nI 0) I' P) → V E (d + 27) m_Rule_matches 112 Q 30 [some (.inr o), some (.inr o'), none, some (.inl (nI e)), some (.inl (nI t)), some (.inl (nI p))] [] 112 I P := by
  have hOO := hO
  obtain ⟨o0, o1, oT, -, -⟩ := hO
  have hml : (A.map Prod.fst).length = A.length := List.length_map _
  intro n
  induction n with
  | zero =>
    intro p t B I hp ht h1' hx hx' hB h1 h0
    refine x_Rule_matches_30 _ _ _ _ _ ⟨o0, ?_⟩
    rw [h1']
    refine pk_le ar p (fun _ => ?_) (fun q => by omega)
    rw [nI_eq (by omega) he]
    refine ⟨fun c => ⟨rfl, h0 I FrH.rf (fun B' hh => ?_)⟩, fun c => ⟨rfl, ?_⟩⟩
    · cases hh
      exact c rfl
    · subst c
      exact h1 I B FrH.rf rfl hB
  | succ n ih =>
    intro p t B I hp ht h1' hx hx' hB h1 h0
    have hpl : p < A.length := by omega
    refine x_Rule_matches_30 _ _ _ _ _ ⟨o0, ?_⟩
    rw [h1']
    refine pk_le ar p (fun q => by omega) (fun _ => ?_)
    simp only [o0, o1, nzz 1 (by decide), true_and]
    refine ⟨oT.1, s_isHole (d := d + 25) oT (by decide) hx.2.2.2.2.kr (by omega) hk (by omega) (bz_i (fun c => ?_) (fun c => ?_))⟩
    · have c3 : ¬ (A.map Prod.fst)[p]? = some 3 := by
        intro e
        rw [e] at c
        exact absurd c (by decide)
      have em : mtc s A s' A' (n + 1) p t B = if sTk s A p s' A' t = true then mtc s A s' A' n (p + 1) (t + 1) B else none := by
        show (if _ then _ else _) = _
        rw [if_neg c3]
      rw [em] at h1 h0
      simp only [o0, o1, nzz 1 (by decide), true_and]
      refine ⟨oT.1, s_sameToken oT hT' (by decide) hN' hx hx' hs hs' hl hl' hst hst' (by omega) (by omega) (bz_i (fun c2 => ?_) (fun c2 => ?_))⟩
      · refine x_Rule_matches_97 _ _ _ _ _ ⟨fun c => absurd rfl c, fun _ => ⟨rfl, h0 I FrH.rf (fun B' hh => ?_)⟩⟩
        rw [c2, if_neg (by decide)] at hh
        cases hh
      · rw [c2, if_pos rfl] at h1 h0
        have htl : t < A'.length := by
          unfold sTk at c2
          have c2' := of_decide_eq_true c2
          apply Classical.byContradiction
          intro hc
          have e2 := c2'.2
          unfold tkw at e2
          rw [if_pos hpl, if_neg hc] at e2
          cases e2
        rw [n1]
        refine x_Rule_matches_97 _ _ _ _ _ ⟨fun _ => ?_, fun c => absurd c.symm (m1_ne (by omega))⟩
        rw [n1]
        exact ih (p + 1) (t + 1) B I (by omega) (by omega) h1' hx hx' hB h1 h0
    · have c3 : (A.map Prod.fst)[p]? = some 3 := by simpa using c
      have em : mtc s A s' A' (n + 1) p t B = (match bho s' A' (dgt s A p) t B with
          | some (t', B') => mtc s A s' A' n (p + 1) t' B'
          | none => none) := by
        show (if _ then _ else _) = _
        rw [if_pos c3]
      rw [em] at h1 h0
      have hq : ∃ a b, A[p]? = some (3, a, b) := by
        rw [List.getElem?_map] at c3
        cases hA : A[p]? with
        | none => rw [hA] at c3; cases c3
        | some q =>
          rw [hA] at c3
          obtain ⟨k, a, b⟩ := q
          cases c3
          exact ⟨a, b, rfl⟩
      obtain ⟨qa, qb, hq⟩ := hq
      obtain ⟨hd10, hch⟩ := hH p qa qb hq
      simp only [o0, o1, nzz 1 (by decide), true_and]
      refine ⟨oT.1, s_digitOf oT (by decide) hx hs hl hpl hch ?_⟩
      rw [dig_e]
      refine s_behindHole hOO hT' hN' (by omega) hx' hs' hl' hk' hst' hB hd10 ht (fun I' t' B' hf hb ht' hB' => ?_) (fun hb => ?_)
      · rw [hb] at h1 h0
        refine x_Rule_matches_97 _ _ _ _ _ ⟨fun _ => ?_, fun c => absurd c.symm (m1_ne (by omega))⟩
        rw [n1]
        exact ih (p + 1) t' B' I' (by omega) ht' (by rw [hf o (by omega) (by omega)]; exact h1') (hf.txt (by omega) hx) (hf.txt (by omega) hx') hB' (fun I2 B2 hf2 => h1 I2 B2 (hf.tr hf2)) (fun I2 hf2 => h0 I2 (hf.tr hf2))
      · refine x_Rule_matches_97 _ _ _ _ _ ⟨fun c => absurd rfl c, fun _ => ⟨rfl, h0 I FrH.rf (fun B' hh => ?_)⟩⟩
        rw [hb] at hh
        cases hh
theorem l_match0 (hO : RO P o) {f e : Int32} : ∀ (n j : Nat) (I : mI), j + n = 10 → (∀ i, i < j → I (o + 7) i = -(nI 1)) → (∀ I', FrH o I I' → (∀ i, i < 10 → I' (o + 7) i = -(nI 1)) → V E (d + 1) m_Rule_matches 112 Q 30 [some (.inr o), some (.inr o'), none, some (.inl e), some (.inl f), some (.inl (nI 0))] [] 112 I' P) → V E (d + 1) m_Rule_matches 112 Q 3 [some (.inr o), some (.inr o'), some (.inl f), some (.inl e), some (.inl (nI j)), none] [] 112 I P := by
  obtain ⟨o0, o1, oT, ⟨o2, k2⟩, -⟩ := hO
  intro n
  induction n with
  | zero =>
    intro j I hj hi h
    have : j = 10 := by omega
    subst this
    exact x_Rule_matches_3 _ _ _ _ _ (pk_le 10 10 (fun _ => h I FrH.rf hi) (fun q => by omega))
  | succ n ih =>
    intro j I hj hi h
    refine x_Rule_matches_3 _ _ _ _ _ (pk_le 10 j (fun q => by omega) (fun _ => ?_))
    simp only [o0, o2, k2, nzz 7 (by decide), true_and]
    rw [n1, clp (show j < 2 ^ 31 by omega)]
    refine ⟨vp_in_nI (by omega) (by decide), ih (j + 1) _ (by omega) (fun i hi' => ?_) (fun I' hf hi' => h I' (fun m a b => ?_) hi')⟩
    · by_cases e : i = j
      · subst e
        rw [uI_s]
      · rw [uI_o e]
        exact hi i (by omega)
    · rw [hf m a b, uI_n a]
theorem s_matches (hO : RO P o) (hT' : TO P o' N') (hN' : N' < 2 ^ 20) (hap : o' + 5 < o ∨ o + 8 < o') (hs : s.length ≤ 60) (hl : A.length ≤ 60) (hk : k10 (A.map Prod.fst)) (hst : ∀ q ∈ A, q.2.1 < q.2.2 ∧ q.2.2 ≤ s.length) (hH : HD s A) (hs' : s'.length ≤ N') (hl' : A'.length ≤ N') (hk' : k10 (A'.map Prod.fst)) (hst' : ∀ q ∈ A', q.2.1 < q.2.2 ∧ q.2.2 ≤ s'.length) {ar e f : Nat} (har : ar ≤ A.length) (he : e < 2 ^ 31) (hf : f ≤ A'.length) {I : mI} (h1' : I o 1 = nI ar) (hx : TXT I (o + 1) s mk A) (hx' : TXT I o' s' mk' A')
    (h1 : ∀ I' B', FrH o I I' → mtc s A s' A' ar 0 f B0 = some (e, B') → BR I' o B' A'.length → Q (nI 1) I' P) (h0 : ∀ I', FrH o I I' → (∀ B', mtc s A s' A' ar 0 f B0 ≠ some (e, B')) → Q (nI 0) I' P) : V E (d + 27) m_Rule_matches 112 Q 0 [some (.inr o), some (.inr o'), some (.inl (nI f)), some (.inl (nI e)), none, none] [] 112 I P := by
  refine x_Rule_matches_0 _ _ _ _ (l_match0 hO 10 0 I rfl (fun i hi => by omega) (fun I' hf' hi => ?_))
  refine l_matches hO hT' hN' hap hs hl hk hst hH hs' hl' hk' hst' har he ar 0 f B0 I' (by omega) hf (by rw [hf' o (by omega) (by omega)]; exact h1') (hf'.txt (by omega) hx) (hf'.txt (by omega) hx') (fun d' hd' => ⟨fun _ => hi d' hd', fun f b c => by cases c⟩) (fun I2 B2 hf2 => h1 I2 B2 (hf'.tr hf2)) (fun I2 hf2 => h0 I2 (hf'.tr hf2))
end MA
end
section
/-! Texts as lists of tokens, each with the space before it and with marks. -/
abbrev MIt : Type := List Int32 × Int32 × Nat × List Int32 × Int32
def un (z : MIt) : ItC := (z.1, z.2.2.1, z.2.2.2.1)
def um (z : MIt) : ItC := (List.replicate z.1.length z.2.1, z.2.2.1, List.replicate z.2.2.2.1.length z.2.2.2.2)
def mkd (z : MIt) : Nat := z.2.2.1
def mw (z : MIt) : List Int32 := z.2.2.2.1
def sps (z : MIt) (sp : List Int32) (m : Int32) : MIt := (sp, m, z.2.2)
theorem fl_nl : ∀ (Z : List ItC) (t : List Int32), fl Z t = fl Z [] ++ t
  | [], t => rfl
  | (sp, k, w) :: Z, t => by
    show sp ++ (w ++ fl Z t) = (sp ++ (w ++ fl Z [])) ++ t
    rw [fl_nl Z t]
    simp
theorem ftl_c (sp w : List Int32) (k : Nat) (Z : List ItC) : ftl ((sp, k, w) :: Z) = sp.length + w.length + ftl Z := by
  unfold ftl
  show (sp ++ (w ++ fl Z [])).length = _
  rw [List.length_append, List.length_append]
  omega
theorem ftl_app (A B : List ItC) : ftl (A ++ B) = ftl A + ftl B := by
  unfold ftl
  rw [fl_app, fl_nl, List.length_append]
theorem psn_shift (c : Nat) : ∀ (Z : List ItC) (p : Nat), psn (p + c) Z = (psn p Z).map (fun q => (q.1, q.2.1 + c, q.2.2 + c))
  | [], _ => rfl
  | (sp, k, w) :: Z, p => by
    rw [psn_c, psn_c, List.map_cons, ← psn_shift c Z]
    rw [show p + c + sp.length + w.length = p + sp.length + w.length + c by omega, show p + c + sp.length = p + sp.length + c by omega]
theorem psn_take (Z : List ItC) (p n : Nat) : (psn p Z).take n = psn p (Z.take n) := by
  by_cases h : n ≤ Z.length
  · conv => lhs; rw [← List.take_append_drop n Z, psn_app]
    rw [List.take_append_of_le_length (by rw [psn_len, List.length_take]; omega), List.take_of_length_le (by rw [psn_len, List.length_take]; omega)]
  · rw [List.take_of_length_le (by rw [psn_len]; omega), List.take_of_length_le (by omega)]
theorem psn_drop (Z : List ItC) (p n : Nat) : (psn p Z).drop n = psn (p + ftl (Z.take n)) (Z.drop n) := by
  by_cases h : n ≤ Z.length
  · conv => lhs; rw [← List.take_append_drop n Z, psn_app]
    rw [List.drop_append_of_le_length (by rw [psn_len, List.length_take]; omega), List.drop_eq_nil_of_le (by rw [psn_len, List.length_take]; omega)]
    rfl
  · rw [List.drop_eq_nil_of_le (by rw [psn_len]; omega), List.drop_eq_nil_of_le (show Z.length ≤ n by omega)]
    rfl
theorem psn_get {Z : List ItC} {t k : Nat} {sp w : List Int32} (h : Z[t]? = some (sp, k, w)) (p : Nat) : (psn p Z)[t]? = some (k, p + ftl (Z.take t) + sp.length, p + ftl (Z.take t) + sp.length + w.length) := by
  have ht := (List.getElem?_eq_some_iff.mp h).1
  have e := psn_drop Z p t
  have hd : Z.drop t = (sp, k, w) :: Z.drop (t + 1) := by
    rw [List.drop_eq_getElem_cons ht]
    congr 1
    exact (List.getElem?_eq_some_iff.mp h).2
  rw [hd, psn_c] at e
  have := congrArg (fun l => l[0]?) e
  simpa using this
theorem tst_psn {Z : List ItC} {t k : Nat} {sp w : List Int32} (h : Z[t]? = some (sp, k, w)) : tst (psn 0 Z) t = ftl (Z.take t) + sp.length := by
  unfold tst
  rw [psn_get h]
  show 0 + ftl (Z.take t) + sp.length = _
  omega
theorem ten_psn {Z : List ItC} {t : Nat} (h : t < Z.length) : ten (psn 0 Z) t = ftl (Z.take (t + 1)) := by
  obtain ⟨sp, k, w⟩ : ItC := Z[t]
  have hz : Z[t]? = some Z[t] := List.getElem?_eq_getElem h
  unfold ten
  obtain ⟨⟨sp, k, w⟩, hq⟩ : ∃ q, Z[t] = q := ⟨_, rfl⟩
  rw [hq] at hz
  rw [psn_get hz]
  show 0 + ftl (Z.take t) + sp.length + w.length = _
  rw [List.take_add_one, hz]
  show _ = ftl (Z.take t ++ [(sp, k, w)])
  rw [ftl_app, ftl_c]
  show _ = _ + (_ + 0)
  omega
/-- tokens f .. b - 1 of a text, its first one's space left out -/
theorem sub_psn {Z R : List ItC} {t : List Int32} {f b k : Nat} {sp w : List Int32} (hfb : f < b) (hb : b ≤ Z.length) (h : (Z.drop f).take (b - f) = (sp, k, w) :: R) : tst (psn 0 Z) f = ftl (Z.take f) + sp.length ∧ ten (psn 0 Z) (b - 1) = ftl (Z.take f) + sp.length + (w ++ fl R []).length ∧ sub (fl Z t) (tst (psn 0 Z) f) (ten (psn 0 Z) (b - 1)) = w ++ fl R [] := by
  have hz : Z[f]? = some (sp, k, w) := by
    have := congrArg (fun l => l[0]?) h
    simp only [List.getElem?_cons_zero] at this
    rw [List.getElem?_take_of_lt (by omega), List.getElem?_drop] at this
    exact this
  have e1 := tst_psn hz
  have eZ : Z = Z.take f ++ (((sp, k, w) :: R) ++ Z.drop b) := by
    rw [← h]
    conv => lhs; rw [← List.take_append_drop f Z, ← List.take_append_drop (b - f) (Z.drop f)]
    rw [List.drop_drop, show f + (b - f) = b by omega]
  have eT : Z.take b = Z.take f ++ ((sp, k, w) :: R) := by
    rw [← h]
    conv => lhs; rw [show b = f + (b - f) by omega, List.take_add]
  have e2 : ten (psn 0 Z) (b - 1) = ftl (Z.take f) + sp.length + (w ++ fl R []).length := by
    rw [ten_psn (by omega), show b - 1 + 1 = b by omega, eT, ftl_app, ftl_c, List.length_append]
    show _ + (_ + _ + (fl R []).length) = _
    omega
  refine ⟨e1, e2, ?_⟩
  rw [e1, e2]
  unfold sub
  have eF : fl Z t = (fl (Z.take f) [] ++ sp) ++ ((w ++ fl R []) ++ fl (Z.drop b) t) := by
    conv => lhs; rw [eZ]
    rw [fl_app, fl_nl]
    show _ ++ (sp ++ (w ++ fl (R ++ Z.drop b) t)) = _
    rw [fl_app, fl_nl R]
    simp
  rw [eF]
  have l1 : (fl (Z.take f) [] ++ sp).length = ftl (Z.take f) + sp.length := by rw [List.length_append]; rfl
  rw [← l1, List.drop_left, Nat.add_sub_cancel_left, List.take_left]
theorem shf_psn {X Z R : List ItC} {f b k : Nat} {sp w sp1 : List Int32} (hfb : f < b) (hb : b ≤ Z.length) (h : (Z.drop f).take (b - f) = (sp, k, w) :: R) : psn 0 X ++ shf (psn 0 Z) f b (fl X sp1).length = psn 0 (X ++ (sp1, k, w) :: R) := by
  obtain ⟨e1, -, -⟩ := sub_psn (t := []) hfb hb h
  rw [psn_app]
  congr 1
  unfold shf
  rw [psn_drop, psn_take, h, psn_c, psn_c, e1]
  have l1 : (fl X sp1).length = ftl X + sp1.length := fl_len X sp1
  rw [l1, List.map_cons]
  congr 1
  · simp only [Nat.zero_add]
    congr 2 <;> omega
  · rw [show 0 + ftl (Z.take f) + sp.length + w.length = w.length + (ftl (Z.take f) + sp.length) by omega, psn_shift, List.map_map]
    rw [show 0 + ftl X + sp1.length + w.length = w.length + (ftl X + sp1.length) by omega, psn_shift (ftl X + sp1.length)]
    apply List.map_congr_left
    intro q _
    show (q.1, q.2.1 + (ftl (Z.take f) + sp.length) + (ftl X + sp1.length) - (ftl (Z.take f) + sp.length), q.2.2 + (ftl (Z.take f) + sp.length) + (ftl X + sp1.length) - (ftl (Z.take f) + sp.length)) = _
    congr 2 <;> omega
theorem psn_um : ∀ (Z : List MIt) (p : Nat), psn p (Z.map um) = psn p (Z.map un)
  | [], _ => rfl
  | (sp, m, k, w, mw) :: Z, p => by
    show (k, p + (List.replicate sp.length m).length, p + (List.replicate sp.length m).length + (List.replicate w.length mw).length) :: psn _ (Z.map um) = (k, p + sp.length, p + sp.length + w.length) :: psn _ (Z.map un)
    rw [List.length_replicate, List.length_replicate, psn_um Z]
theorem ftl_um : ∀ (Z : List MIt), ftl (Z.map um) = ftl (Z.map un)
  | [] => rfl
  | (sp, m, k, w, mw) :: Z => by
    show ftl ((List.replicate sp.length m, k, List.replicate w.length mw) :: Z.map um) = ftl ((sp, k, w) :: Z.map un)
    rw [ftl_c, ftl_c, ftl_um Z, List.length_replicate, List.length_replicate]
def TZ (I : mI) (o : Nat) (Z : List MIt) (t : List Int32) (m : Int32) : Prop := TXT I o (fl (Z.map un) t) (fl (Z.map um) (List.replicate t.length m)) (psn 0 (Z.map un))
/-- every token has a character -/
def WN (Z : List MIt) : Prop := ∀ z ∈ Z, z.2.2.2.1 ≠ []
theorem WN.wd0 {Z : List MIt} (h : WN Z) : ∀ z ∈ Z.map un, z.2.2 ≠ [] := fun z hz => by
  obtain ⟨y, hy, rfl⟩ := List.mem_map.mp hz
  exact h y hy
theorem WN.bd {Z : List MIt} (h : WN Z) (t : List Int32) : ∀ q ∈ psn 0 (Z.map un), q.2.1 < q.2.2 ∧ q.2.2 ≤ (fl (Z.map un) t).length := fun q hq => by
  have := psn_bd (Z.map un) 0 h.wd0 q hq
  rw [fl_len]
  omega
theorem WN.len : ∀ {Z : List MIt}, WN Z → Z.length ≤ ftl (Z.map un)
  | [], _ => Nat.zero_le _
  | (sp, m, k, w, mw) :: Z, h => by
    have ih := WN.len (Z := Z) (fun z hz => h z (List.mem_cons_of_mem _ hz))
    have hw : w ≠ [] := h _ List.mem_cons_self
    have : 0 < w.length := List.length_pos_iff.mpr hw
    show Z.length + 1 ≤ ftl ((sp, k, w) :: Z.map un)
    rw [ftl_c]
    omega
section IT
variable {E : XE} {d : Nat} {Q : Int32 → mI → mP → Prop} {P : mP} {o o' N N' : Nat}
theorem z_appendSpan (hT : TO P o N) (hT' : TO P o' N') (hN : N < 2 ^ 20) (hN' : N' < 2 ^ 20) (hap : apt o o') {I : mI} {X Z R : List MIt} {sp t : List Int32} {m m' : Int32} {z : MIt} (hx : TZ I o X sp m) (hx' : TZ I o' Z t m') (hW : WN X) (hW' : WN Z) (hs' : (fl (Z.map un) t).length ≤ N') {f b : Nat} (hfb : f < b) (hb : b ≤ Z.length) (hR : (Z.drop f).take (b - f) = z :: R) (hr : ftl ((X ++ sps z sp m :: R).map un) ≤ N) (h : ∀ I', FrK o I I' → TZ I' o (X ++ sps z sp m :: R) [] m → Q (nI 0) I' P) : V E (d + 2) m_Text_appendSpan 112 Q 0 [some (.inr o), some (.inr o'), some (.inl (nI f)), some (.inl (nI b)), none, none, none] [] 112 I P := by
  obtain ⟨sp0, m0, k, w, mw⟩ := z
  have hRu : ((Z.map un).drop f).take (b - f) = (sp0, k, w) :: R.map un := by rw [← List.map_drop, ← List.map_take, hR]; rfl
  have hRm : ((Z.map um).drop f).take (b - f) = (List.replicate sp0.length m0, k, List.replicate w.length mw) :: R.map um := by rw [← List.map_drop, ← List.map_take, hR]; rfl
  obtain ⟨e1, e2, e3⟩ := sub_psn (t := t) hfb (by rw [List.length_map]; exact hb) hRu
  obtain ⟨-, -, e4⟩ := sub_psn (t := List.replicate t.length m') hfb (by rw [List.length_map]; exact hb) hRm
  rw [psn_um] at e4
  have hw : w ≠ [] := by
    have : (sp0, m0, k, w, mw) ∈ Z := by
      have : (sp0, m0, k, w, mw) ∈ (Z.drop f).take (b - f) := by rw [hR]; exact List.mem_cons_self
      exact List.mem_of_mem_drop (List.mem_of_mem_take this)
    exact hW' _ this
  have hwl : 0 < w.length := List.length_pos_iff.mpr hw
  have hlen : (psn 0 (Z.map un)).length = Z.length := by rw [psn_len, List.length_map]
  have hZl := hW'.len
  have hfl := fl_len (Z.map un) t
  have hRl : R.length + 1 = b - f := by
    have := congrArg List.length hR
    rw [List.length_take, List.length_drop, List.length_cons] at this
    omega
  have hWR : WN R := fun y hy => hW' y (by
    have : y ∈ (Z.drop f).take (b - f) := by rw [hR]; exact List.mem_cons_of_mem _ hy
    exact List.mem_of_mem_drop (List.mem_of_mem_take this))
  have hRlen := hWR.len
  have hXl := hW.len
  have hr' : ftl (X.map un) + (sp.length + w.length + ftl (R.map un)) ≤ N := by
    have e : (X ++ sps (sp0, m0, k, w, mw) sp m :: R).map un = X.map un ++ (sp, k, w) :: R.map un := by rw [List.map_append]; rfl
    rw [e, ftl_app, ftl_c] at hr
    exact hr
  have hwR : (w ++ fl (R.map un) []).length = w.length + ftl (R.map un) := by rw [List.length_append]; rfl
  refine s_appendSpan hT hT' hN hN' hap hx hx' hs' (by rw [hlen]; omega) hfb (by rw [hlen]; exact hb) (hW'.bd t) (fun t' k' a e hft hq => ?_) (by rw [e1, e2, hwR]; omega) (by rw [e1, e2, hwR, fl_len]; omega) (by rw [psn_len, List.length_map]; omega) (fun I' hf hx2 => h I' hf ?_)
  · -- later tokens lie behind
    rw [e1]
    have htl : t' < (Z.map un).length := by
      have := (List.getElem?_eq_some_iff.mp hq).1
      rw [psn_len] at this
      exact this
    obtain ⟨⟨sp', k2, w'⟩, hz'⟩ : ∃ q, (Z.map un)[t']? = some q := ⟨_, List.getElem?_eq_getElem htl⟩
    rw [psn_get hz'] at hq
    cases hq
    by_cases et : t' = f
    · subst et
      have hz0 : (Z.map un)[t']? = some (sp0, k, w) := by
        have := congrArg (fun l => l[0]?) hRu
        simp only [List.getElem?_cons_zero] at this
        rw [List.getElem?_take_of_lt (by omega), List.getElem?_drop] at this
        exact this
      rw [hz0] at hz'
      cases hz'
      omega
    · have hz0 : (Z.map un)[f]? = some (sp0, k, w) := by
        have := congrArg (fun l => l[0]?) hRu
        simp only [List.getElem?_cons_zero] at this
        rw [List.getElem?_take_of_lt (by omega), List.getElem?_drop] at this
        exact this
      have : (Z.map un).take t' = (Z.map un).take f ++ (((Z.map un).drop f).take (t' - f)) := by
        conv => lhs; rw [show t' = f + (t' - f) by omega, List.take_add]
      rw [this, ftl_app]
      have hd : ((Z.map un).drop f).take (t' - f) = (sp0, k, w) :: (((Z.map un).drop f).take (t' - f)).drop 1 := by
        rw [List.drop_eq_getElem_cons (show f < (Z.map un).length by omega), show t' - f = t' - f - 1 + 1 by omega, List.take_succ_cons]
        congr 1
        exact (List.getElem?_eq_some_iff.mp hz0).2
      rw [hd, ftl_c]
      omega
  · unfold TZ
    have eu : (X ++ sps (sp0, m0, k, w, mw) sp m :: R).map un = X.map un ++ (sp, k, w) :: R.map un := by rw [List.map_append]; rfl
    have em : (X ++ sps (sp0, m0, k, w, mw) sp m :: R).map um = X.map um ++ (List.replicate sp.length m, k, List.replicate w.length mw) :: R.map um := by rw [List.map_append]; rfl
    rw [eu, em, ← shf_psn hfb (by rw [List.length_map]; exact hb) hRu, fl_app, fl_app]
    rw [e3, e4] at hx2
    show TXT I' o (fl (X.map un) (sp ++ (w ++ fl (R.map un) []))) (fl (X.map um) (List.replicate sp.length m ++ (List.replicate w.length mw ++ fl (R.map um) []))) _
    rw [fl_nl (X.map un) (sp ++ _), fl_nl (X.map um) (_ ++ _)]
    rw [fl_nl (X.map un) sp, fl_nl (X.map um) (List.replicate sp.length m), List.append_assoc, List.append_assoc] at hx2
    rw [fl_nl (X.map un) sp]
    exact hx2
end IT
end
section
/-! Templates are filled: the class. -/
theorem drop_it {α : Type} {Z : List α} {t : Nat} {z : α} (h : Z[t]? = some z) : Z.drop t = z :: Z.drop (t + 1) := by
  rw [List.drop_eq_getElem_cons (List.getElem?_eq_some_iff.mp h).1]
  congr 1
  exact (List.getElem?_eq_some_iff.mp h).2
theorem fl_at {Z : List ItC} {t k : Nat} {sp w tl : List Int32} (h : Z[t]? = some (sp, k, w)) : fl Z tl = fl (Z.take t) [] ++ (sp ++ (w ++ fl (Z.drop (t + 1)) tl)) := by
  conv => lhs; rw [← List.take_append_drop t Z, drop_it h, fl_app, fl_nl]
  rfl
theorem spa_psn {Z : List ItC} {t : Nat} (h : t ≤ Z.length) : spa (psn 0 Z) t = ftl (Z.take t) := by
  cases t with
  | zero => rfl
  | succ t => exact ten_psn (by omega)
section FI
variable {E : XE} {d : Nat} {Q : Int32 → mI → mP → Prop} {P : mP} {o o' N N' : Nat}
theorem z_appendSpace (hT : TO P o N) (hT' : TO P o' N') (hN : N < 2 ^ 20) (hN' : N' < 2 ^ 20) (hap : apt o o') {I : mI} {X Z : List MIt} {t sp : List Int32} {m m' m2 : Int32} (hx : TZ I o X [] m) (hx' : TZ I o' Z t m') (hW' : WN Z) (hs' : (fl (Z.map un) t).length ≤ N') {i : Nat} (hi : i ≤ Z.length) (hsp : (∃ y, Z[i]? = some (sp, m2, y)) ∨ (i = Z.length ∧ sp = t ∧ m2 = m')) (hr : ftl (X.map un) + sp.length ≤ N) (h : ∀ I', FrK o I I' → TZ I' o X sp m2 → Q (nI 0) I' P) : V E (d + 2) m_Text_appendSpace 112 Q 0 [some (.inr o), some (.inr o'), some (.inl (nI i)), none, none] [] 112 I P := by
  have hlen : (psn 0 (Z.map un)).length = Z.length := by rw [psn_len, List.length_map]
  have hZl := hW'.len
  have hfl := fl_len (Z.map un) t
  have e1 : spa (psn 0 (Z.map un)) i = ftl ((Z.map un).take i) := spa_psn (by rw [List.length_map]; exact hi)
  have key : spe (psn 0 (Z.map un)) (fl (Z.map un) t).length i = ftl ((Z.map un).take i) + sp.length ∧ sub (fl (Z.map un) t) (ftl ((Z.map un).take i)) (ftl ((Z.map un).take i) + sp.length) = sp ∧ sub (fl (Z.map um) (List.replicate t.length m')) (ftl ((Z.map un).take i)) (ftl ((Z.map un).take i) + sp.length) = List.replicate sp.length m2 ∧ ftl ((Z.map un).take i) + sp.length ≤ (fl (Z.map un) t).length := by
    have cut : ∀ (a b c : List Int32), sub (a ++ (b ++ c)) a.length (a.length + b.length) = b := by
      intro a b c
      unfold sub
      rw [List.drop_left, Nat.add_sub_cancel_left, List.take_left]
    have cut' : ∀ (a b c : List Int32) (n k : Nat), a.length = n → b.length = k → sub (a ++ (b ++ c)) n (n + k) = b := by
      intro a b c n k h1 h2
      subst h1
      subst h2
      exact cut a b c
    have lm : (fl ((Z.map um).take i) []).length = ftl ((Z.map un).take i) := by
      rw [← List.map_take, ← List.map_take]
      exact ftl_um _
    rcases hsp with ⟨⟨k, w, mw⟩, hz⟩ | ⟨rfl, rfl, rfl⟩
    · have hil : i < Z.length := (List.getElem?_eq_some_iff.mp hz).1
      have hzu : (Z.map un)[i]? = some (sp, k, w) := by rw [List.getElem?_map, hz]; rfl
      have hzm : (Z.map um)[i]? = some (List.replicate sp.length m2, k, List.replicate w.length mw) := by rw [List.getElem?_map, hz]; rfl
      refine ⟨?_, ?_, ?_, ?_⟩
      · unfold spe
        rw [if_pos (by rw [hlen]; exact hil), tst_psn hzu]
      · rw [fl_at hzu]
        exact cut' _ _ _ _ _ rfl rfl
      · rw [fl_at hzm]
        exact cut' _ _ _ _ _ lm (List.length_replicate ..)
      · rw [fl_at hzu, List.length_append, List.length_append]
        show _ ≤ ftl _ + _
        omega
    · have et : (Z.map un).take Z.length = Z.map un := List.take_of_length_le (by rw [List.length_map]; exact Nat.le_refl _)
      rw [et] at lm ⊢
      refine ⟨?_, ?_, ?_, ?_⟩
      · unfold spe
        rw [if_neg (by rw [hlen]; omega), hfl]
      · rw [fl_nl]
        have := cut' (fl (Z.map un) []) sp [] _ _ rfl rfl
        rw [List.append_nil] at this
        exact this
      · rw [fl_nl]
        have := cut' (fl (Z.map um) []) (List.replicate sp.length m2) [] (ftl (Z.map un)) sp.length (ftl_um Z) (List.length_replicate ..)
        rw [List.append_nil] at this
        exact this
      · rw [hfl]
        exact Nat.le_refl _
  obtain ⟨k1, k2, k3, k4⟩ := key
  refine s_appendSpace hT hT' hN hN' hap hx hx' hs' (by rw [hlen]; omega) (by rw [hlen]; exact hi) (by rw [e1, k1]; omega) (by rw [k1]; exact k4) (by rw [e1, k1, fl_len]; simp; omega) (fun I' hf hx2 => h I' hf ?_)
  rw [e1, k1, k2, k3] at hx2
  unfold TZ
  rw [fl_nl (X.map un) sp, fl_nl (X.map um) (List.replicate sp.length m2)]
  exact hx2
theorem z_cutAt (hT : TO P o N) (hN : N < 2 ^ 20) {I : mI} {X : List MIt} {m m2 : Int32} {sp : List Int32} (hx : TZ I o X [] m) (hW : WN X) (hs : ftl (X.map un) ≤ N) {i : Nat} {y : Nat × List Int32 × Int32} (hz : X[i]? = some (sp, m2, y)) (h : ∀ I', FrK o I I' → TZ I' o (X.take i) sp m2 → Q (nI 0) I' P) : V E d m_Text_cutAt 112 Q 0 [some (.inr o), some (.inl (nI i))] [] 112 I P := by
  obtain ⟨k, w, mw⟩ := y
  have hil : i < X.length := (List.getElem?_eq_some_iff.mp hz).1
  have hzu : (X.map un)[i]? = some (sp, k, w) := by rw [List.getElem?_map, hz]; rfl
  have hzm : (X.map um)[i]? = some (List.replicate sp.length m2, k, List.replicate w.length mw) := by rw [List.getElem?_map, hz]; rfl
  have hXl := hW.len
  have hfl := fl_len (X.map un) []
  have et := tst_psn hzu
  have lm : (fl ((X.map um).take i) []).length = ftl ((X.map un).take i) := by
    rw [← List.map_take, ← List.map_take]
    exact ftl_um _
  have cut : ∀ (a b c : List Int32) (n : Nat), a.length + b.length = n → (a ++ (b ++ c)).take n = a ++ b := by
    intro a b c n hn
    rw [← List.append_assoc, List.take_left' (by rw [List.length_append]; exact hn)]
  refine s_cutAt hT hN hx (by rw [psn_len, List.length_map]; omega) (by rw [hfl]; simpa using hs) (by rw [psn_len, List.length_map]; exact hil) ?_ (fun I' hf hx2 => h I' hf ?_)
  · rw [et, fl_at hzu, List.length_append, List.length_append]
    show _ ≤ ftl _ + _
    omega
  · unfold TZ
    rw [et] at hx2
    have a1 : (fl (X.map un) []).take (ftl ((X.map un).take i) + sp.length) = fl ((X.take i).map un) sp := by
      rw [fl_at hzu, cut _ _ _ (ftl ((X.map un).take i) + sp.length) rfl, ← fl_nl, List.map_take]
    have a2 : (fl (X.map um) (List.replicate ([] : List Int32).length m)).take (ftl ((X.map un).take i) + sp.length) = fl ((X.take i).map um) (List.replicate sp.length m2) := by
      rw [fl_at hzm, cut _ _ _ _ (by rw [lm, List.length_replicate]), ← fl_nl, List.map_take]
    rw [a1, a2, psn_take, ← List.map_take] at hx2
    exact hx2
end FI
/-- the figure of a hole -/
def dgw (w : List Int32) : Nat := match w with
  | _ :: x :: _ => (x - nI 48).toNatClampNeg
  | _ => 0
theorem isD_n {x : Int32} (h : isD x = true) : ∃ dg, dg < 10 ∧ x = nI (48 + dg) := by
  have h' := of_decide_eq_true h
  refine ⟨(x.toInt - 48).toNat, by omega, ?_⟩
  rw [eqn (by omega)]
  omega
theorem okw3 {w r : List Int32} (h : okw 3 w r) : ∃ c dg, dg < 10 ∧ w = [c, nI (48 + dg)] ∧ dgw w = dg := by
  obtain ⟨c, cs, rfl, -, -, h3, h4⟩ := h
  have h5 : cs.length = 1 := by
    unfold tkN at h4
    rw [if_pos rfl] at h4
    exact h4.symm
  match cs, h5 with
  | [x], _ =>
    have hx : isD x = true := by
      unfold tkK at h3
      simp only [List.singleton_append] at h3
      repeat' (split at h3)
      all_goals (first | assumption | (exact absurd h3 (by decide)))
    obtain ⟨dg, hd, rfl⟩ := isD_n hx
    refine ⟨c, dg, hd, rfl, ?_⟩
    show (nI (48 + dg) - nI 48).toNatClampNeg = dg
    rw [dig_e, clp (by omega)]
theorem LX_at : ∀ {Z : List ItC} {t : List Int32}, LX Z t → ∀ {i k : Nat} {sp w : List Int32}, Z[i]? = some (sp, k, w) → clo false sp = true ∧ okw k w (fl (Z.drop (i + 1)) t)
  | [], _, _, i, k, sp, w, e => by simp at e
  | (sp0, k0, w0) :: Z, t, h, 0, k, sp, w, e => by
    cases e
    exact ⟨h.1, h.2.1⟩
  | (sp0, k0, w0) :: Z, t, h, i + 1, k, sp, w, e => LX_at (Z := Z) (t := t) h.2.2 e
theorem dgt_psn {Z : List ItC} {t : List Int32} {i k : Nat} {sp w : List Int32} (h : Z[i]? = some (sp, k, w)) {x : Int32} (hw : w[1]? = some x) : (fl Z t)[tst (psn 0 Z) i + 1]? = some x := by
  rw [tst_psn h, fl_at h, ← List.append_assoc]
  rw [List.getElem?_append_right (by rw [List.length_append]; unfold ftl; omega)]
  rw [List.length_append, show ftl (Z.take i) + sp.length + 1 - ((fl (Z.take i) []).length + sp.length) = 1 by unfold ftl; omega]
  rw [List.getElem?_append_left (List.getElem?_eq_some_iff.mp hw).1]
  exact hw
theorem HD_LX {Z : List ItC} {t : List Int32} (h : LX Z t) : HD (fl Z t) (psn 0 Z) ∧ ∀ i sp w, Z[i]? = some (sp, 3, w) → dgt (fl Z t) (psn 0 Z) i = dgw w := by
  have key : ∀ i sp w, Z[i]? = some (sp, 3, w) → dgt (fl Z t) (psn 0 Z) i = dgw w ∧ dgw w < 10 ∧ (fl Z t)[tst (psn 0 Z) i + 1]? = some (nI (48 + dgw w)) := by
    intro i sp w e
    obtain ⟨c, dg, hd, hw, hdg⟩ := okw3 (LX_at h e).2
    have e2 := dgt_psn (t := t) e (x := nI (48 + dg)) (by rw [hw]; rfl)
    refine ⟨?_, by omega, by rw [hdg]; exact e2⟩
    unfold dgt
    rw [e2, hdg]
    show (nI (48 + dg) - nI 48).toNatClampNeg = dg
    rw [dig_e, clp (by omega)]
  refine ⟨fun i a b e => ?_, fun i sp w e => (key i sp w e).1⟩
  have hil : i < Z.length := by
    have := (List.getElem?_eq_some_iff.mp e).1
    rw [psn_len] at this
    exact this
  obtain ⟨⟨sp, k, w⟩, hz⟩ : ∃ q, Z[i]? = some q := ⟨_, List.getElem?_eq_getElem hil⟩
  rw [psn_get hz] at e
  cases e
  obtain ⟨k1, k2, k3⟩ := key i sp w hz
  rw [k1]
  exact ⟨k2, k3⟩
/-- the template, its holes filled -/
def fil (Zo : List MIt) (B : BN) (num : Int32) : Bool → List ItC → List MIt
  | _, [] => []
  | fst, (sp, k, w) :: T => (if k = 3 then (match B (dgw w) with
      | some (f, b) => (match (Zo.drop f).take (b - f) with
        | z :: R => sps z (if fst = true then [] else sp) num :: R
        | [] => [])
      | none => []) else [((if fst = true then [] else sp), num, k, w, num)]) ++ fil Zo B num false T
end
section
/-! How long a filled template is, and the template filled: the class. -/
def mkr (n : Int32) (Z : List ItC) : List MIt := Z.map (fun z => (z.1, n, z.2.1, z.2.2, n))
theorem mkr_un (n : Int32) (Z : List ItC) : (mkr n Z).map un = Z := by
  unfold mkr
  rw [List.map_map]
  conv => rhs; rw [← List.map_id Z]
  rfl
/-- the rule in cell o: its tokens and where its arrow is -/
def RLz (I : mI) (o : Nat) (Z : List ItC) (t mk : List Int32) (ar : Nat) : Prop := I o 1 = nI ar ∧ TXT I (o + 1) (fl Z t) mk (psn 0 Z) ∧ LX Z t ∧ (fl Z t).length ≤ 60 ∧ ar + 1 < Z.length ∧ k10 (Z.map (fun z => z.2.1))
theorem kds_psn (Z : List ItC) : ∀ p, (psn p Z).map Prod.fst = Z.map (fun z => z.2.1) := by
  induction Z with
  | nil => intro p; rfl
  | cons z Z ih =>
    intro p
    obtain ⟨sp, k, w⟩ := z
    rw [psn_c, List.map_cons, ih]
    rfl
theorem LX_len {Z : List ItC} {t : List Int32} (h : LX Z t) : Z.length ≤ (fl Z t).length := by
  have h1 : WN (mkr 0 Z) := fun z hz => by
    obtain ⟨y, hy, rfl⟩ := List.mem_map.mp hz
    exact LX_w Z t h y hy
  have := h1.len
  rw [mkr_un] at this
  rw [fl_len]
  unfold mkr at this
  rw [List.length_map] at this
  omega
theorem LX_bd {Z : List ItC} {t : List Int32} (h : LX Z t) : ∀ q ∈ psn 0 Z, q.2.1 < q.2.2 ∧ q.2.2 ≤ (fl Z t).length := fun q hq => by
  have := psn_bd Z 0 (LX_w Z t h) q hq
  rw [fl_len]
  omega
/-- all holes of the template are bound, to tokens that are there -/
def BK (B : BN) (n : Nat) (T : List ItC) : Prop := ∀ sp w, (sp, 3, w) ∈ T → ∃ f b, B (dgw w) = some (f, b) ∧ f < b ∧ b ≤ n
def rem0 (fst : Bool) (T : List ItC) : Nat := ftl T - (if fst = true then (match T with
  | (sp, _, _) :: _ => sp.length
  | [] => 0) else 0)
section FZ
variable {E : XE} {d : Nat} {Q : Int32 → mI → mP → Prop} {P : mP} {o o' N' : Nat} {Z : List ItC} {t mk : List Int32} {Zo : List MIt} {to : List Int32} {mo : Int32} {ar : Nat} {B : BN}
theorem fil_hole {num : Int32} {fst : Bool} {sp w : List Int32} {T : List ItC} {f b : Nat} {z : MIt} {R : List MIt} (hB : B (dgw w) = some (f, b)) (hR : (Zo.drop f).take (b - f) = z :: R) : fil Zo B num fst ((sp, 3, w) :: T) = (sps z (if fst = true then [] else sp) num :: R) ++ fil Zo B num false T := by
  show (if 3 = 3 then _ else _) ++ _ = _
  rw [if_pos rfl, hB]
  dsimp only
  rw [hR]
theorem fil_tok {num : Int32} {fst : Bool} {sp w : List Int32} {k : Nat} {T : List ItC} (hk : k ≠ 3) : fil Zo B num fst ((sp, k, w) :: T) = [((if fst = true then [] else sp), num, k, w, num)] ++ fil Zo B num false T := by
  show (if k = 3 then _ else _) ++ _ = _
  rw [if_neg hk]
theorem tkd {f b : Nat} (h1 : f < b) (h2 : b ≤ Zo.length) : ∃ z R, (Zo.drop f).take (b - f) = z :: R := by
  refine ⟨Zo[f], (Zo.drop (f + 1)).take (b - f - 1), ?_⟩
  rw [List.drop_eq_getElem_cons (show f < Zo.length by omega), show b - f = b - f - 1 + 1 by omega, List.take_succ_cons]
  rfl
theorem l_filledSize (hO : RO P o) (hT' : TO P o' N') (hN' : N' < 2 ^ 20) {I : mI} (hR : RLz I o Z t mk ar) (hx' : TZ I o' Zo to mo) (hW' : WN Zo) (hs' : (fl (Zo.map un) to).length ≤ N') (hBR : BR I o B Zo.length) (num : Int32) : ∀ (n i L : Nat) (fst : Bool), i + n = Z.length → BK B Zo.length (Z.drop i) → Q (nI (L + ftl ((fil Zo B num fst (Z.drop i)).map un))) I P → V E (d + 2) m_Rule_filledSize 112 Q 28 [some (.inr o), some (.inr o'), some (.inl (nI (L + rem0 fst (Z.drop i)))), some (.inl (nI i)), none] [] 112 I P := by
  obtain ⟨o0, o1, oT, ⟨o2, k2⟩, ⟨o3, k3⟩⟩ := hO
  obtain ⟨hI1, hx, hLX, h60, hal, hk10⟩ := hR
  have hZl := LX_len hLX
  have hpl : (psn 0 Z).length = Z.length := psn_len 0 Z
  have hZo := hW'.len
  have hfo := fl_len (Zo.map un) to
  have hkk := kds_psn Z 0
  obtain ⟨hHD, hdg⟩ := HD_LX hLX
  intro n
  induction n with
  | zero =>
    intro i L fst hi hBK h
    refine x_Rule_filledSize_28 _ _ _ _ ?_
    simp only [o0, o1, oT.1, nzz 1 (by decide), true_and]
    rw [hx.2.2.2.2.1, hpl]
    refine pk_le Z.length i (fun _ => ?_) (fun q => by omega)
    rw [List.drop_eq_nil_of_le (by omega)] at h ⊢
    have e : rem0 fst [] = 0 := by cases fst <;> rfl
    rw [e]
    exact h
  | succ n ih =>
    intro i L fst hi hBK h
    have hil : i < Z.length := by omega
    obtain ⟨⟨sp, k, w⟩, hz⟩ : ∃ q, Z[i]? = some q := ⟨_, List.getElem?_eq_getElem hil⟩
    have hdr := drop_it hz
    refine x_Rule_filledSize_28 _ _ _ _ ?_
    simp only [o0, o1, oT.1, nzz 1 (by decide), true_and]
    rw [hx.2.2.2.2.1, hpl]
    refine pk_le Z.length i (fun q => by omega) (fun _ => ?_)
    have hk : (Z.map (fun z => z.2.1))[i]? = some k := by rw [List.getElem?_map, hz]; rfl
    have er : rem0 fst ((sp, k, w) :: Z.drop (i + 1)) = (if fst = true then ([] : List Int32) else sp).length + w.length + ftl (Z.drop (i + 1)) := by
      unfold rem0
      rw [ftl_c]
      cases fst
      · rw [if_neg (by decide), if_neg (by decide)]
        omega
      · rw [if_pos rfl, if_pos rfl]
        show _ - sp.length = 0 + _ + _
        omega
    have er2 : rem0 false (Z.drop (i + 1)) = ftl (Z.drop (i + 1)) := by
      unfold rem0
      rw [if_neg (by decide)]
      omega
    have hBK2 : BK B Zo.length (Z.drop (i + 1)) := fun sp' w' hm => hBK sp' w' (by rw [hdr]; exact List.mem_cons_of_mem _ hm)
    rw [hdr, er]
    refine s_isHole (d := d) oT (by decide) hx.2.2.2.2.kr (by rw [hkk, List.length_map]; omega) (by rw [hkk]; exact hk10) (by omega) (bz_i (fun c => ?_) (fun c => ?_))
    · have hk3 : k ≠ 3 := by
        intro e
        subst e
        rw [hkk, hk] at c
        exact absurd c (by decide)
      rw [n1]
      have g := ih (i + 1) (L + (if fst = true then ([] : List Int32) else sp).length + w.length) false (by omega) hBK2 (by
        rw [hdr, fil_tok hk3, List.map_append, ftl_app] at h
        have e : ftl (List.map un [((if fst = true then [] else sp), num, k, w, num)]) = (if fst = true then ([] : List Int32) else sp).length + w.length := by
          show ftl [((if fst = true then [] else sp), k, w)] = _
          rw [ftl_c]
          rfl
        rw [e] at h
        rw [show L + (if fst = true then ([] : List Int32) else sp).length + w.length + ftl (List.map un (fil Zo B num false (Z.drop (i + 1)))) = L + ((if fst = true then ([] : List Int32) else sp).length + w.length + ftl (List.map un (fil Zo B num false (Z.drop (i + 1))))) by omega]
        exact h)
      rw [er2] at g
      rw [show L + ((if fst = true then ([] : List Int32) else sp).length + w.length + ftl (Z.drop (i + 1))) = L + (if fst = true then ([] : List Int32) else sp).length + w.length + ftl (Z.drop (i + 1)) by omega]
      exact g
    · have hk3 : k = 3 := by
        rw [hkk, hk] at c
        simpa using c
      subst hk3
      obtain ⟨f, b, hB, hfb, hb⟩ := hBK sp w (by rw [hdr]; exact List.mem_cons_self)
      obtain ⟨z, R, hzR⟩ := tkd hfb hb
      obtain ⟨c0, dg, hd10, hww, hdw⟩ := okw3 (LX_at hLX hz).2
      have hch := dgt_psn (t := t) hz (x := nI (48 + dg)) (by rw [hww]; rfl)
      rw [hdw] at hB
      obtain ⟨b1, b2, -, -⟩ := (hBR dg hd10).2 f b hB
      simp only [o0, o1, oT.1, nzz 1 (by decide), true_and]
      refine s_digitOf oT (by decide) hx h60 (by omega) (by omega) hch ?_
      rw [dig_e]
      simp only [o0, o2, k2, o3, k3, nzz 7 (by decide), nzz 8 (by decide), true_and]
      rw [clp (show dg < 2 ^ 31 by omega), b1, b2]
      refine ⟨vp_in_nI hd10 (by decide), vp_in_nI hd10 (by decide), hT'.1, ?_⟩
      obtain ⟨spz, mz, kz, wz, mwz⟩ := z
      have hRu : ((Zo.map un).drop f).take (b - f) = (spz, kz, wz) :: R.map un := by rw [← List.map_drop, ← List.map_take, hzR]; rfl
      obtain ⟨e1, e2, -⟩ := sub_psn (t := to) hfb (by rw [List.length_map]; exact hb) hRu
      have hwR : (wz ++ fl (R.map un) []).length = wz.length + ftl (R.map un) := by rw [List.length_append]; rfl
      have hlo : (psn 0 (Zo.map un)).length = Zo.length := by rw [psn_len, List.length_map]
      refine s_spanSize hT' hN' hx'.2.2.2.2 (by rw [hlo]; omega) hfb (by rw [hlo]; exact hb) (by rw [e1, e2]; omega) ?_
      simp only [o0, o1, oT.1, nzz 1 (by decide), true_and]
      rw [n1]
      have hRu2 : (Z.drop i).take (i + 1 - i) = (sp, 3, w) :: [] := by rw [hdr, show i + 1 - i = 1 by omega]; rfl
      obtain ⟨g1, g2, -⟩ := sub_psn (t := t) (show i < i + 1 by omega) (by omega) hRu2
      have hw0 : (w ++ fl [] []).length = w.length := by rw [List.length_append]; rfl
      rw [hw0] at g2
      refine s_spanSize oT (by decide) hx.2.2.2.2 (by omega) (by omega) (by omega) (by rw [g1, g2]; omega) ?_
      rw [g1, g2, e1, e2, hwR, Nat.add_sub_cancel_left, Nat.add_sub_cancel_left, sub3 (by omega)]
      have g := ih (i + 1) (L + (if fst = true then ([] : List Int32) else sp).length + (wz.length + ftl (R.map un))) false (by omega) hBK2 (by
        rw [hdr, fil_hole (by rw [hdw]; exact hB) hzR, List.map_append, ftl_app] at h
        have e : ftl (List.map un (sps (spz, mz, kz, wz, mwz) (if fst = true then [] else sp) num :: R)) = (if fst = true then ([] : List Int32) else sp).length + (wz.length + ftl (R.map un)) := by
          show ftl (((if fst = true then [] else sp), kz, wz) :: R.map un) = _
          rw [ftl_c]
          omega
        rw [e] at h
        rw [Nat.add_assoc, Nat.add_assoc L] at *
        exact h)
      rw [er2] at g
      rw [show L + ((if fst = true then ([] : List Int32) else sp).length + w.length + ftl (Z.drop (i + 1))) + (wz.length + ftl (R.map un)) - w.length = L + (if fst = true then ([] : List Int32) else sp).length + (wz.length + ftl (R.map un)) + ftl (Z.drop (i + 1)) by omega]
      exact g
theorem s_filledSize (hO : RO P o) (hT' : TO P o' N') (hN' : N' < 2 ^ 20) {I : mI} (hR : RLz I o Z t mk ar) (hx' : TZ I o' Zo to mo) (hW' : WN Zo) (hs' : (fl (Zo.map un) to).length ≤ N') (hBR : BR I o B Zo.length) (num : Int32) (hBK : BK B Zo.length (Z.drop (ar + 1))) (h : Q (nI (ftl ((fil Zo B num true (Z.drop (ar + 1))).map un))) I P) : V E (d + 2) m_Rule_filledSize 112 Q 0 [some (.inr o), some (.inr o'), none, none, none] [] 112 I P := by
  have hOO := hO
  have hRR := hR
  obtain ⟨o0, o1, oT, -, -⟩ := hO
  obtain ⟨hI1, hx, hLX, h60, hal, hk10⟩ := hR
  have hpl : (psn 0 Z).length = Z.length := psn_len 0 Z
  have hZl := LX_len hLX
  obtain ⟨⟨sp, k, w⟩, hz⟩ : ∃ q, Z[ar + 1]? = some q := ⟨_, List.getElem?_eq_getElem hal⟩
  have hdr := drop_it hz
  refine x_Rule_filledSize_0 _ _ ?_
  simp only [o0, o1, oT.1, nzz 1 (by decide), true_and]
  rw [hI1, n1, hx.2.2.2.2.1, hpl]
  have hRu2 : (Z.drop (ar + 1)).take (Z.length - (ar + 1)) = (sp, k, w) :: Z.drop (ar + 2) := by
    rw [List.take_of_length_le (by rw [List.length_drop]; omega), hdr]
  obtain ⟨g1, g2, -⟩ := sub_psn (t := t) hal (Nat.le_refl _) hRu2
  have hw0 : (w ++ fl (Z.drop (ar + 2)) []).length = w.length + ftl (Z.drop (ar + 2)) := by rw [List.length_append]; rfl
  rw [hw0] at g2
  refine s_spanSize oT (by decide) hx.2.2.2.2 (by omega) hal (by omega) (by rw [g1, g2]; omega) ?_
  rw [hI1, n1, g1, g2, Nat.add_sub_cancel_left]
  have := l_filledSize (d := d) (E := E) (Q := Q) hOO hT' hN' hRR hx' hW' hs' hBR num (Z.length - (ar + 1)) (ar + 1) 0 true (by omega) hBK (by rw [Nat.zero_add]; exact h)
  have er : rem0 true (Z.drop (ar + 1)) = w.length + ftl (Z.drop (ar + 2)) := by
    rw [hdr]
    unfold rem0
    rw [ftl_c, if_pos rfl]
    show sp.length + w.length + ftl (Z.drop (ar + 2)) - sp.length = _
    omega
  rw [er, Nat.zero_add] at this
  exact this
end FZ
end
section
theorem mkr_um (n : Int32) : ∀ (Z : List ItC) (t : List Int32), fl ((mkr n Z).map um) (List.replicate t.length n) = List.replicate (fl Z t).length n
  | [], t => rfl
  | (sp, k, w) :: Z, t => by
    show List.replicate sp.length n ++ (List.replicate w.length n ++ fl ((mkr n Z).map um) (List.replicate t.length n)) = List.replicate (sp ++ (w ++ fl Z t)).length n
    rw [mkr_um n Z t, List.replicate_append_replicate, List.replicate_append_replicate, List.length_append, List.length_append]
theorem mkr_wn {n : Int32} {Z : List ItC} {t : List Int32} (h : LX Z t) : WN (mkr n Z) := fun z hz => by
  obtain ⟨y, hy, rfl⟩ := List.mem_map.mp hz
  exact LX_w Z t h y hy
theorem mkr_len (n : Int32) (Z : List ItC) : (mkr n Z).length = Z.length := List.length_map _
theorem mkr_at {n : Int32} {Z : List ItC} {i k : Nat} {sp w : List Int32} (h : Z[i]? = some (sp, k, w)) : (mkr n Z)[i]? = some (sp, n, k, w, n) := by
  unfold mkr
  rw [List.getElem?_map, h]
  rfl
theorem WN.app {A B : List MIt} (h : WN A) (h' : WN B) : WN (A ++ B) := fun z hz => (List.mem_append.mp hz).elim (h z) (h' z)
section FF
variable {E : XE} {d : Nat} {Q : Int32 → mI → mP → Prop} {P : mP} {o o' op N' : Nat} {Z : List ItC} {t mk : List Int32} {Zo : List MIt} {to : List Int32} {mo : Int32} {ar : Nat} {B : BN} {num : Int32}
theorem l_fill (hO : RO P o) (hT' : TO P o' N') (hTp : TO P op 120) (hN' : N' < 2 ^ 20) (ha1 : apt op o') (ha2 : op + 5 < o ∨ o + 8 < op) (hLX : LX Z t) (h60 : (fl Z t).length ≤ 60) (hk10 : k10 (Z.map (fun z => z.2.1))) (hW' : WN Zo) (hs' : (fl (Zo.map un) to).length ≤ N') (har : ar + 1 < Z.length) : ∀ (n i : Nat) (X : List MIt) (I : mI) (fst : Bool), i + n = Z.length → ar + 1 ≤ i → (fst = true ↔ i ≤ ar + 1) → I o 1 = nI ar → TZ I (o + 1) (mkr num Z) t num → TZ I o' Zo to mo → BR I o B Zo.length → TZ I op X [] num → WN X → BK B Zo.length (Z.drop i) → ftl ((X ++ fil Zo B num fst (Z.drop i)).map un) ≤ 120 →
    (∀ I', FrK op I I' → TZ I' op (X ++ fil Zo B num fst (Z.drop i)) [] num → WN (X ++ fil Zo B num fst (Z.drop i)) → Q (nI 0) I' P) → V E (d + 3) m_Rule_fill 112 Q 28 [some (.inr o), some (.inr op), some (.inr o'), none, some (.inl (nI i)), none] [] 112 I P := by
  have hOO := hO
  obtain ⟨o0, o1, oT, ⟨o2, k2⟩, ⟨o3, k3⟩⟩ := hO
  have hZl := LX_len hLX
  have hpl : (psn 0 Z).length = Z.length := psn_len 0 Z
  have hZo := hW'.len
  have hfo := fl_len (Zo.map un) to
  have hkk := kds_psn Z 0
  have hfz := fl_len Z t
  have hap : apt op (o + 1) := by unfold apt; omega
  have hWr : WN (mkr num Z) := mkr_wn hLX
  have hmu := mkr_un num Z
  have hml := mkr_len num Z
  intro n
  induction n with
  | zero =>
    intro i X I fst hi hai hf h1 hx hx' hBR hX hWX hBK hr h
    refine x_Rule_fill_28 _ _ _ _ ?_
    simp only [o0, o1, oT.1, nzz 1 (by decide), true_and]
    rw [hx.2.2.2.2.1, hmu, hpl]
    refine pk_le Z.length i (fun _ => ?_) (fun q => by omega)
    rw [List.drop_eq_nil_of_le (by omega)] at h
    have e : fil Zo B num fst [] = [] := by cases fst <;> rfl
    rw [e, List.append_nil] at h
    exact h I FrK.rf hX hWX
  | succ n ih =>
    intro i X I fst hi hai hf h1 hx hx' hBR hX hWX hBK hr h
    have hil : i < Z.length := by omega
    obtain ⟨⟨sp, k, w⟩, hz⟩ : ∃ q, Z[i]? = some q := ⟨_, List.getElem?_eq_getElem hil⟩
    have hdr := drop_it hz
    have hk : (Z.map (fun z => z.2.1))[i]? = some k := by rw [List.getElem?_map, hz]; rfl
    have hBK2 : BK B Zo.length (Z.drop (i + 1)) := fun sp' w' hm => hBK sp' w' (by rw [hdr]; exact List.mem_cons_of_mem _ hm)
    rw [hdr] at hr h
    -- from 61 on: the space has been put
    have s61 : ∀ (I1 : mI), FrK op I I1 → TZ I1 op X (if fst = true then [] else sp) num → V E (d + 3) m_Rule_fill 112 Q 61 [some (.inr o), some (.inr op), some (.inr o'), none, some (.inl (nI i)), none] [] 112 I1 P := by
      intro I1 f1 hX1
      have hx1 : TZ I1 (o + 1) (mkr num Z) t num := f1.txt hap hx
      have hx1' : TZ I1 o' Zo to mo := f1.txt ha1 hx'
      have hB1 : BR I1 o B Zo.length := fun d' hd' => by
        rw [f1 (o + 7) (by omega), f1 (o + 8) (by omega)]
        exact hBR d' hd'
      have hkr := hx1.2.2.2.2.kr
      rw [hmu] at hkr
      have go : ∀ (Y : List MIt), WN Y → fil Zo B num fst ((sp, k, w) :: Z.drop (i + 1)) = Y ++ fil Zo B num false (Z.drop (i + 1)) → ∀ I2, FrK op I1 I2 → TZ I2 op (X ++ Y) [] num → V E (d + 3) m_Rule_fill 112 Q 120 [some (.inr o), some (.inr op), some (.inr o'), none, some (.inl (nI i)), none] [] 112 I2 P := by
        intro Y hY e I2 f2 hX2
        refine x_Rule_fill_120 _ _ _ _ ?_
        rw [n1]
        rw [e, ← List.append_assoc] at hr h
        have f12 := f1.tr f2
        refine ih (i + 1) (X ++ Y) I2 false (by omega) (by omega) ⟨fun c => by (cases c), fun c => by omega⟩ (by rw [f12 o (by omega)]; exact h1) (f2.txt hap hx1) (f2.txt ha1 hx1') (fun d' hd' => by rw [f2 (o + 7) (by omega), f2 (o + 8) (by omega)]; exact hB1 d' hd') hX2 (hWX.app hY) hBK2 hr (fun I3 f3 => h I3 (f12.tr f3))
      refine x_Rule_fill_61 _ _ _ _ ?_
      simp only [o0, o1, oT.1, nzz 1 (by decide), true_and]
      refine s_isHole (d := d + 1) oT (by decide) hkr (by rw [hkk, List.length_map]; omega) (by rw [hkk]; exact hk10) (by omega) (bz_i (fun c => ?_) (fun c => ?_))
      · have hk3 : k ≠ 3 := by
          intro e
          subst e
          rw [hkk, hk] at c
          exact absurd c (by decide)
        simp only [o0, o1, hTp.1, nzz 1 (by decide), true_and]
        rw [n1]
        have hR1 : ((mkr num Z).drop i).take (i + 1 - i) = (sp, num, k, w, num) :: [] := by rw [drop_it (mkr_at hz), show i + 1 - i = 1 by omega]; rfl
        have eF := fil_tok (Zo := Zo) (B := B) (num := num) (fst := fst) (sp := sp) (w := w) (T := Z.drop (i + 1)) hk3
        refine z_appendSpan hTp oT (by decide) (by decide) hap hX1 hx1 hWX hWr (by rw [hmu]; exact h60) (by omega) (by rw [hml]; omega) hR1 ?_ (fun I2 f2 hX2 => go [((if fst = true then [] else sp), num, k, w, num)] ?_ eF I2 f2 hX2)
        · rw [eF, ← List.append_assoc, List.map_append, ftl_app] at hr
          show ftl ((X ++ [((if fst = true then [] else sp), num, k, w, num)]).map un) ≤ 120
          omega
        · intro y hy
          rw [List.mem_singleton] at hy
          subst hy
          exact LX_w Z t hLX _ (List.mem_of_getElem? hz)
      · have hk3 : k = 3 := by
          rw [hkk, hk] at c
          simpa using c
        subst hk3
        obtain ⟨f, b, hB, hfb, hb⟩ := hBK sp w (by rw [hdr]; exact List.mem_cons_self)
        obtain ⟨z, R, hzR⟩ := tkd hfb hb
        obtain ⟨c0, dg, hd10, hww, hdw⟩ := okw3 (LX_at hLX hz).2
        have hch := dgt_psn (t := t) hz (x := nI (48 + dg)) (by rw [hww]; rfl)
        have hB' := hB
        rw [hdw] at hB'
        obtain ⟨b1, b2, -, -⟩ := (hB1 dg hd10).2 f b hB'
        simp only [o0, o1, oT.1, nzz 1 (by decide), true_and]
        have hxx1 : TXT I1 (o + 1) (fl Z t) (List.replicate (fl Z t).length num) (psn 0 Z) := by
          have := hx1
          unfold TZ at this
          rw [hmu, mkr_um] at this
          exact this
        refine s_digitOf oT (by decide) hxx1 h60 (by omega) (by omega) hch ?_
        rw [dig_e]
        simp only [o0, o2, k2, o3, k3, nzz 7 (by decide), nzz 8 (by decide), true_and]
        rw [clp (show dg < 2 ^ 31 by omega), b1, b2]
        refine ⟨vp_in_nI hd10 (by decide), vp_in_nI hd10 (by decide), hTp.1, ?_⟩
        have eF := fil_hole (Zo := Zo) (B := B) (num := num) (fst := fst) (sp := sp) (w := w) (T := Z.drop (i + 1)) hB hzR
        refine z_appendSpan hTp hT' (by decide) hN' ha1 hX1 hx1' hWX hW' hs' hfb hb hzR ?_ (fun I2 f2 hX2 => go _ ?_ eF I2 f2 hX2)
        · rw [eF, ← List.append_assoc, List.map_append, ftl_app] at hr
          omega
        · intro y hy
          have hmem : ∀ y', y' ∈ z :: R → y' ∈ Zo := fun y' h' => by
            rw [← hzR] at h'
            exact List.mem_of_mem_drop (List.mem_of_mem_take h')
          rcases List.mem_cons.mp hy with rfl | hy
          · exact hW' z (hmem z List.mem_cons_self)
          · exact hW' y (hmem y (List.mem_cons_of_mem _ hy))
    refine x_Rule_fill_28 _ _ _ _ ?_
    simp only [o0, o1, oT.1, nzz 1 (by decide), true_and]
    rw [hx.2.2.2.2.1, hmu, hpl]
    refine pk_le Z.length i (fun q => by omega) (fun _ => ?_)
    rw [h1, n1]
    refine pk_le i (ar + 1) (fun q => ?_) (fun q => ?_)
    · have hft : fst = true := hf.mpr q
      exact s61 I FrK.rf (by rw [if_pos hft]; exact hX)
    · have hft : ¬ fst = true := fun c => by have := hf.mp c; omega
      refine ⟨hTp.1, z_appendSpace hTp oT (by decide) (by decide) hap hX hx hWr (by rw [hmu]; exact h60) (by rw [hml]; omega) (Or.inl ⟨_, mkr_at hz⟩) ?_ (fun I1 f1 hX1 => s61 I1 f1 (by rw [if_neg hft]; exact hX1))⟩
      have hsl : sp.length ≤ ftl ((fil Zo B num fst ((sp, k, w) :: Z.drop (i + 1))).map un) := by
        by_cases hk3 : k = 3
        · subst hk3
          obtain ⟨f, b, hB, hfb, hb⟩ := hBK sp w (by rw [hdr]; exact List.mem_cons_self)
          obtain ⟨⟨a1, a2, a3, a4, a5⟩, R, hzR⟩ := tkd hfb hb
          rw [fil_hole hB hzR, if_neg hft]
          show sp.length ≤ ftl ((sp, a3, a4) :: (R ++ _).map un)
          rw [ftl_c]
          omega
        · rw [fil_tok hk3, if_neg hft]
          show sp.length ≤ ftl ((sp, k, w) :: List.map un _)
          rw [ftl_c]
          omega
      rw [List.map_append, ftl_app] at hr
      omega
theorem s_fill (hO : RO P o) (hT' : TO P o' N') (hTp : TO P op 120) (hN' : N' < 2 ^ 20) (ha1 : apt op o') (ha2 : op + 5 < o ∨ o + 8 < op) (ha3 : o' + 5 < o ∨ o + 8 < o') {I : mI} (hR : RLz I o Z t mk ar) (hx' : TZ I o' Zo to mo) (hW' : WN Zo) (hs' : (fl (Zo.map un) to).length ≤ N') (hBR : BR I o B Zo.length) (hBK : BK B Zo.length (Z.drop (ar + 1))) (hr : ftl ((fil Zo B num true (Z.drop (ar + 1))).map un) ≤ 120)
    (h : ∀ I', (∀ m, (m < op ∨ op + 5 < m) → m ≠ o + 3 → I' m = I m) → TZ I' op (fil Zo B num true (Z.drop (ar + 1))) [] num → WN (fil Zo B num true (Z.drop (ar + 1))) → RLz I' o Z t (List.replicate (fl Z t).length num) ar → Q (nI 0) I' P) : V E (d + 3) m_Rule_fill 112 Q 0 [some (.inr o), some (.inr op), some (.inr o'), some (.inl num), none, none] [] 112 I P := by
  have hOO := hO
  obtain ⟨o0, o1, oT, -, -⟩ := hO
  obtain ⟨hI1, hx, hLX, h60, hal, hk10⟩ := hR
  refine x_Rule_fill_0 _ _ _ _ ⟨hTp.1, s_empty hTp ?_⟩
  simp only [o0, o1, oT.1, nzz 1 (by decide), true_and]
  generalize hJ : uI (uI I op 5 (nI 0)) op 6 (nI 0) = J
  have fJ : FrK op I J := fun m hm => by rw [← hJ, uI_n (by omega), uI_n (by omega)]
  have hap : apt op (o + 1) := by unfold apt; omega
  have hxJ := fJ.txt hap hx
  have hXJ : TZ J op [] [] num := by
    refine ⟨?_, fun j x hx => by simp [fl] at hx, rfl, fun j x hx => by simp [fl] at hx, ?_, fun t' k a b e => by simp [psn] at e⟩
    · rw [← hJ, uI_o (by decide), uI_s]
      rfl
    · rw [← hJ, uI_s]
      rfl
  rw [hxJ.1]
  refine s_markSpan (n := (fl Z t).length) oT (by decide) h60 (by omega) (by omega) hxJ.1 ?_
  rw [Nat.min_self]
  generalize hK : sI J (o + 1 + 2) (mkf (J (o + 1 + 2)) 0 (fl Z t).length num) = K
  have fK : ∀ m, m ≠ o + 3 → K m = J m := fun m hm => by rw [← hK, sI_n hm]
  have hxK : TXT K (o + 1) (fl Z t) (List.replicate (fl Z t).length num) (psn 0 Z) := by
    obtain ⟨q1, q2, q3, q4, q5⟩ := hxJ
    refine ⟨by rw [fK (o + 1) (by omega)]; exact q1, by rw [fK (o + 1 + 1) (by omega)]; exact q2, List.length_replicate .., ?_, q5.fr (by rw [fK (o + 1) (by omega)]) (fK _ (by omega)) (fK _ (by omega)) (fK _ (by omega))⟩
    intro j x hj
    have hjl : j < (fl Z t).length := by
      have := (List.getElem?_eq_some_iff.mp hj).1
      rw [List.length_replicate] at this
      exact this
    rw [List.getElem?_replicate, if_pos hjl] at hj
    rw [← hK, sI_s]
    unfold mkf
    rw [if_pos (by omega)]
    injection hj
  have hxK2 : TZ K (o + 1) (mkr num Z) t num := by
    unfold TZ
    rw [mkr_un, mkr_um]
    exact hxK
  have e1 : K o 1 = nI ar := by rw [fK o (by omega), fJ o (by omega)]; exact hI1
  rw [e1, n1]
  refine l_fill (mo := mo) hOO hT' hTp hN' ha1 ha2 hLX h60 hk10 hW' hs' hal (Z.length - (ar + 1)) (ar + 1) [] K true (by omega) (Nat.le_refl _) ⟨fun _ => Nat.le_refl _, fun _ => rfl⟩ e1 hxK2 ?_ ?_ ?_ (fun z hz => by simp at hz) hBK (by rw [List.nil_append]; exact hr) (fun I' f' hX' hWX' => ?_)
  · refine (fJ.txt ha1 hx').fr (fun m h1 h2 => fK m (by omega))
  · intro d' hd'
    rw [fK (o + 7) (by omega), fK (o + 8) (by omega), fJ (o + 7) (by omega), fJ (o + 8) (by omega)]
    exact hBR d' hd'
  · exact hXJ.fr (fun m h1 h2 => fK m (by omega))
  · rw [List.nil_append] at hX' hWX'
    refine h I' (fun m hm hm2 => ?_) hX' hWX' ⟨by rw [f' o (by omega)]; exact e1, f'.txt hap hxK, hLX, h60, hal, hk10⟩
    rw [f' m hm, fK m hm2, fJ m hm]
end FF
end
section
/-! Program.rewrite. -/
theorem Sh.t61 {P : mP} (h : Sh P) : TO P 61 120 := ⟨rfl, ⟨h.2.2.1.1.1, rfl⟩, ⟨h.2.2.1.1.2.1, rfl⟩, ⟨h.2.2.1.1.2.2.1, rfl⟩, ⟨h.2.2.1.1.2.2.2.1, rfl⟩, ⟨h.2.2.1.1.2.2.2.2, rfl⟩⟩
theorem Sh.t67 {P : mP} (h : Sh P) : TO P 67 120 := ⟨rfl, ⟨h.2.2.1.2.1.1, rfl⟩, ⟨h.2.2.1.2.1.2.1, rfl⟩, ⟨h.2.2.1.2.1.2.2.1, rfl⟩, ⟨h.2.2.1.2.1.2.2.2.1, rfl⟩, ⟨h.2.2.1.2.1.2.2.2.2, rfl⟩⟩
theorem Sh.t73 {P : mP} (h : Sh P) : TO P 73 120 := ⟨rfl, ⟨h.2.2.1.2.2.1.1, rfl⟩, ⟨h.2.2.1.2.2.1.2.1, rfl⟩, ⟨h.2.2.1.2.2.1.2.2.1, rfl⟩, ⟨h.2.2.1.2.2.1.2.2.2.1, rfl⟩, ⟨h.2.2.1.2.2.1.2.2.2.2, rfl⟩⟩
theorem Sh.t79 {P : mP} (h : Sh P) : TO P 79 120 := ⟨rfl, ⟨h.2.2.1.2.2.2.1, rfl⟩, ⟨h.2.2.1.2.2.2.2.1, rfl⟩, ⟨h.2.2.1.2.2.2.2.2.1, rfl⟩, ⟨h.2.2.1.2.2.2.2.2.2.1, rfl⟩, ⟨h.2.2.1.2.2.2.2.2.2.2, rfl⟩⟩
theorem kk_rule {r : Nat} (hr : r < 6) : kk 112 (6 + 9 * r) = (0, 1) ∧ kk 112 (7 + 9 * r) = (0, 3) ∧ (∀ j, j < 5 → kk 112 (8 + j + 9 * r) = (1, 60)) ∧ kk 112 (13 + 9 * r) = (1, 10) ∧ kk 112 (14 + 9 * r) = (1, 10) := by
  have : ∀ r, r < 6 → kk 112 (6 + 9 * r) = (0, 1) ∧ kk 112 (7 + 9 * r) = (0, 3) ∧ (∀ j, j < 5 → kk 112 (8 + j + 9 * r) = (1, 60)) ∧ kk 112 (13 + 9 * r) = (1, 10) ∧ kk 112 (14 + 9 * r) = (1, 10) := by decide
  exact this r hr
theorem Sh.ro {P : mP} (h : Sh P) {r : Nat} (hr : r < 6) : RO P (6 + 9 * r) := by
  obtain ⟨-, h2, -⟩ := h
  obtain ⟨-, q0, q2, q3, w0, w1, w2, w3, w4⟩ := h2 r hr
  obtain ⟨k0, k1, k2, k3, k4⟩ := kk_rule hr
  have e : ∀ j, 7 + 9 * r + j = 6 + 9 * r + 1 + j := fun j => by omega
  refine ⟨k0, by rw [q0]; omega, ?_, ⟨by rw [q2]; omega, ?_⟩, ⟨by rw [q3]; omega, ?_⟩⟩
  · rw [show 6 + 9 * r + 1 = 7 + 9 * r by omega]
    have k2' : ∀ j, j < 5 → kk 112 (7 + 9 * r + (j + 1)) = (1, 60) := fun j hj => by rw [show 7 + 9 * r + (j + 1) = 8 + j + 9 * r by omega]; exact k2 j hj
    exact ⟨k1, ⟨w0, k2' 0 (by decide)⟩, ⟨w1, k2' 1 (by decide)⟩, ⟨w2, k2' 2 (by decide)⟩, ⟨w3, k2' 3 (by decide)⟩, ⟨w4, k2' 4 (by decide)⟩⟩
  · rw [show 6 + 9 * r + 7 = 13 + 9 * r by omega]; exact k3
  · rw [show 6 + 9 * r + 8 = 14 + 9 * r by omega]; exact k4
def kdi (Z : List MIt) : List Nat := Z.map mkd
theorem kdi_un (Z : List MIt) : (Z.map un).map (fun z => z.2.1) = kdi Z := by
  unfold kdi
  rw [List.map_map]
  rfl
theorem kdi_psn (Z : List MIt) (p : Nat) : (psn p (Z.map un)).map Prod.fst = kdi Z := by rw [kds_psn, kdi_un]
theorem TZ.kr {I : mI} {o : Nat} {Z : List MIt} {t : List Int32} {m : Int32} (h : TZ I o Z t m) : KR I o (kdi Z) := by
  have := h.2.2.2.2.kr
  rw [kdi_psn] at this
  exact this
theorem TZ.fr {I I' : mI} {o : Nat} {Z : List MIt} {t : List Int32} {m : Int32} (h : TZ I o Z t m) (hf : ∀ m, o ≤ m → m ≤ o + 5 → I' m = I m) : TZ I' o Z t m := TXT.fr h hf
theorem RLz.fr {I I' : mI} {o ar : Nat} {Z : List ItC} {t mk : List Int32} (h : RLz I o Z t mk ar) (hf : ∀ m, o ≤ m → m ≤ o + 6 → I' m = I m) : RLz I' o Z t mk ar := by
  obtain ⟨h1, h2, h3⟩ := h
  exact ⟨by rw [hf o (by omega) (by omega)]; exact h1, h2.fr (fun m a b => hf m (by omega) (by omega)), h3⟩
theorem fil_ne {Zo : List MIt} {B : BN} {num : Int32} {fst : Bool} {T : List ItC} (hT : T ≠ []) (hBK : BK B Zo.length T) : ∃ y Y, fil Zo B num fst T = y :: Y := by
  cases T with
  | nil => exact absurd rfl hT
  | cons z T =>
    obtain ⟨sp, k, w⟩ := z
    by_cases hk : k = 3
    · subst hk
      obtain ⟨f, b, hB, hfb, hb⟩ := hBK sp w List.mem_cons_self
      obtain ⟨z, R, hzR⟩ := tkd hfb hb
      rw [fil_hole hB hzR]
      exact ⟨_, _, rfl⟩
    · rw [fil_tok hk]
      exact ⟨_, _, rfl⟩
section RW
variable {E : XE} {d : Nat} {Q : Int32 → mI → mP → Prop} {P : mP} {o op on : Nat} {Z : List ItC} {t mk : List Int32} {X : List MIt} {ar : Nat} {B : BN}
theorem s_rewrite (hS : Sh P) (hP1 : P 60 1 = on) (hon : on = 61 ∨ on = 67) (hO : RO P o) (ho : o + 8 < 60) {I : mI} (hR : RLz I o Z t mk ar) {m : Int32} (hX : TZ I on X [] m) (hW : WN X) (hXl : ftl (X.map un) ≤ 120) (hBR : BR I o B X.length) (hBK : BK B X.length (Z.drop (ar + 1))) {R a rest first : Nat} (hR6 : I 60 6 = nI R) {sp : List Int32} {msp : Int32} {y0 : Nat × List Int32 × Int32} (hz : X[first]? = some (sp, msp, y0)) (ha : a < 2 ^ 20) (hrest : rest ≤ 120) {q n mx : Nat} (hrn : rn true 0 0 0 (kdi (fil X B (nI (R + 1)) true (Z.drop (ar + 1)))) = some (q, n, mx)) (hk10 : k10 (kdi (fil X B (nI (R + 1)) true (Z.drop (ar + 1))))) (hsz : ftl ((fil X B (nI (R + 1)) true (Z.drop (ar + 1))).map un) < 2 ^ 20) (hmx : mx < 2 ^ 20)
    (h1 : ∀ I' y Y, ftl ((X.take first).map un) + sp.length + ftl ((fil X B (nI (R + 1)) true (Z.drop (ar + 1))).map un) + rest ≤ 120 → a + mx ≤ 12 → fil X B (nI (R + 1)) true (Z.drop (ar + 1)) = y :: Y → (∀ m, (m < on ∨ on + 5 < m) → (m < 79 ∨ 84 < m) → m ≠ 60 → m ≠ o + 3 → I' m = I m) → (∀ j, j ≠ 6 → I' 60 j = I 60 j) → I' 60 6 = nI (R + 1) → TZ I' on (X.take first ++ sps y sp msp :: Y) [] msp → WN (X.take first ++ sps y sp msp :: Y) → RLz I' o Z t (List.replicate (fl Z t).length (nI (R + 1))) ar → Q (nI 1) I' P)
    (h0 : ∀ I', ¬ (ftl ((X.take first).map un) + sp.length + ftl ((fil X B (nI (R + 1)) true (Z.drop (ar + 1))).map un) + rest ≤ 120 ∧ a + mx ≤ 12) → (∀ m, (m < 79 ∨ 84 < m) → m ≠ o + 3 → I' m = I m) → (∃ mk', RLz I' o Z t mk' ar) → Q (nI 0) I' P) : V E (d + 4) m_Program_rewrite 112 Q 0 [some (.inr 60), some (.inr o), some (.inl (nI first)), some (.inl (nI a)), some (.inl (nI rest))] [] 112 I P := by
  have hTn : TO P on 120 := by
    rcases hon with rfl | rfl
    · exact hS.t61
    · exact hS.t67
  have hP3 : P 60 3 = 79 := hS.2.2.2.2.1.2.1
  have hTp := hS.t79
  have hfX := fl_len (X.map un) []
  have hfX' : (fl (X.map un) []).length ≤ 120 := by rw [hfX]; simpa using hXl
  have hXn := hW.len
  have hfl : first < X.length := (List.getElem?_eq_some_iff.mp hz).1
  have hzu : (X.map un)[first]? = some (sp, y0.1, y0.2.1) := by rw [List.getElem?_map, hz]; rfl
  have hst := tst_psn hzu
  have hne : Z.drop (ar + 1) ≠ [] := by
    intro e
    have := congrArg List.length e
    rw [List.length_drop] at this
    have := hR.2.2.2.2.1
    simp at *
    omega
  obtain ⟨y, Y, hY⟩ := fil_ne (num := nI (R + 1)) (fst := true) hne hBK
  have hsl : ftl ((X.take first).map un) + sp.length ≤ 120 := by
    have : ftl (X.map un) = ftl ((X.map un).take first) + ftl ((X.map un).drop first) := by rw [← ftl_app, List.take_append_drop]
    rw [drop_it hzu, ftl_c] at this
    rw [List.map_take]
    omega
  refine x_Program_rewrite_0 _ _ _ _ _ ?_
  simp only [k60, hP1, hTn.1, hTn.2.2.2.2.1.1, hTn.2.2.2.2.1.2, nzz 4 (by decide), true_and]
  have hon0 : (on ≠ 0) = True := by rcases hon with rfl | rfl <;> simp
  simp only [hon0, true_and]
  refine ⟨vp_in_nI (by omega) (by decide), hO.1, s_filledSize (d := d + 1) hO hTn (by decide) hR hX hW hfX' hBR (nI (R + 1)) hBK ?_⟩
  rw [clp (show first < 2 ^ 31 by omega), (hX.2.2.2.2.st (by rw [psn_len, List.length_map]; exact hfl)).1, hst, nI_add, nI_add, ← List.map_take]
  generalize hLL : ftl ((fil X B (nI (R + 1)) true (Z.drop (ar + 1))).map un) = LL at *
  refine pk_le (ftl ((X.take first).map un) + sp.length + LL + rest) 120 (fun c => ?_) (fun c => ⟨rfl, h0 I (fun cc => by omega) (fun _ _ _ => rfl) ⟨mk, hR⟩⟩)
  simp only [k60, hP1, hP3, hon0, nzl 79 (by decide), true_and]
  rw [hR6, n1]
  refine ⟨hO.1, s_fill (d := d) hO hTn hTp (by decide) (by unfold apt; omega) (by omega) (by omega) hR hX hW hfX' hBR hBK (by omega) (fun I1 f1 x1 w1 r1 => ?_)⟩
  simp only [k60, hP3, nzl 79 (by decide), true_and]
  have hyl := w1.len
  refine ⟨hTp.1, s_deepestNesting hTp (by decide) hk10 (by unfold kdi; rw [List.length_map]; omega) x1.kr hrn ?_⟩
  rw [nI_add]
  refine pk_le (a + mx) 12 (fun c2 => ?_) (fun c2 => ⟨rfl, h0 I1 (fun cc => by omega) (fun m hm hm2 => f1 m (by omega) hm2) ⟨_, r1⟩⟩)
  simp only [k60, hP1, hP3, hon0, nzl 79 (by decide), true_and]
  have xn1 : TZ I1 on X [] m := hX.fr (fun m' h1' h2' => f1 m' (by omega) (by omega))
  refine ⟨hTn.1, z_cutAt hTn (by decide) xn1 hW hXl hz (fun I2 f2 x2 => ?_)⟩
  simp only [k60, hP1, hP3, hon0, nzl 79 (by decide), true_and]
  have ap : apt on 79 := by unfold apt; omega
  have xp2 : TZ I2 79 (fil X B (nI (R + 1)) true (Z.drop (ar + 1))) [] (nI (R + 1)) := f2.txt ap x1
  refine ⟨hTp.1, hTn.1, ?_⟩
  rw [xp2.2.2.2.2.1, psn_len, List.length_map]
  have hWt : WN (X.take first) := fun z hz => hW z (List.mem_of_mem_take hz)
  have hfp := fl_len ((fil X B (nI (R + 1)) true (Z.drop (ar + 1))).map un) []
  have hpos : 0 < (fil X B (nI (R + 1)) true (Z.drop (ar + 1))).length := by rw [hY]; simp
  have etk : ((fil X B (nI (R + 1)) true (Z.drop (ar + 1))).drop 0).take ((fil X B (nI (R + 1)) true (Z.drop (ar + 1))).length - 0) = y :: Y := by
    rw [List.drop_zero, Nat.sub_zero, List.take_of_length_le (Nat.le_refl _), hY]
  have hlen2 : ftl ((X.take first ++ sps y sp msp :: Y).map un) + (un y).1.length = ftl ((X.take first).map un) + sp.length + LL := by
    rw [List.map_append, ftl_app, ← hLL, hY]
    obtain ⟨a1, a2, a3, a4, a5⟩ := y
    show ftl _ + ftl ((sp, a3, a4) :: Y.map un) + a1.length = ftl _ + sp.length + ftl ((a1, a3, a4) :: Y.map un)
    rw [ftl_c, ftl_c]
    omega
  refine z_appendSpan (d := d + 1) hTn hTp (by decide) (by decide) ap x2 xp2 hWt w1 (by rw [hfp, hLL]; simp; omega) hpos (Nat.le_refl _) etk (by omega) (fun I3 f3 x3 => ⟨rfl, ?_⟩)
  have f23 := f2.tr f3
  have e6 : I3 60 6 = nI R := by rw [f23 60 (by omega), f1 60 (by omega) (by omega)]; exact hR6
  rw [e6, n1]
  refine h1 _ y Y c c2 hY (fun m' a1 a2 a3 a4 => ?_) (fun j hj => ?_) ?_ ?_ ?_ ?_
  · rw [uI_n a3, f23 m' (by omega), f1 m' (by omega) a4]
  · rw [uI_o hj, f23 60 (by omega), f1 60 (by omega) (by omega)]
  · rw [uI_s]
  · exact x3.fr (fun m' a1 a2 => uI_n (by omega))
  · intro z hz'
    rcases List.mem_append.mp hz' with hz' | hz'
    · exact hWt z hz'
    · rcases List.mem_cons.mp hz' with rfl | hz'
      · exact w1 y (by rw [hY]; exact List.mem_cons_self)
      · exact w1 z (by rw [hY]; exact List.mem_cons_of_mem _ hz')
  · refine r1.fr (fun m' a1 a2 => ?_)
    rw [uI_n (by omega), f23 m' (by omega)]
end RW
end
section
/-! What is bound to holes are expressions; so a filled template is one. -/
def BOK (X : List MIt) (B : BN) : Prop := ∀ d f b, B d = some (f, b) → f < b ∧ b ≤ X.length ∧ ∃ dp, dp ≤ 12 ∧ le_ true ((kdi X).drop f) = some (b - f, dp)
theorem kdi_len (X : List MIt) : (kdi X).length = X.length := List.length_map _
theorem bho_ok {X : List MIt} {s' : List Int32} {dg t t' : Nat} {B B' : BN} (hB : BOK X B) (h : bho s' (psn 0 (X.map un)) dg t B = some (t', B')) : BOK X B' ∧ (∀ d v, B d = some v → B' d = some v) ∧ B' dg ≠ none ∧ ∃ m dp, dp ≤ 12 ∧ le_ true ((kdi X).drop t) = some (m, dp) ∧ t' = t + m := by
  unfold bho at h
  rw [kdi_psn] at h
  cases hle : le_ true ((kdi X).drop t) with
  | none => rw [hle] at h; cases h
  | some z =>
    obtain ⟨m, dp⟩ := z
    rw [hle] at h
    dsimp only at h
    have hb := le_b hle
    rw [List.length_drop, kdi_len] at hb
    by_cases hdp : dp ≤ 12
    · rw [if_pos hdp] at h
      cases hBv : B dg with
      | none =>
        rw [hBv] at h
        cases h
        refine ⟨fun d f b e => ?_, fun d v e => ?_, ?_, m, dp, hdp, rfl, rfl⟩
        · dsimp only at e
          by_cases ed : d = dg
          · rw [if_pos ed] at e
            cases e
            exact ⟨by omega, by omega, dp, hdp, by rw [hle, Nat.add_sub_cancel_left]⟩
          · rw [if_neg ed] at e
            exact hB d f b e
        · have ed : d ≠ dg := fun c => by rw [c, hBv] at e; cases e
          dsimp only
          rw [if_neg ed]
          exact e
        · dsimp only
          rw [if_pos rfl]
          exact fun c => by cases c
      | some fb =>
        obtain ⟨f, b⟩ := fb
        rw [hBv] at h
        dsimp only at h
        by_cases hc : b - f = m ∧ sTks s' (psn 0 (X.map un)) f t m = true
        · rw [if_pos hc] at h
          cases h
          exact ⟨hB, fun d v e => e, (by rw [hBv]; simp), m, dp, hdp, rfl, rfl⟩
        · rw [if_neg hc] at h
          cases h
    · rw [if_neg hdp] at h
      cases h
theorem mtc_ok {X : List MIt} {s' : List Int32} {Z : List ItC} {tr : List Int32} (hL : LX Z tr) : ∀ (n p t : Nat) (B : BN) (e : Nat) (B' : BN), BOK X B → mtc (fl Z tr) (psn 0 Z) s' (psn 0 (X.map un)) n p t B = some (e, B') → BOK X B' ∧ (∀ d v, B d = some v → B' d = some v) ∧ ∀ i sp w, p ≤ i → i < p + n → Z[i]? = some (sp, 3, w) → B' (dgw w) ≠ none := by
  intro n
  induction n with
  | zero =>
    intro p t B e B' hB h
    cases h
    exact ⟨hB, fun d v e => e, fun i sp w h1 h2 => by omega⟩
  | succ n ih =>
    intro p t B e B' hB h
    unfold mtc at h
    rw [kds_psn] at h
    by_cases h3 : (Z.map (fun z => z.2.1))[p]? = some 3
    · rw [if_pos h3] at h
      have hz : ∃ sp w, Z[p]? = some (sp, 3, w) := by
        rw [List.getElem?_map] at h3
        cases hZ : Z[p]? with
        | none => rw [hZ] at h3; cases h3
        | some z =>
          obtain ⟨sp, k, w⟩ := z
          rw [hZ] at h3
          cases h3
          exact ⟨sp, w, rfl⟩
      obtain ⟨sp, w, hz⟩ := hz
      rw [(HD_LX hL).2 p sp w hz] at h
      cases hb : bho s' (psn 0 (X.map un)) (dgw w) t B with
      | none => rw [hb] at h; cases h
      | some q =>
        obtain ⟨t1, B1⟩ := q
        rw [hb] at h
        obtain ⟨o1, o2, o3, -⟩ := bho_ok hB hb
        obtain ⟨i1, i2, i3⟩ := ih (p + 1) t1 B1 e B' o1 h
        refine ⟨i1, fun d v hd => i2 d v (o2 d v hd), fun i sp' w' h1 h2 hz' => ?_⟩
        by_cases ei : i = p
        · subst ei
          rw [hz] at hz'
          cases hz'
          cases hv : B1 (dgw w) with
          | none => exact absurd hv o3
          | some v =>
            rw [i2 _ v hv]
            exact fun c => by cases c
        · exact i3 i sp' w' (by omega) (by omega) hz'
    · rw [if_neg h3] at h
      by_cases hs : sTk (fl Z tr) (psn 0 Z) p s' (psn 0 (X.map un)) t = true
      · rw [if_pos hs] at h
        obtain ⟨i1, i2, i3⟩ := ih (p + 1) (t + 1) B e B' hB h
        refine ⟨i1, i2, fun i sp' w' h1 h2 hz' => ?_⟩
        by_cases ei : i = p
        · subst ei
          exfalso
          apply h3
          rw [List.getElem?_map, hz']
          rfl
        · exact i3 i sp' w' (by omega) (by omega) hz'
      · rw [if_neg hs] at h
        cases h
/-- all holes of the template stand in the pattern -/
def RK (Z : List ItC) (ar : Nat) : Prop := ∀ sp w, (sp, 3, w) ∈ Z.drop (ar + 1) → ∃ i sp' w', i < ar ∧ Z[i]? = some (sp', 3, w') ∧ dgw w' = dgw w
theorem mtc_bk {X : List MIt} {s' : List Int32} {Z : List ItC} {tr : List Int32} {ar t e : Nat} {B : BN} (hL : LX Z tr) (hK : RK Z ar) (h : mtc (fl Z tr) (psn 0 Z) s' (psn 0 (X.map un)) ar 0 t B0 = some (e, B)) : BOK X B ∧ BK B X.length (Z.drop (ar + 1)) := by
  obtain ⟨h1, -, h3⟩ := mtc_ok hL ar 0 t B0 e B (fun d f b c => by cases c) h
  refine ⟨h1, fun sp w hm => ?_⟩
  obtain ⟨i, sp', w', hi, hz, hd⟩ := hK sp w hm
  have := h3 i sp' w' (Nat.zero_le _) (by omega) hz
  rw [hd] at this
  cases hv : B (dgw w) with
  | none => exact absurd hv this
  | some v =>
    obtain ⟨f, b⟩ := v
    obtain ⟨q1, q2, -⟩ := h1 _ f b hv
    exact ⟨f, b, rfl, q1, q2⟩
/-- a state of reading, and the one that a filled hole may leave instead -/
def simq (a b : Nat) : Prop := a = b ∨ (b = 3 ∧ a = 2)
theorem ast_sim {hol : Bool} {q qs n mx mx2 k q1 n1 mx1 : Nat} (hs : simq qs q) (h : ast hol q n mx k = some (q1, n1, mx1)) (hn : n ≤ mx2) : ∃ mx3, ast hol qs n mx2 k = some (q1, n1, mx3) ∧ n1 ≤ mx3 ∧ mx2 ≤ mx3 ∧ mx3 ≤ mx2 + 1 := by
  unfold ast at h ⊢
  by_cases hq : q ≤ 1
  · have e : qs = q := by rcases hs with h | ⟨h, -⟩ <;> omega
    subst e
    rw [if_pos hq] at h ⊢
    by_cases a1 : k = 1
    · rw [if_pos a1] at h ⊢
      cases h
      exact ⟨mx2, rfl, hn, Nat.le_refl _, by omega⟩
    · rw [if_neg a1] at h ⊢
      by_cases a2 : k = 2 ∨ k = 3 ∧ hol = true
      · rw [if_pos a2] at h ⊢
        cases h
        exact ⟨mx2, rfl, hn, Nat.le_refl _, by omega⟩
      · rw [if_neg a2] at h ⊢
        by_cases a3 : qs = 1 ∧ k = 5 ∧ 0 < n
        · rw [if_pos a3] at h ⊢
          cases h
          exact ⟨mx2, rfl, by omega, Nat.le_refl _, by omega⟩
        · rw [if_neg a3] at h
          cases h
  · have hq2 : ¬ qs ≤ 1 := by rcases hs with h | ⟨h, h'⟩ <;> omega
    rw [if_neg hq] at h
    rw [if_neg hq2]
    by_cases a1 : q = 2 ∧ k = 4
    · rw [if_pos a1] at h
      cases h
      have e : qs = 2 := by rcases hs with h | ⟨h, h'⟩ <;> omega
      rw [if_pos ⟨e, a1.2⟩]
      exact ⟨_, rfl, by omega, by omega, by omega⟩
    · rw [if_neg a1] at h
      by_cases a4 : k = 4
      · subst a4
        simp at h
      · rw [if_neg (fun c => a4 c.2)]
        by_cases a2 : k = 5 ∧ 0 < n
        · rw [if_pos a2] at h ⊢
          cases h
          exact ⟨mx2, rfl, by omega, Nat.le_refl _, by omega⟩
        · rw [if_neg a2] at h ⊢
          by_cases a3 : k = 6 ∧ 0 < n
          · rw [if_pos a3] at h ⊢
            cases h
            exact ⟨mx2, rfl, hn, Nat.le_refl _, by omega⟩
          · rw [if_neg a3] at h
            cases h
theorem kdi_app (A B : List MIt) : kdi (A ++ B) = kdi A ++ kdi B := List.map_append
theorem rn_fill {X : List MIt} {B : BN} {num : Int32} (hB : BOK X B) : ∀ (T : List ItC) (fst : Bool) (q qs n mx mx2 qz nz mz : Nat), BK B X.length T → simq qs q → n ≤ mx2 → rn true q n mx (T.map (fun z => z.2.1)) = some (qz, nz, mz) → ∃ qz' mz', rn true qs n mx2 (kdi (fil X B num fst T)) = some (qz', nz, mz') ∧ simq qz' qz ∧ mx2 ≤ mz' ∧ mz' ≤ mx2 + 12 * T.length := by
  intro T
  induction T with
  | nil =>
    intro fst q qs n mx mx2 qz nz mz hBK hs hn h
    cases h
    exact ⟨qs, mx2, by cases fst <;> rfl, hs, Nat.le_refl _, by omega⟩
  | cons z T ih =>
    intro fst q qs n mx mx2 qz nz mz hBK hs hn h
    obtain ⟨sp, k, w⟩ := z
    have hBK2 : BK B X.length T := fun sp' w' hm => hBK sp' w' (List.mem_cons_of_mem _ hm)
    rw [List.map_cons, rn_c] at h
    cases ha : ast true q n mx k with
    | none => rw [ha] at h; cases h
    | some y =>
      obtain ⟨q1, n1, mx1⟩ := y
      rw [ha] at h
      dsimp only at h
      by_cases hk : k = 3
      · subst hk
        obtain ⟨f, b, hBv, hfb, hb⟩ := hBK sp w List.mem_cons_self
        obtain ⟨z, R, hzR⟩ := tkd hfb hb
        obtain ⟨-, -, dp, hdp, hle⟩ := hB _ f b hBv
        rw [fil_hole hBv hzR, kdi_app]
        have eL : kdi (sps z (if fst = true then [] else sp) num :: R) = ((kdi X).drop f).take (b - f) := by
          unfold kdi
          rw [← List.map_drop, ← List.map_take, hzR]
          rfl
        rw [eL]
        have hq : q ≤ 1 ∧ q1 = 3 ∧ n1 = n := by
          unfold ast at ha
          by_cases c : q ≤ 1
          · rw [if_pos c, if_neg (by decide), if_pos (Or.inr ⟨rfl, rfl⟩)] at ha
            cases ha
            exact ⟨c, rfl, rfl⟩
          · rw [if_neg c, if_neg (by omega), if_neg (by omega), if_neg (by omega)] at ha
            cases ha
        obtain ⟨hq1, rfl, rfl⟩ := hq
        have eqs : qs = q := by rcases hs with h | ⟨h, -⟩ <;> omega
        subst eqs
        obtain ⟨q', hq', -, hr⟩ := au_e hle (q := qs) (a := n1) (mx := mx2) hq1 hn
        rw [rn_then hr]
        obtain ⟨qz', mz', r1, r2, r3, r4⟩ := ih false 3 q' n1 mx1 (max mx2 (n1 + dp)) qz nz mz hBK2 (by
          rcases hq' with h | h
          · exact Or.inr ⟨rfl, h⟩
          · exact Or.inl h) (by omega) h
        refine ⟨qz', mz', r1, r2, by omega, ?_⟩
        rw [List.length_cons]
        omega
      · obtain ⟨mx3, a1, a2, a3, a4⟩ := ast_sim hs ha hn
        rw [fil_tok hk, kdi_app]
        show ∃ qz' mz', rn true qs n mx2 (k :: kdi (fil X B num false T)) = _ ∧ _
        rw [rn_c, a1]
        obtain ⟨qz', mz', r1, r2, r3, r4⟩ := ih false q1 q1 n1 mx1 mx3 qz nz mz hBK2 (Or.inl rfl) a2 h
        refine ⟨qz', mz', r1, r2, by omega, ?_⟩
        rw [List.length_cons]
        omega
theorem k10_kdi {X : List MIt} {B : BN} {num : Int32} (hX : k10 (kdi X)) : ∀ (T : List ItC) (fst : Bool), k10 (T.map (fun z => z.2.1)) → BK B X.length T → k10 (kdi (fil X B num fst T))
  | [], fst, _, _ => fun k hk => by cases fst <;> simp [fil, kdi] at hk
  | (sp, k, w) :: T, fst, h, hBK => by
    have hBK2 : BK B X.length T := fun sp' w' hm => hBK sp' w' (List.mem_cons_of_mem _ hm)
    have ih := k10_kdi (num := num) hX T false (fun k' hk' => h k' (List.mem_cons_of_mem _ hk')) hBK2
    by_cases hk : k = 3
    · subst hk
      obtain ⟨f, b, hBv, hfb, hb⟩ := hBK sp w List.mem_cons_self
      obtain ⟨z, R, hzR⟩ := tkd hfb hb
      rw [fil_hole hBv hzR, kdi_app]
      have eL : kdi (sps z (if fst = true then [] else sp) num :: R) = ((kdi X).drop f).take (b - f) := by
        unfold kdi
        rw [← List.map_drop, ← List.map_take, hzR]
        rfl
      rw [eL]
      intro k' hk'
      rcases List.mem_append.mp hk' with h' | h'
      · exact hX k' (List.mem_of_mem_drop (List.mem_of_mem_take h'))
      · exact ih k' h'
    · rw [fil_tok hk, kdi_app]
      intro k' hk'
      rcases List.mem_append.mp hk' with h' | h'
      · have : k' = k := by simpa [kdi, mkd] using h'
        subst this
        exact h k' List.mem_cons_self
      · exact ih k' h'
theorem ftl_fil {X : List MIt} {B : BN} {num : Int32} : ∀ (T : List ItC) (fst : Bool), BK B X.length T → ftl ((fil X B num fst T).map un) ≤ ftl T + ftl (X.map un) * T.length
  | [], fst, _ => by cases fst <;> simp [fil, ftl, fl]
  | (sp, k, w) :: T, fst, hBK => by
    have hBK2 : BK B X.length T := fun sp' w' hm => hBK sp' w' (List.mem_cons_of_mem _ hm)
    have ih := ftl_fil (num := num) T false hBK2
    rw [ftl_c, List.length_cons, Nat.mul_succ]
    have hsp : (if fst = true then ([] : List Int32) else sp).length ≤ sp.length := by
      cases fst <;> simp
    by_cases hk : k = 3
    · subst hk
      obtain ⟨f, b, hBv, hfb, hb⟩ := hBK sp w List.mem_cons_self
      obtain ⟨⟨a1, a2, a3, a4, a5⟩, R, hzR⟩ := tkd hfb hb
      rw [fil_hole hBv hzR, List.map_append, ftl_app]
      have e1 : ftl (List.map un (sps (a1, a2, a3, a4, a5) (if fst = true then [] else sp) num :: R)) = (if fst = true then ([] : List Int32) else sp).length + a4.length + ftl (R.map un) := by
        show ftl (((if fst = true then [] else sp), a3, a4) :: R.map un) = _
        rw [ftl_c]
      have e2 : a4.length + ftl (R.map un) ≤ ftl (X.map un) := by
        have : ftl (X.map un) = ftl ((X.map un).take f) + (ftl (((X.map un).drop f).take (b - f)) + ftl (((X.map un).drop f).drop (b - f))) := by
          rw [← ftl_app, List.take_append_drop, ← ftl_app, List.take_append_drop]
        rw [show ((X.map un).drop f).take (b - f) = ((X.drop f).take (b - f)).map un by rw [List.map_take, List.map_drop], hzR] at this
        have e3 : ftl (List.map un ((a1, a2, a3, a4, a5) :: R)) = a1.length + a4.length + ftl (R.map un) := by
          show ftl ((a1, a3, a4) :: R.map un) = _
          rw [ftl_c]
        rw [e3] at this
        omega
      rw [e1]
      omega
    · rw [fil_tok hk, List.map_append, ftl_app]
      have e1 : ftl (List.map un [((if fst = true then ([] : List Int32) else sp), num, k, w, num)]) = (if fst = true then ([] : List Int32) else sp).length + w.length := by
        show ftl [((if fst = true then [] else sp), k, w)] = _
        rw [ftl_c]
        rfl
      rw [e1]
      omega
end
section
/-! The pass of the class, purely, and its steps. -/
section PD
variable (Zr : List ItC) (tr : List Int32) (ar : Nat)
def mtx (X : List MIt) (f : Nat) : Option BN := match mtc (fl Zr tr) (psn 0 Zr) (fl (X.map un) []) (psn 0 (X.map un)) ar 0 f B0 with
  | some (e, B) => if e = X.length then some B else none
  | none => none
def dpt (Y : List MIt) : Nat := match rn true 0 0 0 (kdi Y) with
  | some (_, _, mx) => mx
  | none => 0
def rwx (X : List MIt) (f a suf R : Nat) (B : BN) : Option (List MIt) := match X[f]?, fil X B (nI (R + 1)) true (Zr.drop (ar + 1)) with
  | some z, y :: Y => if ftl ((X.take f).map un) + z.1.length + ftl ((y :: Y).map un) + suf ≤ 120 ∧ a + dpt (y :: Y) ≤ 12 then some (X.take f ++ sps y z.1 z.2.1 :: Y) else none
  | _, _ => none
def tri (X : List MIt) (f a suf R : Nat) : Option (List MIt × Nat) := match mtx Zr tr ar X f with
  | none => some (X, R)
  | some B => (rwx Zr ar X f a suf R B).map (fun X2 => (X2, R + 1))
def ps (suf0 : Nat) : List MIt → List MIt → List Nat → Nat → Option (List MIt × Nat)
  | [], X, _, R => some (X, R)
  | z :: S, X, st, R => if (mkd z = 1 ∧ hd4 (kdi S) = true) ∧ st.length < 12 then ps suf0 S (X ++ [z]) (X.length :: st) R
    else if mkd z = 5 then (match st with
      | f :: st' => (match tri Zr tr ar (X ++ [z]) f st'.length (ftl (S.map un) + suf0) R with
        | some (X2, R2) => ps suf0 S X2 st' R2
        | none => none)
      | [] => ps suf0 S (X ++ [z]) [] R)
    else if mkd z = 1 ∨ mkd z = 2 then (match tri Zr tr ar (X ++ [z]) X.length st.length (ftl (S.map un) + suf0) R with
        | some (X2, R2) => ps suf0 S X2 st R2
        | none => none)
    else ps suf0 S (X ++ [z]) st R
end PD
/-- the rule, as far as it matters: it can be read, template holes are in the pattern, the template is an expression -/
def RG (Zr : List ItC) (ar : Nat) : Prop := RK Zr ar ∧ ∃ qz mz, rn true 0 0 0 ((Zr.drop (ar + 1)).map (fun z => z.2.1)) = some (qz, 0, mz) ∧ 2 ≤ qz
def FrS (on o : Nat) (I I' : mI) : Prop := (∀ m, (m < on ∨ on + 5 < m) → (m < 79 ∨ 84 < m) → m ≠ 91 → m ≠ 60 → m ≠ o + 3 → m ≠ o + 7 → m ≠ o + 8 → I' m = I m) ∧ ∀ j, j ≠ 6 → I' 60 j = I 60 j
theorem FrS.rf {on o : Nat} {I : mI} : FrS on o I I := ⟨fun _ _ _ _ _ _ _ _ => rfl, fun _ _ => rfl⟩
theorem FrS.tr {on o : Nat} {I I' I'' : mI} (h : FrS on o I I') (h' : FrS on o I' I'') : FrS on o I I'' := ⟨fun m a b c e f g i => (h'.1 m a b c e f g i).trans (h.1 m a b c e f g i), fun j hj => (h'.2 j hj).trans (h.2 j hj)⟩
theorem k91 : kk 112 91 = (1, 120) := rfl
/-- where a pass stands: next text X, R rewritings made -/
def PL (I : mI) (oc on o : Nat) (N : List MIt) (tl : List Int32) (mt : Int32) (ex : List (Nat × Nat × Nat)) (Zr : List ItC) (tr : List Int32) (ar : Nat) (X : List MIt) (R : Nat) : Prop :=
  TZ I oc N tl mt ∧ TZ I on X [] 0 ∧ OE I ex ∧ I 60 6 = nI R ∧ (∃ mk, RLz I o Zr tr mk ar) ∧ WN X ∧ k10 (kdi X)
theorem OE.fr {I I' : mI} {ex : List (Nat × Nat × Nat)} (h : OE I ex) (hf : ∀ m, 85 ≤ m → m ≤ 90 → I' m = I m) : OE I' ex := by
  refine ⟨by rw [hf 85 (by omega) (by omega)]; exact h.1, fun k f l a e => ?_⟩
  rw [hf 87 (by omega) (by omega), hf 88 (by omega) (by omega), hf 89 (by omega) (by omega)]
  exact h.2 k f l a e
section PV
variable {E : XE} {d : Nat} {Q : Int32 → mI → mP → Prop} {P : mP} {oc on o : Nat} {N : List MIt} {tl : List Int32} {mt : Int32} {ex : List (Nat × Nat × Nat)} {Zr : List ItC} {tr : List Int32} {ar : Nat}
/-- the cells of a pass -/
def PC (P : mP) (oc on o : Nat) : Prop := Sh P ∧ P 60 0 = oc ∧ P 60 1 = on ∧ ((oc = 61 ∧ on = 67) ∨ (oc = 67 ∧ on = 61)) ∧ RO P o ∧ 5 < o ∧ o + 8 < 60
theorem PC.tc (h : PC P oc on o) : TO P oc 120 ∧ TO P on 120 := by
  obtain ⟨hS, -, -, h3, -⟩ := h
  rcases h3 with ⟨rfl, rfl⟩ | ⟨rfl, rfl⟩
  · exact ⟨hS.t61, hS.t67⟩
  · exact ⟨hS.t67, hS.t61⟩
theorem v_copy (hC : PC P oc on o) (hWN : WN N) (hNl : (fl (N.map un) tl).length ≤ 120) (hk : k10 (kdi N)) {I : mI} {x2 x3 : Int32} {t : Nat} {X : List MIt} {R : Nat} {z : MIt} (hL : PL I oc on o N tl mt ex Zr tr ar X R) (hz : N[t]? = some z) (hroom : ftl ((X ++ [z]).map un) ≤ 120)
    (h : ∀ I', FrS on o I I' → I' 91 t = nI X.length → (∀ j, j ≠ t → I' 91 j = I 91 j) → PL I' oc on o N tl mt ex Zr tr ar (X ++ [z]) R → V E (d + 28) m_Program_pass 112 Q 73 [some (.inr 60), some (.inr o), some (.inl x2), some (.inl x3), some (.inl (nI t)), none, none] [] 112 I' P) : V E (d + 28) m_Program_pass 112 Q 17 [some (.inr 60), some (.inr o), some (.inl x2), some (.inl x3), some (.inl (nI t)), none, none] [] 112 I P := by
  have hT := hC.tc
  obtain ⟨hS, hP0, hP1, hcn, hO, ho5, ho⟩ := hC
  obtain ⟨xN, xX, hE, h6, ⟨mk, hR⟩, hW, hkX⟩ := hL
  have hP5 : P 60 5 = 91 := hS.2.2.2.2.1.2.2.2
  have htl : t < N.length := (List.getElem?_eq_some_iff.mp hz).1
  have hNn := hWN.len
  have hfN := fl_len (N.map un) tl
  have hn0 : (on ≠ 0) = True := by rcases hcn with ⟨rfl, rfl⟩ | ⟨rfl, rfl⟩ <;> simp
  have hc0 : (oc ≠ 0) = True := by rcases hcn with ⟨rfl, rfl⟩ | ⟨rfl, rfl⟩ <;> simp
  have ap : apt on oc := by unfold apt; rcases hcn with ⟨rfl, rfl⟩ | ⟨rfl, rfl⟩ <;> omega
  obtain ⟨sp, msp, k, w, mw⟩ := z
  have hXn := hW.len
  have hr1 : ftl (X.map un) + (sp.length + w.length) ≤ 120 := by
    rw [List.map_append, ftl_app] at hroom
    have : ftl (List.map un [(sp, msp, k, w, mw)]) = sp.length + w.length := by
      show ftl [(sp, k, w)] = _
      rw [ftl_c]
      rfl
    omega
  refine x_Program_pass_17 _ _ _ _ _ ?_
  simp only [k60, hP0, hP1, hn0, hc0, hT.1.1, hT.2.1, true_and]
  rw [xN.2.2.2.2.1, psn_len, List.length_map]
  refine pk_le N.length t (fun q => by omega) (fun _ => ?_)
  refine z_appendSpace (d := d + 25) hT.2 hT.1 (by decide) (by decide) ap xX xN hWN hNl (by omega) (Or.inl ⟨(k, w, mw), hz⟩) (by omega) (fun I1 f1 x1 => ?_)
  simp only [k60, hP0, hP1, hP5, k91, hn0, hc0, hT.1.1, hT.2.1, nzl 91 (by decide), true_and]
  refine ⟨vp_in_nI (by omega) (by decide), ?_⟩
  rw [clp (show t < 2 ^ 31 by omega), x1.2.2.2.2.1, psn_len, List.length_map, n1]
  have xN1 : TZ I1 oc N tl mt := f1.txt ap xN
  have hoc : on + 5 < 85 ∧ oc + 5 < 85 ∧ 60 < on ∧ 60 < oc ∧ (on + 5 < 79) ∧ (oc + 5 < 79) := by rcases hcn with ⟨rfl, rfl⟩ | ⟨rfl, rfl⟩ <;> omega
  have x2' : TZ (uI I1 91 t (nI X.length)) on X sp msp := x1.fr (fun m a b => uI_n (by omega))
  have xN2 : TZ (uI I1 91 t (nI X.length)) oc N tl mt := xN1.fr (fun m a b => uI_n (by omega))
  have etk : (N.drop t).take (t + 1 - t) = (sp, msp, k, w, mw) :: [] := by rw [drop_it hz, show t + 1 - t = 1 by omega]; rfl
  refine z_appendSpan (d := d + 25) hT.2 hT.1 (by decide) (by decide) ap x2' xN2 hW hWN hNl (by omega) (by omega) etk hroom (fun I2 f2 x2 => ?_)
  have fr : ∀ m, (m < on ∨ on + 5 < m) → m ≠ 91 → I2 m = I m := fun m a b => by rw [f2 m a, uI_n b, f1 m a]
  refine h I2 ⟨fun m a _ b _ _ _ _ => fr m a b, fun j _ => by rw [fr 60 (by omega) (by omega)]⟩ ?_ (fun j hj => ?_) ⟨f2.txt ap xN2, x2, ?_, by rw [fr 60 (by omega) (by omega)]; exact h6, ⟨mk, hR.fr (fun m a b => fr m (by omega) (by omega))⟩, ?_, ?_⟩
  · rw [f2 91 (by omega), uI_s]
  · rw [f2 91 (by omega), uI_o hj, f1 91 (by omega)]
  · exact hE.fr (fun m a b => fr m (by omega) (by omega))
  · exact hW.app (fun y hy => by
      rw [List.mem_singleton] at hy
      subst hy
      exact hWN _ (List.mem_of_getElem? hz))
  · intro k' hk'
    rw [kdi_app] at hk'
    rcases List.mem_append.mp hk' with h' | h'
    · exact hkX k' h'
    · have : k' = k := by simpa [kdi, mkd] using h'
      subst this
      exact hk k' (List.mem_map.mpr ⟨_, List.mem_of_getElem? hz, rfl⟩)
theorem v_skip (hC : PC P oc on o) {I : mI} {x2 : Int32} {t k R : Nat} {X : List MIt} (hL : PL I oc on o N tl mt ex Zr tr ar X R) (hex : ex.length ≤ 120) (hk : k ≤ ex.length) (hexb : ∀ q ∈ ex, q.2.1 < 2 ^ 20) (ht : t < 2 ^ 20) (hno : ∀ f l a, ex[k]? = some (f, l, a) → l ≠ t) (h : V E (d + 28) m_Program_pass 112 Q 17 [some (.inr 60), some (.inr o), some (.inl x2), some (.inl (nI k)), some (.inl (nI (t + 1))), none, none] [] 112 I P) : V E (d + 28) m_Program_pass 112 Q 73 [some (.inr 60), some (.inr o), some (.inl x2), some (.inl (nI k)), some (.inl (nI t)), none, none] [] 112 I P := by
  obtain ⟨hS, hP0, hP1, hcn, hO, ho5, ho⟩ := hC
  obtain ⟨xN, xX, hE, h6, -, hW, hkX⟩ := hL
  have hP4 : P 60 4 = 85 := hS.2.2.2.2.1.2.2.1
  have hOO : OO P := hS.2.2.2.2.2.1
  have fin : V E (d + 28) m_Program_pass 112 Q 168 [some (.inr 60), some (.inr o), some (.inl x2), some (.inl (nI k)), some (.inl (nI t)), none, none] [] 112 I P := by
    refine x_Program_pass_168 _ _ _ _ _ ?_
    rw [n1]
    exact h
  refine x_Program_pass_73 _ _ _ _ _ ?_
  simp only [k60, hP4, k85, nzl 85 (by decide), true_and]
  refine x_Outline_endsWith_0 _ _ _ ⟨k85, ?_⟩
  rw [hE.1]
  refine pk_le ex.length k (fun _ => ⟨rfl, fun _ => fin, fun c => absurd rfl c⟩) (fun hkl => ?_)
  simp only [k85, hOO.2.2.1, k88, nzl 88 (by decide), true_and]
  obtain ⟨⟨f, l, a⟩, hq⟩ : ∃ q, ex[k]? = some q := ⟨_, List.getElem?_eq_getElem hkl⟩
  have hlb : l < 2 ^ 20 := hexb _ (List.mem_of_getElem? hq)
  rw [clp (show k < 2 ^ 31 by omega), (hE.2 k f l a hq).2.1, nI_eq (by omega) (by omega)]
  exact ⟨vp_in_nI (by omega) (by decide), fun _ => ⟨rfl, fun _ => fin, fun c => absurd rfl c⟩, fun c => absurd c (hno f l a hq)⟩
theorem v_try (hC : PC P oc on o) (hWN : WN N) (hNl : (fl (N.map un) tl).length ≤ 120) (hG : RG Zr ar) {I : mI} {x2 : Int32} {t k R fN f a : Nat} {X : List MIt} (hL : PL I oc on o N tl mt ex Zr tr ar X R) (hex : ex.length ≤ 120) (hq : ex[k]? = some (fN, t, a)) (htl : t < N.length) (hfN : fN < 120) (ha : a < 2 ^ 20) (hf91 : I 91 fN = nI f) (hfX : f < X.length) (hroom : ftl (X.map un) + (fl ((N.drop (t + 1)).map un) tl).length ≤ 120)
    (h1 : ∀ I' X2 R2, tri Zr tr ar X f a (fl ((N.drop (t + 1)).map un) tl).length R = some (X2, R2) → FrS on o I I' → I' 91 = I 91 → PL I' oc on o N tl mt ex Zr tr ar X2 R2 → ftl (X2.map un) + (fl ((N.drop (t + 1)).map un) tl).length ≤ 120 → f < X2.length → V E (d + 28) m_Program_pass 112 Q 17 [some (.inr 60), some (.inr o), some (.inl x2), some (.inl (nI (k + 1))), some (.inl (nI (t + 1))), none, none] [] 112 I' P)
    (h0 : ∀ I', tri Zr tr ar X f a (fl ((N.drop (t + 1)).map un) tl).length R = none → FrS on o I I' → I' 60 6 = nI R → (∃ mk, RLz I' o Zr tr mk ar) → Q (nI 0) I' P) : V E (d + 28) m_Program_pass 112 Q 73 [some (.inr 60), some (.inr o), some (.inl x2), some (.inl (nI k)), some (.inl (nI t)), none, none] [] 112 I P := by
  have hT := hC.tc
  have hLL := hL
  obtain ⟨hS, hP0, hP1, hcn, hO, ho5, ho⟩ := hC
  obtain ⟨xN, xX, hE, h6, ⟨mk, hR⟩, hW, hkX⟩ := hL
  have hP4 : P 60 4 = 85 := hS.2.2.2.2.1.2.2.1
  have hP5 : P 60 5 = 91 := hS.2.2.2.2.1.2.2.2
  have hOO : OO P := hS.2.2.2.2.2.1
  have hn0 : (on ≠ 0) = True := by rcases hcn with ⟨rfl, rfl⟩ | ⟨rfl, rfl⟩ <;> simp
  have hc0 : (oc ≠ 0) = True := by rcases hcn with ⟨rfl, rfl⟩ | ⟨rfl, rfl⟩ <;> simp
  have hoc : on + 5 < 79 ∧ oc + 5 < 79 ∧ 60 < on ∧ 60 < oc ∧ apt on oc := by unfold apt; rcases hcn with ⟨rfl, rfl⟩ | ⟨rfl, rfl⟩ <;> omega
  have ap := hoc.2.2.2.2
  have hXn := hW.len
  have hNn := hWN.len
  have hfN' := fl_len (N.map un) tl
  have hkl : k < ex.length := (List.getElem?_eq_some_iff.mp hq).1
  obtain ⟨e1, e2, e3⟩ := hE.2 k fN t a hq
  have hXl : (fl (X.map un) []).length ≤ 120 := by rw [fl_len]; simp; omega
  refine x_Program_pass_73 _ _ _ _ _ ?_
  simp only [k60, hP4, k85, nzl 85 (by decide), true_and]
  refine x_Outline_endsWith_0 _ _ _ ⟨k85, ?_⟩
  rw [hE.1]
  refine pk_le ex.length k (fun c => by omega) (fun _ => ?_)
  simp only [k85, hOO.2.2.1, k88, nzl 88 (by decide), true_and]
  rw [clp (show k < 2 ^ 31 by omega), e2]
  refine ⟨vp_in_nI (by omega) (by decide), fun c => absurd rfl c, fun _ => ⟨rfl, fun c => absurd c (by decide), fun _ => ?_⟩⟩
  simp only [k60, hP4, hP5, k85, hOO.2.1, k87, k91, nzl 85 (by decide), nzl 87 (by decide), nzl 91 (by decide), true_and]
  rw [e1, clp (show fN < 2 ^ 31 by omega), hf91]
  refine ⟨vp_in_nI (by omega) (by decide), vp_in_nI (by omega) (by decide), x_Program_pass_102 _ _ _ _ _ _ ?_⟩
  simp only [k60, hP0, hc0, hT.1.1, hT.1.2.2.2.2.2.1, hT.1.2.2.2.2.2.2, nzz 5 (by decide), true_and]
  rw [clp (show t < 2 ^ 31 by omega), xN.1, (xN.2.2.2.2.st (by rw [psn_len, List.length_map]; exact htl)).2, ten_psn (by rw [List.length_map]; exact htl)]
  have esuf : (fl (N.map un) tl).length = ftl ((N.map un).take (t + 1)) + (fl ((N.drop (t + 1)).map un) tl).length := by
    rw [hfN', fl_len, List.map_drop]
    have : ftl (N.map un) = ftl ((N.map un).take (t + 1)) + ftl ((N.map un).drop (t + 1)) := by rw [← ftl_app, List.take_append_drop]
    omega
  rw [esuf, pk_sub (by omega), Nat.add_sub_cancel_left]
  generalize hsuf : (fl ((N.drop (t + 1)).map un) tl).length = suf at *
  refine ⟨vp_in_nI (by omega) (by decide), x_Program_pass_122 _ _ _ _ _ _ _ ?_⟩
  simp only [k60, hP1, hn0, hT.2.1, true_and]
  rw [xX.2.2.2.2.1, psn_len, List.length_map]
  have v165 : ∀ I', V E (d + 28) m_Program_pass 112 Q 17 [some (.inr 60), some (.inr o), some (.inl x2), some (.inl (nI (k + 1))), some (.inl (nI (t + 1))), none, none] [] 112 I' P → V E (d + 28) m_Program_pass 112 Q 165 [some (.inr 60), some (.inr o), some (.inl x2), some (.inl (nI k)), some (.inl (nI t)), none, none] [] 112 I' P := by
    intro I' hh
    refine x_Program_pass_165 _ _ _ _ _ (x_Program_pass_168 _ _ _ _ _ ?_)
    rw [n1, n1]
    exact hh
  have hLX := hR.2.2.1
  have h60 := hR.2.2.2.1
  have hkr := kds_psn Zr 0
  have hZl := LX_len hLX
  refine ⟨hO.1, s_matches (d := d) hO hT.2 (by decide) (by omega) h60 (by rw [psn_len]; omega) (by rw [hkr]; exact hR.2.2.2.2.2) (LX_bd hLX) (HD_LX hLX).1 hXl (by rw [psn_len, List.length_map]; omega) (by rw [kdi_psn]; exact hkX) (hW.bd []) (by rw [psn_len]; have := hR.2.2.2.2.1; omega) (by omega) (by rw [psn_len, List.length_map]; omega) hR.1 hR.2.1 xX (fun I1 B f1 hm hB => ?_) (fun I1 f1 hm => ?_)⟩
  · have hmx : mtx Zr tr ar X f = some B := by
      unfold mtx
      rw [hm]
      dsimp only
      rw [if_pos rfl]
    obtain ⟨hBO, hBK⟩ := mtc_bk hLX hG.1 hm
    have htri : tri Zr tr ar X f a suf R = (rwx Zr ar X f a suf R B).map (fun X2 => (X2, R + 1)) := by
      unfold tri
      rw [hmx]
    refine ⟨fun c => absurd c (by decide), fun _ => ?_⟩
    simp only [k60, hP4, k85, hOO.2.2.2.1, k89, nzl 85 (by decide), nzl 89 (by decide), true_and]
    rw [clp (show k < 2 ^ 31 by omega), f1 89 (by omega) (by omega), e3]
    refine ⟨vp_in_nI (by omega) (by decide), ?_⟩
    have xX1 : TZ I1 on X [] 0 := f1.txt (by omega) xX
    have hR1 : RLz I1 o Zr tr mk ar := hR.fr (fun m a b => f1 m (by omega) (by omega))
    have h61 : I1 60 6 = nI R := by rw [f1 60 (by omega) (by omega)]; exact h6
    obtain ⟨z, hz⟩ : ∃ z, X[f]? = some z := ⟨_, List.getElem?_eq_getElem hfX⟩
    obtain ⟨sp, msp, y0⟩ := z
    obtain ⟨qz, mz, hrn0, hqz⟩ := hG.2
    obtain ⟨qz', mz', hrn, -, -, hmz⟩ := rn_fill (num := nI (R + 1)) hBO (Zr.drop (ar + 1)) true 0 0 0 0 0 qz 0 mz hBK (Or.inl rfl) (Nat.le_refl _) hrn0
    have hTk : k10 ((Zr.drop (ar + 1)).map (fun z => z.2.1)) := fun k' hk' => hR.2.2.2.2.2 k' (by
      rw [List.map_drop] at hk'
      exact List.mem_of_mem_drop hk')
    have hfil := ftl_fil (num := nI (R + 1)) (Zr.drop (ar + 1)) true hBK
    have hdl : (Zr.drop (ar + 1)).length ≤ 60 := by rw [List.length_drop]; omega
    have hft : ftl (Zr.drop (ar + 1)) ≤ 60 := by
      have : ftl Zr = ftl (Zr.take (ar + 1)) + ftl (Zr.drop (ar + 1)) := by rw [← ftl_app, List.take_append_drop]
      have h' := fl_len Zr tr
      omega
    have hmul : ftl (X.map un) * (Zr.drop (ar + 1)).length ≤ 120 * 60 := Nat.mul_le_mul (by omega) hdl
    have hdpt : dpt (fil X B (nI (R + 1)) true (Zr.drop (ar + 1))) = mz' := by
      unfold dpt
      rw [hrn]
    refine s_rewrite (d := d + 23) hS hP1 (by rcases hcn with ⟨-, rfl⟩ | ⟨-, rfl⟩ <;> simp) hO ho hR1 xX1 hW (by omega) (by rw [psn_len, List.length_map] at hB; exact hB) hBK h61 hz ha (by omega) hrn (k10_kdi hkX _ true hTk hBK) (by omega) (by omega) (fun I2 y Y c1 c2 hY f2 f2' g6 x2' w2 r2 => ?_) (fun I2 c f2 r2 => ?_)
    · refine ⟨fun _ => v165 I2 ?_, fun c => absurd c (by decide)⟩
      have hrw : rwx Zr ar X f a suf R B = some (X.take f ++ sps y sp msp :: Y) := by
        unfold rwx
        rw [hz, hY]
        rw [hY] at hdpt c1
        dsimp only
        rw [if_pos ⟨c1, by rw [hdpt]; exact c2⟩]
      have hlen2 : ftl ((X.take f ++ sps y sp msp :: Y).map un) + (un y).1.length = ftl ((X.take f).map un) + sp.length + ftl ((fil X B (nI (R + 1)) true (Zr.drop (ar + 1))).map un) := by
        rw [List.map_append, ftl_app, hY]
        obtain ⟨a1, a2, a3, a4, a5⟩ := y
        show ftl _ + ftl ((sp, a3, a4) :: Y.map un) + a1.length = ftl _ + sp.length + ftl ((a1, a3, a4) :: Y.map un)
        rw [ftl_c, ftl_c]
        omega
      refine h1 I2 _ _ (by rw [htri, hrw]; rfl) ⟨fun m b1 b2 b3 b4 b5 b6 b7 => ?_, fun j hj => ?_⟩ ?_ ⟨?_, x2', ?_, g6, ⟨_, r2⟩, w2, ?_⟩ (by omega) ?_
      · rw [f2 m b1 b2 b4 b5, f1 m b6 b7]
      · rw [f2' j hj, f1 60 (by omega) (by omega)]
      · rw [f2 91 (by omega) (by omega) (by omega) (by omega), f1 91 (by omega) (by omega)]
      · unfold apt at ap
        exact xN.fr (fun m b1 b2 => by rw [f2 m (by omega) (by omega) (by omega) (by omega), f1 m (by omega) (by omega)])
      · exact hE.fr (fun m b1 b2 => by rw [f2 m (by omega) (by omega) (by omega) (by omega), f1 m (by omega) (by omega)])
      · have hkY := k10_kdi (num := nI (R + 1)) hkX _ true hTk hBK
        intro k' hk'
        rw [kdi_app] at hk'
        rcases List.mem_append.mp hk' with h' | h'
        · refine hkX k' ?_
          unfold kdi at h' ⊢
          rw [List.map_take] at h'
          exact List.mem_of_mem_take h'
        · rw [hY] at hkY
          exact hkY k' h'
      · rw [List.length_append, List.length_take, List.length_cons]
        omega
    · refine ⟨fun c => absurd rfl c, fun _ => ⟨rfl, h0 I2 ?_ ⟨fun m b1 b2 b3 b4 b5 b6 b7 => ?_, fun j hj => ?_⟩ ?_ r2⟩⟩
      · rw [htri]
        have hrw : rwx Zr ar X f a suf R B = none := by
          unfold rwx
          rw [hz]
          obtain ⟨y, Y, hY⟩ := fil_ne (num := nI (R + 1)) (fst := true) (B := B) (Zo := X) (T := Zr.drop (ar + 1)) (by
            intro e
            have := congrArg List.length e
            rw [List.length_drop] at this
            have := hR.2.2.2.2.1
            simp at *
            omega) hBK
          rw [hY] at hdpt c ⊢
          dsimp only
          rw [if_neg (by rw [hdpt]; exact c)]
        rw [hrw]
        rfl
      · rw [f2 m b2 b5, f1 m b6 b7]
      · rw [f2 60 (by omega) (by omega), f1 60 (by omega) (by omega)]
      · rw [f2 60 (by omega) (by omega)]
        exact h61
  · have hmx : mtx Zr tr ar X f = none := by
      unfold mtx
      cases hc : mtc (fl Zr tr) (psn 0 Zr) (fl (X.map un) []) (psn 0 (X.map un)) ar 0 f B0 with
      | none => rfl
      | some q =>
        obtain ⟨e, B⟩ := q
        dsimp only
        by_cases ee : e = X.length
        · exfalso
          apply hm B
          rw [hc, ee]
        · rw [if_neg ee]
    have htri : tri Zr tr ar X f a suf R = some (X, R) := by
      unfold tri
      rw [hmx]
    refine ⟨fun _ => v165 I1 (h1 I1 X R htri ⟨fun m b1 b2 b3 b4 b5 b6 b7 => f1 m b6 b7, fun j hj => by rw [f1 60 (by omega) (by omega)]⟩ (f1 91 (by omega) (by omega)) ⟨?_, f1.txt (by omega) xX, ?_, ?_, ⟨mk, hR.fr (fun m a b => f1 m (by omega) (by omega))⟩, hW, hkX⟩ hroom hfX), fun c => absurd rfl c⟩
    · exact xN.fr (fun m b1 b2 => f1 m (by omega) (by omega))
    · exact hE.fr (fun m b1 b2 => f1 m (by omega) (by omega))
    · rw [f1 60 (by omega) (by omega)]
      exact h6
end PV
end
section
/-! THE CLAIM OUT OF ONE WALK OF THE LAW'S BODY. Your part is whole_start (and what it stands on); all else here is the same for every law, but numbers. -/
def R_law : String := "RecipeRewriterLaw"
def lw_P (b : Addr) (xs : List Int32) (args : Array Value) (s : State) : Prop := args = #[.ref b] ∧ s.IntsAt b xs ∧ xs.length ≤ 1024 ∧ (Jvm.Cond.and given_1 narrow_1).before args s = true
def lw_Q (_ : Array Value) (s : State) (o : Outcome) (t : State) : Prop := o = .returned (some (.int 1)) ∧ Framed s o t [] 600000 7302250
def lw_Z (below : List Frame) (a : Array Value) (s : State) : State → Prop := fun t => ∃ o, t.status = .running ∧ Ended t below o ∧ lw_Q a s o t
/-- the law's own end, with 1 on the stack, nothing written that was there before, its room as the claim has it -/
theorem lw_ret {p : Program} {l : Launch} {e : Env} {s : State} {m : MethodId} {below : List Frame} {meth : Method} {c : Code} {b : Nat} (hx : p.tables.exec = Jvm.exec) (hb : c.code = code) (hr : meth.sig.returnType = ret) (hlocks : meth.locks = false) {pc : Nat} {H : Heap} {ls : Array Slot} (hdg : decode code pc = .ok (.ireturn, 1)) : W p l e room_1 s m #[Value.ref b] below meth c H [] 600000 7302250 (lw_Z below #[Value.ref b] s) (F0 m pc ls [.int 1]) := by
  intro T hT X
  obtain ⟨fs, hret, hrun, hended, hW, hframe⟩ := X.leave (v := some (.int 1)) (hlocks := hlocks) (fun h => by rw [hr] at h; cases h)
  have hmeth' : T.vm.method? m = some meth := X.method'
  refine ⟨T.setFrames fs, ?_, .returned (some (.int 1)), hrun, hended, rfl, ⟨_, rfl⟩, hW, hframe⟩
  jvm_step X.here [X.here.top, hx, hb, hdg, hmeth', hr, ret, narrow_b1]
  (try refine ⟨rfl, ?_⟩); (try refine ⟨rfl, ?_⟩)
  first | (intro acts; rw [hret _ acts rfl rfl rfl]) | rw [hret _ _ rfl rfl rfl]
  exact Steps.refl _
/-- what holds at the law's entry: the machine, the code, the tables' words (any of lw_tbl by 'hts w (by decide +kernel)'), the script of L ints xs at the cell b, what the Statement gives of the start (any of its parts by flat_of_before) -/
def lw_At (p : Program) (s : State) (m : MethodId) (meth : Method) (c : Code) (b L : Nat) (xs : Nat → Int32) : Prop :=
  p.tables.exec = Jvm.exec ∧ c.code = code ∧ meth.sig.returnType = ret ∧ c.maxLocals = 4 ∧ s.vm.findClass R_law = some m.cls ∧ (∀ w ∈ lw_tbl, w.before #[Value.ref b] s = true) ∧ va_X b L xs s s.heap ∧ b < s.heap.size ∧ meth.locks = false ∧ (Jvm.Cond.and given_1 narrow_1).before #[Value.ref b] s = true
theorem t59 : (Jvm.Cond.arrayOver (.object "RecipeRewriter$Rule")) ∈ lw_tbl := List.mem_of_getElem? (i := 59) rfl
theorem start_of (l : Launch) {p : Program} {e : Env} {s : State} {m : MethodId} {below : List Frame} {meth : Method} {c : Code} {b L : Nat} {xs : Nat → Int32} (C0 : lw_At p s m meth c b L xs)
    (hV : ∀ E : XE, xL E = L → xx E = xs → ∀ (I : mI) (P : mP), V E 1000 m_Law_law 112 (fun r _ _ => r = nI 1) 0 [some (.inr 1), none, none, none] [] 2 I P) : W p l e room_1 s m #[Value.ref b] below meth c s.heap [] 0 0 (lw_Z below #[Value.ref b] s) (entryFrame m ([Value.ref b] : List Value).toArray 4) := by
  obtain ⟨hx, hb, hr, hml, hown, hts, hX, hbl, hlocks, -⟩ := C0
  have htA : ∀ w ∈ wsA, w.before #[Value.ref b] s = true := fun w hw => hts w (List.mem_filter.mp hw).1
  have hN : ∀ w ∈ wsN, va_Nw w s := fun w hw => by
    have h1 := hts w (List.mem_filter.mp hw).1
    rcases wsN_two hw with ⟨a, i, b, n, d, h2, rfl⟩ | ⟨a, i, x, h2, rfl⟩
    · exact va_Nw.of rfl h1
    · exact va_Nw.of rfl h1
  have hAO : va_AO "RecipeRewriter$Rule" s := va_AO.of (hts _ t59)
  obtain ⟨cI, kI, compI, i1, i2, i3⟩ := Cond.arrayClass_spec (htA _ ck_int)
  obtain ⟨cB, kB, compB, b1, b2, b3⟩ := Cond.arrayClass_spec (htA _ ck_boo)
  obtain ⟨comp, cR, kR, r1, r2, r3, r4, r5⟩ := Cond.arrayOver_spec hAO
  have hD : ∀ ci : Nat, ∃ x : ClassId × (Nat → Nat), ∀ q, cls_[ci]? = some q → u_Kn s q.1 q.2.1 q.2.2 x.1 x.2 := by
    intro ci
    cases hc : cls_[ci]? with
    | none => exact ⟨(0, fun _ => 0), fun q hq => by cases hq⟩
    | some q =>
      obtain ⟨C, T, N⟩ := q
      obtain ⟨hin, -, -, -, hins, -, -⟩ := ck_cls hc
      obtain ⟨cC, iS, hk⟩ := u_known htA hin (htA _ hins)
      exact ⟨(cC, iS), fun q hq => by cases hq; exact hk⟩
  obtain ⟨f, hf⟩ : ∃ f : Nat → ClassId × (Nat → Nat), ∀ ci q, cls_[ci]? = some q → u_Kn s q.1 q.2.1 q.2.2 (f ci).1 (f ci).2 := ⟨fun ci => Classical.choose (hD ci), fun ci => Classical.choose_spec (hD ci)⟩
  have hK : va_K (fun ci => (f ci).1, fun ci => (f ci).2) cls_ [(cI, .int), (cB, .boolean), (cR, .object "RecipeRewriter$Rule")] s := by
    refine ⟨fun ci q hq => hf ci q hq, fun k q hq => ?_⟩
    have hk : k = 0 ∨ k = 1 ∨ k = 2 := by
      have := (List.getElem?_eq_some_iff.mp hq).1
      simp only [List.length_cons, List.length_nil] at this
      omega
    rcases hk with rfl | rfl | rfl
    · cases hq
      exact ⟨fun n z => ⟨fun k h => (by cases h), kI, i2, compI, i3⟩, i1⟩
    · cases hq
      exact ⟨fun n z => ⟨fun k h => (by cases h), kB, b2, compB, b3⟩, b1⟩
    · cases hq
      exact ⟨fun n z => ⟨fun k h => (by cases h), kR, r3, comp, r4⟩, kR, comp, r3, r4, r1, r5⟩
  have hw := hV (l, (fun ci => (f ci).1, fun ci => (f ci).2), cI, cB, cR, s.heap.size, b, L, xs) rfl rfl (fun _ _ => 0) (fun _ _ => 0) p e room_1 s m #[Value.ref b] below meth c (lw_Z below #[Value.ref b] s) 2
    ⟨hx, hb, hml, hown, htA, fun h => absurd h (by decide +kernel), ⟨hK, hN, hAO⟩, hX, hbl, Nat.le_refl 2, rfl⟩
    (fun r I P H ls locs pc hq hW hS => ⟨fun h0 => absurd h0 (by decide +kernel), fun ty hty _ hdg => va_forget hS.2.2 (W.widen (k := 600000) (n := 7302250) (by decide) (by decide +kernel) (by
      have hq : r = nI 1 := hq
      subst hq
      exact lw_ret hx hb hr hlocks hdg))⟩)
    (by decide) (by decide) (by decide) (by decide +kernel) (Nat.le_refl 2) (by decide) s.heap _ [] (fun k q hq => by cases hq) va_S.rf (LH.entry _ [.inr 1] (n := 4) (by decide))
  rw [lg_entry_eq]
  exact W.csx rfl (by decide +kernel) hw
end
