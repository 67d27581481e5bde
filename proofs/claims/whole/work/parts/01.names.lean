-- ===== PART A: goes FIRST, ahead of the names: the tables' words, and 'selects' of the private methods out of them =====
/-- a private method of a class that the tables say can be made, by its rows of tables_1 -/
def lw_okq (q : MethodName × Nat) : Prop := (q.1.cls ≠ "java/lang/invoke/MethodHandle" ∧ q.1.cls ≠ "java/lang/invoke/VarHandle") ∧ Cond.instantiable q.1.cls q.2 ∈ tables_1 ∧ Cond.privateMethod q.1 ∈ tables_1 ∧ Cond.instanceMethod q.1 ∈ tables_1
theorem lw_p0 : lw_okq (⟨"QuantifierProofs", "readBuffer", "(LQuantifierProofs$Reader;)I"⟩, 5) := ⟨⟨by decide +kernel, by decide +kernel⟩, List.mem_of_getElem? (i := 10) (by decide +kernel), List.mem_of_getElem? (i := 202) (by decide +kernel), List.mem_of_getElem? (i := 203) (by decide +kernel)⟩
theorem lw_p1 : lw_okq (⟨"QuantifierProofs$Words", "readNumber", "()V"⟩, 6) := ⟨⟨by decide +kernel, by decide +kernel⟩, List.mem_of_getElem? (i := 18) (by decide +kernel), List.mem_of_getElem? (i := 214) (by decide +kernel), List.mem_of_getElem? (i := 215) (by decide +kernel)⟩
theorem lw_p2 : lw_okq (⟨"QuantifierProofs$Words", "hasIdleZero", "(IIZ)Z"⟩, 6) := ⟨⟨by decide +kernel, by decide +kernel⟩, List.mem_of_getElem? (i := 18) (by decide +kernel), List.mem_of_getElem? (i := 218) (by decide +kernel), List.mem_of_getElem? (i := 219) (by decide +kernel)⟩
theorem lw_p3 : lw_okq (⟨"QuantifierProofs$FormulaReader", "takeLetter", "(LQuantifierProofs$Words;)I"⟩, 6) := ⟨⟨by decide +kernel, by decide +kernel⟩, List.mem_of_getElem? (i := 44) (by decide +kernel), List.mem_of_getElem? (i := 236) (by decide +kernel), List.mem_of_getElem? (i := 237) (by decide +kernel)⟩
theorem lw_p4 : lw_okq (⟨"QuantifierProofs$FormulaReader", "takeInBlock", "(I)I"⟩, 6) := ⟨⟨by decide +kernel, by decide +kernel⟩, List.mem_of_getElem? (i := 44) (by decide +kernel), List.mem_of_getElem? (i := 248) (by decide +kernel), List.mem_of_getElem? (i := 249) (by decide +kernel)⟩
theorem lw_p5 : lw_okq (⟨"QuantifierProofs$FormulaReader", "endBlock", "()I"⟩, 6) := ⟨⟨by decide +kernel, by decide +kernel⟩, List.mem_of_getElem? (i := 44) (by decide +kernel), List.mem_of_getElem? (i := 252) (by decide +kernel), List.mem_of_getElem? (i := 253) (by decide +kernel)⟩
theorem lw_p6 : lw_okq (⟨"QuantifierProofs$FormulaReader", "takeInClause", "(I)I"⟩, 6) := ⟨⟨by decide +kernel, by decide +kernel⟩, List.mem_of_getElem? (i := 44) (by decide +kernel), List.mem_of_getElem? (i := 270) (by decide +kernel), List.mem_of_getElem? (i := 271) (by decide +kernel)⟩
theorem lw_p7 : lw_okq (⟨"QuantifierProofs$FormulaReader", "endClause", "()I"⟩, 6) := ⟨⟨by decide +kernel, by decide +kernel⟩, List.mem_of_getElem? (i := 44) (by decide +kernel), List.mem_of_getElem? (i := 274) (by decide +kernel), List.mem_of_getElem? (i := 275) (by decide +kernel)⟩
theorem lw_p8 : lw_okq (⟨"QuantifierProofs$TraceReader", "takeLetter", "(LQuantifierProofs$Words;)I"⟩, 8) := ⟨⟨by decide +kernel, by decide +kernel⟩, List.mem_of_getElem? (i := 101) (by decide +kernel), List.mem_of_getElem? (i := 289) (by decide +kernel), List.mem_of_getElem? (i := 290) (by decide +kernel)⟩
theorem lw_p9 : lw_okq (⟨"QuantifierProofs$TraceReader", "beginStep", "(I)I"⟩, 8) := ⟨⟨by decide +kernel, by decide +kernel⟩, List.mem_of_getElem? (i := 101) (by decide +kernel), List.mem_of_getElem? (i := 296) (by decide +kernel), List.mem_of_getElem? (i := 297) (by decide +kernel)⟩
theorem lw_p10 : lw_okq (⟨"QuantifierProofs$TraceReader", "takeLiteral", "(I)I"⟩, 8) := ⟨⟨by decide +kernel, by decide +kernel⟩, List.mem_of_getElem? (i := 101) (by decide +kernel), List.mem_of_getElem? (i := 308) (by decide +kernel), List.mem_of_getElem? (i := 309) (by decide +kernel)⟩
theorem lw_p11 : lw_okq (⟨"QuantifierProofs$TraceReader", "takePremise", "(I)I"⟩, 8) := ⟨⟨by decide +kernel, by decide +kernel⟩, List.mem_of_getElem? (i := 101) (by decide +kernel), List.mem_of_getElem? (i := 314) (by decide +kernel), List.mem_of_getElem? (i := 315) (by decide +kernel)⟩
theorem lw_p12 : lw_okq (⟨"QuantifierProofs$TraceReader", "follows", "()Z"⟩, 8) := ⟨⟨by decide +kernel, by decide +kernel⟩, List.mem_of_getElem? (i := 101) (by decide +kernel), List.mem_of_getElem? (i := 322) (by decide +kernel), List.mem_of_getElem? (i := 323) (by decide +kernel)⟩
theorem lw_p13 : lw_okq (⟨"QuantifierProofs$TraceReader", "isStartCube", "()Z"⟩, 8) := ⟨⟨by decide +kernel, by decide +kernel⟩, List.mem_of_getElem? (i := 101) (by decide +kernel), List.mem_of_getElem? (i := 326) (by decide +kernel), List.mem_of_getElem? (i := 327) (by decide +kernel)⟩
theorem lw_p14 : lw_okq (⟨"QuantifierProofs$TraceReader", "isReductionOf", "(I)Z"⟩, 8) := ⟨⟨by decide +kernel, by decide +kernel⟩, List.mem_of_getElem? (i := 101) (by decide +kernel), List.mem_of_getElem? (i := 341) (by decide +kernel), List.mem_of_getElem? (i := 342) (by decide +kernel)⟩
theorem lw_p15 : lw_okq (⟨"QuantifierProofs$TraceReader", "mainVariables", "()I"⟩, 8) := ⟨⟨by decide +kernel, by decide +kernel⟩, List.mem_of_getElem? (i := 101) (by decide +kernel), List.mem_of_getElem? (i := 348) (by decide +kernel), List.mem_of_getElem? (i := 349) (by decide +kernel)⟩
def lw_privs_1 : List (MethodName × Nat) := [(⟨"QuantifierProofs", "readBuffer", "(LQuantifierProofs$Reader;)I"⟩, 5), (⟨"QuantifierProofs$Words", "readNumber", "()V"⟩, 6), (⟨"QuantifierProofs$Words", "hasIdleZero", "(IIZ)Z"⟩, 6), (⟨"QuantifierProofs$FormulaReader", "takeLetter", "(LQuantifierProofs$Words;)I"⟩, 6), (⟨"QuantifierProofs$FormulaReader", "takeInBlock", "(I)I"⟩, 6), (⟨"QuantifierProofs$FormulaReader", "endBlock", "()I"⟩, 6), (⟨"QuantifierProofs$FormulaReader", "takeInClause", "(I)I"⟩, 6), (⟨"QuantifierProofs$FormulaReader", "endClause", "()I"⟩, 6), (⟨"QuantifierProofs$TraceReader", "takeLetter", "(LQuantifierProofs$Words;)I"⟩, 8), (⟨"QuantifierProofs$TraceReader", "beginStep", "(I)I"⟩, 8), (⟨"QuantifierProofs$TraceReader", "takeLiteral", "(I)I"⟩, 8), (⟨"QuantifierProofs$TraceReader", "takePremise", "(I)I"⟩, 8), (⟨"QuantifierProofs$TraceReader", "follows", "()Z"⟩, 8), (⟨"QuantifierProofs$TraceReader", "isStartCube", "()Z"⟩, 8), (⟨"QuantifierProofs$TraceReader", "isReductionOf", "(I)Z"⟩, 8), (⟨"QuantifierProofs$TraceReader", "mainVariables", "()I"⟩, 8)]
theorem lw_r1 : ∀ q ∈ lw_privs_1, lw_okq q := List.forall_mem_cons.mpr ⟨lw_p0, List.forall_mem_cons.mpr ⟨lw_p1, List.forall_mem_cons.mpr ⟨lw_p2, List.forall_mem_cons.mpr ⟨lw_p3, List.forall_mem_cons.mpr ⟨lw_p4, List.forall_mem_cons.mpr ⟨lw_p5, List.forall_mem_cons.mpr ⟨lw_p6, List.forall_mem_cons.mpr ⟨lw_p7, List.forall_mem_cons.mpr ⟨lw_p8, List.forall_mem_cons.mpr ⟨lw_p9, List.forall_mem_cons.mpr ⟨lw_p10, List.forall_mem_cons.mpr ⟨lw_p11, List.forall_mem_cons.mpr ⟨lw_p12, List.forall_mem_cons.mpr ⟨lw_p13, List.forall_mem_cons.mpr ⟨lw_p14, List.forall_mem_cons.mpr ⟨lw_p15, fun _ h => absurd h List.not_mem_nil⟩⟩⟩⟩⟩⟩⟩⟩⟩⟩⟩⟩⟩⟩⟩⟩
theorem lw_p16 : lw_okq (⟨"QuantifierProofs$TraceReader", "sideVariables", "()I"⟩, 8) := ⟨⟨by decide +kernel, by decide +kernel⟩, List.mem_of_getElem? (i := 101) (by decide +kernel), List.mem_of_getElem? (i := 356) (by decide +kernel), List.mem_of_getElem? (i := 357) (by decide +kernel)⟩
theorem lw_p17 : lw_okq (⟨"QuantifierProofs$TraceReader", "isResolventOf", "(II)Z"⟩, 8) := ⟨⟨by decide +kernel, by decide +kernel⟩, List.mem_of_getElem? (i := 101) (by decide +kernel), List.mem_of_getElem? (i := 361) (by decide +kernel), List.mem_of_getElem? (i := 362) (by decide +kernel)⟩
theorem lw_p18 : lw_okq (⟨"QuantifierProofs$TraceReader", "endStep", "()V"⟩, 8) := ⟨⟨by decide +kernel, by decide +kernel⟩, List.mem_of_getElem? (i := 101) (by decide +kernel), List.mem_of_getElem? (i := 371) (by decide +kernel), List.mem_of_getElem? (i := 372) (by decide +kernel)⟩
theorem lw_p19 : lw_okq (⟨"QuantifierProofs$Formula", "truth", "(II)I"⟩, 6) := ⟨⟨by decide +kernel, by decide +kernel⟩, List.mem_of_getElem? (i := 50) (by decide +kernel), List.mem_of_getElem? (i := 464) (by decide +kernel), List.mem_of_getElem? (i := 465) (by decide +kernel)⟩
theorem lw_p20 : lw_okq (⟨"QuantifierProofsModel", "begin", "(I)I"⟩, 28) := ⟨⟨by decide +kernel, by decide +kernel⟩, List.mem_of_getElem? (i := 482) (by decide +kernel), List.mem_of_getElem? (i := 581) (by decide +kernel), List.mem_of_getElem? (i := 582) (by decide +kernel)⟩
theorem lw_p21 : lw_okq (⟨"QuantifierProofsModel", "end", "(I)I"⟩, 28) := ⟨⟨by decide +kernel, by decide +kernel⟩, List.mem_of_getElem? (i := 482) (by decide +kernel), List.mem_of_getElem? (i := 585) (by decide +kernel), List.mem_of_getElem? (i := 586) (by decide +kernel)⟩
theorem lw_p22 : lw_okq (⟨"QuantifierProofsModel", "word", "(II)I"⟩, 28) := ⟨⟨by decide +kernel, by decide +kernel⟩, List.mem_of_getElem? (i := 482) (by decide +kernel), List.mem_of_getElem? (i := 589) (by decide +kernel), List.mem_of_getElem? (i := 590) (by decide +kernel)⟩
theorem lw_p23 : lw_okq (⟨"QuantifierProofsModel", "read", "(I)I"⟩, 28) := ⟨⟨by decide +kernel, by decide +kernel⟩, List.mem_of_getElem? (i := 482) (by decide +kernel), List.mem_of_getElem? (i := 593) (by decide +kernel), List.mem_of_getElem? (i := 594) (by decide +kernel)⟩
theorem lw_p24 : lw_okq (⟨"QuantifierProofsModel", "readInBlock", "(I)I"⟩, 28) := ⟨⟨by decide +kernel, by decide +kernel⟩, List.mem_of_getElem? (i := 482) (by decide +kernel), List.mem_of_getElem? (i := 597) (by decide +kernel), List.mem_of_getElem? (i := 598) (by decide +kernel)⟩
theorem lw_p25 : lw_okq (⟨"QuantifierProofsModel", "follow", "(I)I"⟩, 28) := ⟨⟨by decide +kernel, by decide +kernel⟩, List.mem_of_getElem? (i := 482) (by decide +kernel), List.mem_of_getElem? (i := 611) (by decide +kernel), List.mem_of_getElem? (i := 612) (by decide +kernel)⟩
theorem lw_p26 : lw_okq (⟨"QuantifierProofsModel", "stepOf", "(I)I"⟩, 28) := ⟨⟨by decide +kernel, by decide +kernel⟩, List.mem_of_getElem? (i := 482) (by decide +kernel), List.mem_of_getElem? (i := 615) (by decide +kernel), List.mem_of_getElem? (i := 616) (by decide +kernel)⟩
theorem lw_p27 : lw_okq (⟨"QuantifierProofsModel", "isVariable", "(I)Z"⟩, 28) := ⟨⟨by decide +kernel, by decide +kernel⟩, List.mem_of_getElem? (i := 482) (by decide +kernel), List.mem_of_getElem? (i := 619) (by decide +kernel), List.mem_of_getElem? (i := 620) (by decide +kernel)⟩
theorem lw_p28 : lw_okq (⟨"QuantifierProofsModel", "close", "()I"⟩, 28) := ⟨⟨by decide +kernel, by decide +kernel⟩, List.mem_of_getElem? (i := 482) (by decide +kernel), List.mem_of_getElem? (i := 623) (by decide +kernel), List.mem_of_getElem? (i := 624) (by decide +kernel)⟩
theorem lw_p29 : lw_okq (⟨"QuantifierProofsModel", "follows", "()Z"⟩, 28) := ⟨⟨by decide +kernel, by decide +kernel⟩, List.mem_of_getElem? (i := 482) (by decide +kernel), List.mem_of_getElem? (i := 627) (by decide +kernel), List.mem_of_getElem? (i := 628) (by decide +kernel)⟩
theorem lw_p30 : lw_okq (⟨"QuantifierProofsModel", "isFirst", "()Z"⟩, 28) := ⟨⟨by decide +kernel, by decide +kernel⟩, List.mem_of_getElem? (i := 482) (by decide +kernel), List.mem_of_getElem? (i := 631) (by decide +kernel), List.mem_of_getElem? (i := 632) (by decide +kernel)⟩
theorem lw_p31 : lw_okq (⟨"QuantifierProofsModel", "reduced", "(I)I"⟩, 28) := ⟨⟨by decide +kernel, by decide +kernel⟩, List.mem_of_getElem? (i := 482) (by decide +kernel), List.mem_of_getElem? (i := 635) (by decide +kernel), List.mem_of_getElem? (i := 636) (by decide +kernel)⟩
def lw_privs_2 : List (MethodName × Nat) := [(⟨"QuantifierProofs$TraceReader", "sideVariables", "()I"⟩, 8), (⟨"QuantifierProofs$TraceReader", "isResolventOf", "(II)Z"⟩, 8), (⟨"QuantifierProofs$TraceReader", "endStep", "()V"⟩, 8), (⟨"QuantifierProofs$Formula", "truth", "(II)I"⟩, 6), (⟨"QuantifierProofsModel", "begin", "(I)I"⟩, 28), (⟨"QuantifierProofsModel", "end", "(I)I"⟩, 28), (⟨"QuantifierProofsModel", "word", "(II)I"⟩, 28), (⟨"QuantifierProofsModel", "read", "(I)I"⟩, 28), (⟨"QuantifierProofsModel", "readInBlock", "(I)I"⟩, 28), (⟨"QuantifierProofsModel", "follow", "(I)I"⟩, 28), (⟨"QuantifierProofsModel", "stepOf", "(I)I"⟩, 28), (⟨"QuantifierProofsModel", "isVariable", "(I)Z"⟩, 28), (⟨"QuantifierProofsModel", "close", "()I"⟩, 28), (⟨"QuantifierProofsModel", "follows", "()Z"⟩, 28), (⟨"QuantifierProofsModel", "isFirst", "()Z"⟩, 28), (⟨"QuantifierProofsModel", "reduced", "(I)I"⟩, 28)]
theorem lw_r2 : ∀ q ∈ lw_privs_2, lw_okq q := List.forall_mem_cons.mpr ⟨lw_p16, List.forall_mem_cons.mpr ⟨lw_p17, List.forall_mem_cons.mpr ⟨lw_p18, List.forall_mem_cons.mpr ⟨lw_p19, List.forall_mem_cons.mpr ⟨lw_p20, List.forall_mem_cons.mpr ⟨lw_p21, List.forall_mem_cons.mpr ⟨lw_p22, List.forall_mem_cons.mpr ⟨lw_p23, List.forall_mem_cons.mpr ⟨lw_p24, List.forall_mem_cons.mpr ⟨lw_p25, List.forall_mem_cons.mpr ⟨lw_p26, List.forall_mem_cons.mpr ⟨lw_p27, List.forall_mem_cons.mpr ⟨lw_p28, List.forall_mem_cons.mpr ⟨lw_p29, List.forall_mem_cons.mpr ⟨lw_p30, List.forall_mem_cons.mpr ⟨lw_p31, fun _ h => absurd h List.not_mem_nil⟩⟩⟩⟩⟩⟩⟩⟩⟩⟩⟩⟩⟩⟩⟩⟩
theorem lw_p32 : lw_okq (⟨"QuantifierProofsModel", "isMain", "(I)Z"⟩, 28) := ⟨⟨by decide +kernel, by decide +kernel⟩, List.mem_of_getElem? (i := 482) (by decide +kernel), List.mem_of_getElem? (i := 642) (by decide +kernel), List.mem_of_getElem? (i := 643) (by decide +kernel)⟩
theorem lw_p33 : lw_okq (⟨"QuantifierProofsModel", "isResolved", "(II)Z"⟩, 28) := ⟨⟨by decide +kernel, by decide +kernel⟩, List.mem_of_getElem? (i := 482) (by decide +kernel), List.mem_of_getElem? (i := 646) (by decide +kernel), List.mem_of_getElem? (i := 647) (by decide +kernel)⟩
theorem lw_p34 : lw_okq (⟨"QuantifierProofsModel", "takeId", "(I)I"⟩, 28) := ⟨⟨by decide +kernel, by decide +kernel⟩, List.mem_of_getElem? (i := 482) (by decide +kernel), List.mem_of_getElem? (i := 653) (by decide +kernel), List.mem_of_getElem? (i := 654) (by decide +kernel)⟩
theorem lw_p35 : lw_okq (⟨"QuantifierProofsModel", "play0", "(I)V"⟩, 28) := ⟨⟨by decide +kernel, by decide +kernel⟩, List.mem_of_getElem? (i := 482) (by decide +kernel), List.mem_of_getElem? (i := 694) (by decide +kernel), List.mem_of_getElem? (i := 695) (by decide +kernel)⟩
def lw_privs_3 : List (MethodName × Nat) := [(⟨"QuantifierProofsModel", "isMain", "(I)Z"⟩, 28), (⟨"QuantifierProofsModel", "isResolved", "(II)Z"⟩, 28), (⟨"QuantifierProofsModel", "takeId", "(I)I"⟩, 28), (⟨"QuantifierProofsModel", "play0", "(I)V"⟩, 28)]
theorem lw_r3 : ∀ q ∈ lw_privs_3, lw_okq q := List.forall_mem_cons.mpr ⟨lw_p32, List.forall_mem_cons.mpr ⟨lw_p33, List.forall_mem_cons.mpr ⟨lw_p34, List.forall_mem_cons.mpr ⟨lw_p35, fun _ h => absurd h List.not_mem_nil⟩⟩⟩⟩
def lw_privs : List (MethodName × Nat) := lw_privs_1 ++ (lw_privs_2 ++ (lw_privs_3))
def lw_tbl : List Cond := k2_sels lw_privs ++ tables_1
theorem lw_privs_ok : ∀ q ∈ lw_privs, lw_okq q := by
  show ∀ q ∈ lw_privs_1 ++ (lw_privs_2 ++ (lw_privs_3)), lw_okq q
  exact List.forall_mem_append.mpr ⟨lw_r1, List.forall_mem_append.mpr ⟨lw_r2, lw_r3⟩⟩
def R_QP : String := "QuantifierProofs"
def R_MO : String := "QuantifierProofsModel"
def R_Formula : String := "QuantifierProofs$Formula"
def R_FormulaReader : String := "QuantifierProofs$FormulaReader"
def R_Proof : String := "QuantifierProofs$Proof"
def R_Reader : String := "QuantifierProofs$Reader"
def R_TraceReader : String := "QuantifierProofs$TraceReader"
def R_Words : String := "QuantifierProofs$Words"
def R_LA : String := "QuantifierProofsLaw"
def R_JI : String := "java/lang/Integer"
def F_QP : u_T := fun k => match k with
  | 0 => ("QuantifierProofs", "words", "LQuantifierProofs$Words;", true)
  | 1 => ("QuantifierProofs", "formulaReader", "LQuantifierProofs$FormulaReader;", true)
  | 2 => ("QuantifierProofs", "traceReader", "LQuantifierProofs$TraceReader;", true)
  | 3 => ("QuantifierProofs", "proof", "LQuantifierProofs$Proof;", true)
  | _ => ("QuantifierProofs", "current", "LQuantifierProofs$Formula;", false)
def t_QP : Nat → FieldType := fun k => match k with
  | 0 => (.object "QuantifierProofs$Words")
  | 1 => (.object "QuantifierProofs$FormulaReader")
  | 2 => (.object "QuantifierProofs$TraceReader")
  | 3 => (.object "QuantifierProofs$Proof")
  | _ => (.object "QuantifierProofs$Formula")
def F_MO : u_T := fun k => match k with
  | 0 => ("QuantifierProofsModel", "buffer", "[I", true)
  | 1 => ("QuantifierProofsModel", "size", "I", false)
  | 2 => ("QuantifierProofsModel", "variables", "I", false)
  | 3 => ("QuantifierProofsModel", "variable", "[I", true)
  | 4 => ("QuantifierProofsModel", "forAll", "[Z", true)
  | 5 => ("QuantifierProofsModel", "place", "[I", true)
  | 6 => ("QuantifierProofsModel", "clauses", "I", false)
  | 7 => ("QuantifierProofsModel", "clause", "[I", true)
  | 8 => ("QuantifierProofsModel", "newVariables", "I", false)
  | 9 => ("QuantifierProofsModel", "newVariable", "[I", true)
  | 10 => ("QuantifierProofsModel", "newForAll", "[Z", true)
  | 11 => ("QuantifierProofsModel", "newPlace", "[I", true)
  | 12 => ("QuantifierProofsModel", "newClauses", "I", false)
  | 13 => ("QuantifierProofsModel", "newClause", "[I", true)
  | 14 => ("QuantifierProofsModel", "steps", "I", false)
  | 15 => ("QuantifierProofsModel", "id", "[I", true)
  | 16 => ("QuantifierProofsModel", "set", "[I", true)
  | 17 => ("QuantifierProofsModel", "cube", "[Z", true)
  | 18 => ("QuantifierProofsModel", "rest", "[I", true)
  | 19 => ("QuantifierProofsModel", "state", "I", false)
  | 20 => ("QuantifierProofsModel", "all", "Z", false)
  | 21 => ("QuantifierProofsModel", "many", "I", false)
  | 22 => ("QuantifierProofsModel", "now", "I", false)
  | 23 => ("QuantifierProofsModel", "own", "I", false)
  | 24 => ("QuantifierProofsModel", "cubes", "Z", false)
  | 25 => ("QuantifierProofsModel", "from0", "I", false)
  | 26 => ("QuantifierProofsModel", "from1", "I", false)
  | _ => ("QuantifierProofsModel", "good", "[Z", true)
def t_MO : Nat → FieldType := fun k => match k with
  | 0 => (.array .int)
  | 1 => .int
  | 2 => .int
  | 3 => (.array .int)
  | 4 => (.array .boolean)
  | 5 => (.array .int)
  | 6 => .int
  | 7 => (.array .int)
  | 8 => .int
  | 9 => (.array .int)
  | 10 => (.array .boolean)
  | 11 => (.array .int)
  | 12 => .int
  | 13 => (.array .int)
  | 14 => .int
  | 15 => (.array .int)
  | 16 => (.array .int)
  | 17 => (.array .boolean)
  | 18 => (.array .int)
  | 19 => .int
  | 20 => .boolean
  | 21 => .int
  | 22 => .int
  | 23 => .int
  | 24 => .boolean
  | 25 => .int
  | 26 => .int
  | _ => (.array .boolean)
def F_Formula : u_T := fun k => match k with
  | 0 => ("QuantifierProofs$Formula", "order", "[I", true)
  | 1 => ("QuantifierProofs$Formula", "clauseLiterals", "[I", true)
  | 2 => ("QuantifierProofs$Formula", "variableCount", "I", false)
  | 3 => ("QuantifierProofs$Formula", "clauseCount", "I", false)
  | 4 => ("QuantifierProofs$Formula", "forAll", "I", false)
  | _ => ("QuantifierProofs$Formula", "forSome", "I", false)
def t_Formula : Nat → FieldType := fun k => match k with
  | 0 => (.array .int)
  | 1 => (.array .int)
  | 2 => .int
  | 3 => .int
  | 4 => .int
  | _ => .int
def F_FormulaReader : u_T := fun k => match k with
  | 0 => ("QuantifierProofs$FormulaReader", "draft", "LQuantifierProofs$Formula;", false)
  | 1 => ("QuantifierProofs$FormulaReader", "blockMayBegin", "Z", false)
  | 2 => ("QuantifierProofs$FormulaReader", "inBlock", "Z", false)
  | 3 => ("QuantifierProofs$FormulaReader", "blockHasVariables", "Z", false)
  | 4 => ("QuantifierProofs$FormulaReader", "blockIsForAll", "Z", false)
  | _ => ("QuantifierProofs$FormulaReader", "literals", "I", false)
def t_FormulaReader : Nat → FieldType := fun k => match k with
  | 0 => (.object "QuantifierProofs$Formula")
  | 1 => .boolean
  | 2 => .boolean
  | 3 => .boolean
  | 4 => .boolean
  | _ => .int
def F_Proof : u_T := fun k => match k with
  | 0 => ("QuantifierProofs$Proof", "ids", "[I", true)
  | 1 => ("QuantifierProofs$Proof", "literals", "[I", true)
  | 2 => ("QuantifierProofs$Proof", "grounds", "[I", true)
  | 3 => ("QuantifierProofs$Proof", "cubes", "[Z", true)
  | _ => ("QuantifierProofs$Proof", "count", "I", false)
def t_Proof : Nat → FieldType := fun k => match k with
  | 0 => (.array .int)
  | 1 => (.array .int)
  | 2 => (.array .int)
  | 3 => (.array .boolean)
  | _ => .int
def F_TraceReader : u_T := fun k => match k with
  | 0 => ("QuantifierProofs$TraceReader", "proof", "LQuantifierProofs$Proof;", true)
  | 1 => ("QuantifierProofs$TraceReader", "premises", "[I", true)
  | 2 => ("QuantifierProofs$TraceReader", "formula", "LQuantifierProofs$Formula;", false)
  | 3 => ("QuantifierProofs$TraceReader", "stage", "I", false)
  | 4 => ("QuantifierProofs$TraceReader", "cube", "Z", false)
  | 5 => ("QuantifierProofs$TraceReader", "id", "I", false)
  | 6 => ("QuantifierProofs$TraceReader", "literals", "I", false)
  | _ => ("QuantifierProofs$TraceReader", "premiseCount", "I", false)
def t_TraceReader : Nat → FieldType := fun k => match k with
  | 0 => (.object "QuantifierProofs$Proof")
  | 1 => (.array .int)
  | 2 => (.object "QuantifierProofs$Formula")
  | 3 => .int
  | 4 => .boolean
  | 5 => .int
  | 6 => .int
  | _ => .int
def F_Words : u_T := fun k => match k with
  | 0 => ("QuantifierProofs$Words", "characters", "[C", true)
  | 1 => ("QuantifierProofs$Words", "length", "I", false)
  | 2 => ("QuantifierProofs$Words", "start", "I", false)
  | 3 => ("QuantifierProofs$Words", "end", "I", false)
  | 4 => ("QuantifierProofs$Words", "numeric", "Z", false)
  | _ => ("QuantifierProofs$Words", "number", "I", false)
def t_Words : Nat → FieldType := fun k => match k with
  | 0 => (.array .char)
  | 1 => .int
  | 2 => .int
  | 3 => .int
  | 4 => .boolean
  | _ => .int
abbrev classes : List vw_C := [(R_QP, F_QP, 5), (R_MO, F_MO, 28), (R_Formula, F_Formula, 6), (R_FormulaReader, F_FormulaReader, 6), (R_Proof, F_Proof, 5), (R_TraceReader, F_TraceReader, 8), (R_Words, F_Words, 6)]
theorem n_QP : ∀ a, a < 5 → ∀ b, b < 5 → a ≠ b → (F_QP a).2.1 ≠ (F_QP b).2.1 := by decide +kernel
theorem t_QP_ok : ∀ k, k < 5 → parseFieldDescriptor (F_QP k).2.2.1 = some (t_QP k) := by decide +kernel
theorem n_MO : ∀ a, a < 28 → ∀ b, b < 28 → a ≠ b → (F_MO a).2.1 ≠ (F_MO b).2.1 := by decide +kernel
theorem t_MO_ok : ∀ k, k < 28 → parseFieldDescriptor (F_MO k).2.2.1 = some (t_MO k) := by decide +kernel
theorem n_Formula : ∀ a, a < 6 → ∀ b, b < 6 → a ≠ b → (F_Formula a).2.1 ≠ (F_Formula b).2.1 := by decide +kernel
theorem t_Formula_ok : ∀ k, k < 6 → parseFieldDescriptor (F_Formula k).2.2.1 = some (t_Formula k) := by decide +kernel
theorem n_FormulaReader : ∀ a, a < 6 → ∀ b, b < 6 → a ≠ b → (F_FormulaReader a).2.1 ≠ (F_FormulaReader b).2.1 := by decide +kernel
theorem t_FormulaReader_ok : ∀ k, k < 6 → parseFieldDescriptor (F_FormulaReader k).2.2.1 = some (t_FormulaReader k) := by decide +kernel
theorem n_Proof : ∀ a, a < 5 → ∀ b, b < 5 → a ≠ b → (F_Proof a).2.1 ≠ (F_Proof b).2.1 := by decide +kernel
theorem t_Proof_ok : ∀ k, k < 5 → parseFieldDescriptor (F_Proof k).2.2.1 = some (t_Proof k) := by decide +kernel
theorem n_TraceReader : ∀ a, a < 8 → ∀ b, b < 8 → a ≠ b → (F_TraceReader a).2.1 ≠ (F_TraceReader b).2.1 := by decide +kernel
theorem t_TraceReader_ok : ∀ k, k < 8 → parseFieldDescriptor (F_TraceReader k).2.2.1 = some (t_TraceReader k) := by decide +kernel
theorem n_Words : ∀ a, a < 6 → ∀ b, b < 6 → a ≠ b → (F_Words a).2.1 ≠ (F_Words b).2.1 := by decide +kernel
theorem t_Words_ok : ∀ k, k < 6 → parseFieldDescriptor (F_Words k).2.2.1 = some (t_Words k) := by decide +kernel
abbrev b_QP_init : ByteArray := prog_1_method_1_code
def y_QP_init : MethodName := ⟨R_QP, "<init>", "()V"⟩
abbrev b_JO_init : ByteArray := object_method_1_code
def y_JO_init : MethodName := ⟨"java/lang/Object", "<init>", "()V"⟩
abbrev b_Words_init : ByteArray := prog_7_method_1_code
def y_Words_init : MethodName := ⟨R_Words, "<init>", "()V"⟩
abbrev b_FormulaReader_init : ByteArray := prog_3_method_1_code
def y_FormulaReader_init : MethodName := ⟨R_FormulaReader, "<init>", "()V"⟩
abbrev b_Formula_init : ByteArray := prog_2_method_1_code
def y_Formula_init : MethodName := ⟨R_Formula, "<init>", "()V"⟩
abbrev b_TraceReader_init : ByteArray := prog_6_method_1_code
def y_TraceReader_init : MethodName := ⟨R_TraceReader, "<init>", "()V"⟩
abbrev b_Proof_init : ByteArray := prog_4_method_1_code
def y_Proof_init : MethodName := ⟨R_Proof, "<init>", "()V"⟩
abbrev b_QP_type : ByteArray := prog_1_method_2_code
def y_QP_type : MethodName := ⟨R_QP, "type", "(C)Z"⟩
abbrev b_Words_append : ByteArray := prog_7_method_2_code
def y_Words_append : MethodName := ⟨R_Words, "append", "(C)Z"⟩
abbrev b_QP_formula : ByteArray := prog_1_method_3_code
def y_QP_formula : MethodName := ⟨R_QP, "formula", "()I"⟩
abbrev b_FormulaReader_begin : ByteArray := prog_3_method_2_code
def y_FormulaReader_begin : MethodName := ⟨R_FormulaReader, "begin", "()V"⟩
abbrev b_Formula_forget : ByteArray := prog_2_method_2_code
def y_Formula_forget : MethodName := ⟨R_Formula, "forget", "()V"⟩
abbrev b_QP_readBuffer : ByteArray := prog_1_method_15_code
def y_QP_readBuffer : MethodName := ⟨R_QP, "readBuffer", "(LQuantifierProofs$Reader;)I"⟩
abbrev b_Words_rewind : ByteArray := prog_7_method_4_code
def y_Words_rewind : MethodName := ⟨R_Words, "rewind", "()V"⟩
abbrev b_Words_advance : ByteArray := prog_7_method_5_code
def y_Words_advance : MethodName := ⟨R_Words, "advance", "()Z"⟩
abbrev b_Words_readNumber : ByteArray := prog_7_method_10_code
def y_Words_readNumber : MethodName := ⟨R_Words, "readNumber", "()V"⟩
abbrev b_Words_hasIdleZero : ByteArray := prog_7_method_11_code
def y_Words_hasIdleZero : MethodName := ⟨R_Words, "hasIdleZero", "(IIZ)Z"⟩
abbrev b_FormulaReader_take : ByteArray := prog_3_method_4_code
def y_FormulaReader_take : MethodName := ⟨R_FormulaReader, "take", "(LQuantifierProofs$Words;)I"⟩
abbrev b_Words_isNumber : ByteArray := prog_7_method_8_code
def y_Words_isNumber : MethodName := ⟨R_Words, "isNumber", "()Z"⟩
abbrev b_FormulaReader_takeLetter : ByteArray := prog_3_method_6_code
def y_FormulaReader_takeLetter : MethodName := ⟨R_FormulaReader, "takeLetter", "(LQuantifierProofs$Words;)I"⟩
abbrev b_Words_isLetter : ByteArray := prog_7_method_7_code
def y_Words_isLetter : MethodName := ⟨R_Words, "isLetter", "(C)Z"⟩
abbrev b_Words_value : ByteArray := prog_7_method_9_code
def y_Words_value : MethodName := ⟨R_Words, "value", "()I"⟩
abbrev b_FormulaReader_takeInBlock : ByteArray := prog_3_method_7_code
def y_FormulaReader_takeInBlock : MethodName := ⟨R_FormulaReader, "takeInBlock", "(I)I"⟩
abbrev b_FormulaReader_endBlock : ByteArray := prog_3_method_8_code
def y_FormulaReader_endBlock : MethodName := ⟨R_FormulaReader, "endBlock", "()I"⟩
abbrev b_Formula_hasLiteral : ByteArray := prog_2_method_3_code
def y_Formula_hasLiteral : MethodName := ⟨R_Formula, "hasLiteral", "(I)Z"⟩
abbrev b_QP_literalsOf : ByteArray := prog_1_method_19_code
def y_QP_literalsOf : MethodName := ⟨R_QP, "literalsOf", "(I)I"⟩
abbrev b_QP_setOf : ByteArray := prog_1_method_16_code
def y_QP_setOf : MethodName := ⟨R_QP, "setOf", "(I)I"⟩
abbrev b_Formula_addVariable : ByteArray := prog_2_method_5_code
def y_Formula_addVariable : MethodName := ⟨R_Formula, "addVariable", "(IZ)V"⟩
abbrev b_FormulaReader_takeInClause : ByteArray := prog_3_method_9_code
def y_FormulaReader_takeInClause : MethodName := ⟨R_FormulaReader, "takeInClause", "(I)I"⟩
abbrev b_FormulaReader_endClause : ByteArray := prog_3_method_10_code
def y_FormulaReader_endClause : MethodName := ⟨R_FormulaReader, "endClause", "()I"⟩
abbrev b_Formula_addClause : ByteArray := prog_2_method_6_code
def y_Formula_addClause : MethodName := ⟨R_Formula, "addClause", "(I)Z"⟩
abbrev b_TraceReader_take : ByteArray := prog_6_method_3_code
def y_TraceReader_take : MethodName := ⟨R_TraceReader, "take", "(LQuantifierProofs$Words;)I"⟩
abbrev b_TraceReader_takeLetter : ByteArray := prog_6_method_5_code
def y_TraceReader_takeLetter : MethodName := ⟨R_TraceReader, "takeLetter", "(LQuantifierProofs$Words;)I"⟩
abbrev b_TraceReader_beginStep : ByteArray := prog_6_method_6_code
def y_TraceReader_beginStep : MethodName := ⟨R_TraceReader, "beginStep", "(I)I"⟩
abbrev b_Proof_find : ByteArray := prog_4_method_5_code
def y_Proof_find : MethodName := ⟨R_Proof, "find", "(I)I"⟩
abbrev b_Proof_isFull : ByteArray := prog_4_method_4_code
def y_Proof_isFull : MethodName := ⟨R_Proof, "isFull", "()Z"⟩
abbrev b_TraceReader_takeLiteral : ByteArray := prog_6_method_7_code
def y_TraceReader_takeLiteral : MethodName := ⟨R_TraceReader, "takeLiteral", "(I)I"⟩
abbrev b_TraceReader_takePremise : ByteArray := prog_6_method_8_code
def y_TraceReader_takePremise : MethodName := ⟨R_TraceReader, "takePremise", "(I)I"⟩
abbrev b_Proof_has : ByteArray := prog_4_method_3_code
def y_Proof_has : MethodName := ⟨R_Proof, "has", "(I)Z"⟩
abbrev b_TraceReader_follows : ByteArray := prog_6_method_10_code
def y_TraceReader_follows : MethodName := ⟨R_TraceReader, "follows", "()Z"⟩
abbrev b_TraceReader_isStartCube : ByteArray := prog_6_method_13_code
def y_TraceReader_isStartCube : MethodName := ⟨R_TraceReader, "isStartCube", "()Z"⟩
abbrev b_QP_bothWaysIn : ByteArray := prog_1_method_18_code
def y_QP_bothWaysIn : MethodName := ⟨R_QP, "bothWaysIn", "(I)I"⟩
abbrev b_Formula_isMetBy : ByteArray := prog_2_method_8_code
def y_Formula_isMetBy : MethodName := ⟨R_Formula, "isMetBy", "(I)Z"⟩
abbrev b_Formula_hasClause : ByteArray := prog_2_method_7_code
def y_Formula_hasClause : MethodName := ⟨R_Formula, "hasClause", "(I)Z"⟩
abbrev b_TraceReader_isReductionOf : ByteArray := prog_6_method_14_code
def y_TraceReader_isReductionOf : MethodName := ⟨R_TraceReader, "isReductionOf", "(I)Z"⟩
abbrev b_QP_variablesIn : ByteArray := prog_1_method_17_code
def y_QP_variablesIn : MethodName := ⟨R_QP, "variablesIn", "(I)I"⟩
abbrev b_TraceReader_mainVariables : ByteArray := prog_6_method_11_code
def y_TraceReader_mainVariables : MethodName := ⟨R_TraceReader, "mainVariables", "()I"⟩
abbrev b_Formula_innerToAll : ByteArray := prog_2_method_9_code
def y_Formula_innerToAll : MethodName := ⟨R_Formula, "innerToAll", "(I)I"⟩
abbrev b_TraceReader_sideVariables : ByteArray := prog_6_method_12_code
def y_TraceReader_sideVariables : MethodName := ⟨R_TraceReader, "sideVariables", "()I"⟩
abbrev b_TraceReader_isResolventOf : ByteArray := prog_6_method_15_code
def y_TraceReader_isResolventOf : MethodName := ⟨R_TraceReader, "isResolventOf", "(II)Z"⟩
abbrev b_JI_bitCount : ByteArray := prog_10_method_49_code
def y_JI_bitCount : MethodName := ⟨R_JI, "bitCount", "(I)I"⟩
abbrev b_TraceReader_endStep : ByteArray := prog_6_method_9_code
def y_TraceReader_endStep : MethodName := ⟨R_TraceReader, "endStep", "()V"⟩
abbrev b_Proof_add : ByteArray := prog_4_method_6_code
def y_Proof_add : MethodName := ⟨R_Proof, "add", "(IIZI)V"⟩
abbrev b_FormulaReader_mayEnd : ByteArray := prog_3_method_5_code
def y_FormulaReader_mayEnd : MethodName := ⟨R_FormulaReader, "mayEnd", "()Z"⟩
abbrev b_TraceReader_mayEnd : ByteArray := prog_6_method_4_code
def y_TraceReader_mayEnd : MethodName := ⟨R_TraceReader, "mayEnd", "()Z"⟩
abbrev b_Words_place : ByteArray := prog_7_method_6_code
def y_Words_place : MethodName := ⟨R_Words, "place", "()I"⟩
abbrev b_Words_forget : ByteArray := prog_7_method_3_code
def y_Words_forget : MethodName := ⟨R_Words, "forget", "()V"⟩
abbrev b_FormulaReader_exchange : ByteArray := prog_3_method_3_code
def y_FormulaReader_exchange : MethodName := ⟨R_FormulaReader, "exchange", "(LQuantifierProofs$Formula;)LQuantifierProofs$Formula;"⟩
abbrev b_Proof_forget : ByteArray := prog_4_method_2_code
def y_Proof_forget : MethodName := ⟨R_Proof, "forget", "()V"⟩
abbrev b_QP_trace : ByteArray := prog_1_method_4_code
def y_QP_trace : MethodName := ⟨R_QP, "trace", "()I"⟩
abbrev b_TraceReader_begin : ByteArray := prog_6_method_2_code
def y_TraceReader_begin : MethodName := ⟨R_TraceReader, "begin", "(LQuantifierProofs$Formula;)V"⟩
abbrev b_QP_variables : ByteArray := prog_1_method_5_code
def y_QP_variables : MethodName := ⟨R_QP, "variables", "()I"⟩
abbrev b_QP_variable : ByteArray := prog_1_method_6_code
def y_QP_variable : MethodName := ⟨R_QP, "variable", "(I)I"⟩
abbrev b_Formula_isForAll : ByteArray := prog_2_method_4_code
def y_Formula_isForAll : MethodName := ⟨R_Formula, "isForAll", "(I)Z"⟩
abbrev b_QP_clauses : ByteArray := prog_1_method_7_code
def y_QP_clauses : MethodName := ⟨R_QP, "clauses", "()I"⟩
abbrev b_QP_clause : ByteArray := prog_1_method_8_code
def y_QP_clause : MethodName := ⟨R_QP, "clause", "(I)I"⟩
abbrev b_QP_steps : ByteArray := prog_1_method_9_code
def y_QP_steps : MethodName := ⟨R_QP, "steps", "()I"⟩
abbrev b_QP_step : ByteArray := prog_1_method_10_code
def y_QP_step : MethodName := ⟨R_QP, "step", "(I)I"⟩
abbrev b_QP_rests : ByteArray := prog_1_method_11_code
def y_QP_rests : MethodName := ⟨R_QP, "rests", "(I)I"⟩
abbrev b_QP_empty : ByteArray := prog_1_method_12_code
def y_QP_empty : MethodName := ⟨R_QP, "empty", "()I"⟩
abbrev b_QP_won : ByteArray := prog_1_method_13_code
def y_QP_won : MethodName := ⟨R_QP, "won", "(II)Z"⟩
abbrev b_Formula_isWon : ByteArray := prog_2_method_10_code
def y_Formula_isWon : MethodName := ⟨R_Formula, "isWon", "(II)Z"⟩
abbrev b_Formula_truth : ByteArray := prog_2_method_12_code
def y_Formula_truth : MethodName := ⟨R_Formula, "truth", "(II)I"⟩
abbrev b_Formula_someCanWin : ByteArray := prog_2_method_13_code
def y_Formula_someCanWin : MethodName := ⟨R_Formula, "someCanWin", "(LQuantifierProofs$Formula;II)Z"⟩
abbrev b_QP_play : ByteArray := prog_1_method_14_code
def y_QP_play : MethodName := ⟨R_QP, "play", "(I)I"⟩
abbrev b_Formula_choiceOfAll : ByteArray := prog_2_method_11_code
def y_Formula_choiceOfAll : MethodName := ⟨R_Formula, "choiceOfAll", "(II)I"⟩
abbrev b_MO_init : ByteArray := prog_9_method_1_code
def y_MO_init : MethodName := ⟨R_MO, "<init>", "()V"⟩
abbrev b_MO_type : ByteArray := prog_9_method_2_code
def y_MO_type : MethodName := ⟨R_MO, "type", "(C)Z"⟩
abbrev b_MO_formula : ByteArray := prog_9_method_10_code
def y_MO_formula : MethodName := ⟨R_MO, "formula", "()I"⟩
abbrev b_MO_begin : ByteArray := prog_9_method_3_code
def y_MO_begin : MethodName := ⟨R_MO, "begin", "(I)I"⟩
abbrev b_MO_end : ByteArray := prog_9_method_4_code
def y_MO_end : MethodName := ⟨R_MO, "end", "(I)I"⟩
abbrev b_MO_word : ByteArray := prog_9_method_5_code
def y_MO_word : MethodName := ⟨R_MO, "word", "(II)I"⟩
abbrev b_MO_read : ByteArray := prog_9_method_8_code
def y_MO_read : MethodName := ⟨R_MO, "read", "(I)I"⟩
abbrev b_MO_readInBlock : ByteArray := prog_9_method_9_code
def y_MO_readInBlock : MethodName := ⟨R_MO, "readInBlock", "(I)I"⟩
abbrev b_MO_other : ByteArray := prog_9_method_7_code
def y_MO_other : MethodName := ⟨R_MO, "other", "(I)I"⟩
abbrev b_MO_bit : ByteArray := prog_9_method_6_code
def y_MO_bit : MethodName := ⟨R_MO, "bit", "(I)I"⟩
abbrev b_MO_trace : ByteArray := prog_9_method_16_code
def y_MO_trace : MethodName := ⟨R_MO, "trace", "()I"⟩
abbrev b_MO_follow : ByteArray := prog_9_method_13_code
def y_MO_follow : MethodName := ⟨R_MO, "follow", "(I)I"⟩
abbrev b_MO_stepOf : ByteArray := prog_9_method_11_code
def y_MO_stepOf : MethodName := ⟨R_MO, "stepOf", "(I)I"⟩
abbrev b_MO_isVariable : ByteArray := prog_9_method_12_code
def y_MO_isVariable : MethodName := ⟨R_MO, "isVariable", "(I)Z"⟩
abbrev b_MO_close : ByteArray := prog_9_method_15_code
def y_MO_close : MethodName := ⟨R_MO, "close", "()I"⟩
abbrev b_MO_follows : ByteArray := prog_9_method_20_code
def y_MO_follows : MethodName := ⟨R_MO, "follows", "()Z"⟩
abbrev b_MO_isFirst : ByteArray := prog_9_method_21_code
def y_MO_isFirst : MethodName := ⟨R_MO, "isFirst", "()Z"⟩
abbrev b_MO_reduced : ByteArray := prog_9_method_22_code
def y_MO_reduced : MethodName := ⟨R_MO, "reduced", "(I)I"⟩
abbrev b_MO_hasWay : ByteArray := prog_9_method_18_code
def y_MO_hasWay : MethodName := ⟨R_MO, "hasWay", "(II)Z"⟩
abbrev b_MO_isMain : ByteArray := prog_9_method_17_code
def y_MO_isMain : MethodName := ⟨R_MO, "isMain", "(I)Z"⟩
abbrev b_MO_isResolved : ByteArray := prog_9_method_23_code
def y_MO_isResolved : MethodName := ⟨R_MO, "isResolved", "(II)Z"⟩
abbrev b_MO_hasBoth : ByteArray := prog_9_method_19_code
def y_MO_hasBoth : MethodName := ⟨R_MO, "hasBoth", "(II)Z"⟩
abbrev b_MO_takeId : ByteArray := prog_9_method_14_code
def y_MO_takeId : MethodName := ⟨R_MO, "takeId", "(I)I"⟩
abbrev b_MO_variables : ByteArray := prog_9_method_24_code
def y_MO_variables : MethodName := ⟨R_MO, "variables", "()I"⟩
abbrev b_MO_variable : ByteArray := prog_9_method_25_code
def y_MO_variable : MethodName := ⟨R_MO, "variable", "(I)I"⟩
abbrev b_MO_clauses : ByteArray := prog_9_method_26_code
def y_MO_clauses : MethodName := ⟨R_MO, "clauses", "()I"⟩
abbrev b_MO_clause : ByteArray := prog_9_method_27_code
def y_MO_clause : MethodName := ⟨R_MO, "clause", "(I)I"⟩
abbrev b_MO_steps : ByteArray := prog_9_method_28_code
def y_MO_steps : MethodName := ⟨R_MO, "steps", "()I"⟩
abbrev b_MO_step : ByteArray := prog_9_method_29_code
def y_MO_step : MethodName := ⟨R_MO, "step", "(I)I"⟩
abbrev b_MO_rests : ByteArray := prog_9_method_30_code
def y_MO_rests : MethodName := ⟨R_MO, "rests", "(I)I"⟩
abbrev b_MO_empty : ByteArray := prog_9_method_31_code
def y_MO_empty : MethodName := ⟨R_MO, "empty", "()I"⟩
abbrev b_MO_won : ByteArray := prog_9_method_33_code
def y_MO_won : MethodName := ⟨R_MO, "won", "(II)Z"⟩
abbrev b_MO_play0 : ByteArray := prog_9_method_32_code
def y_MO_play0 : MethodName := ⟨R_MO, "play0", "(I)V"⟩
abbrev b_MO_play : ByteArray := prog_9_method_34_code
def y_MO_play : MethodName := ⟨R_MO, "play", "(I)I"⟩
/-- the words that every method may use -/
def qk_W : List Cond := lw_tbl.filter goodWord
theorem qk_m {w : Cond} {i : Nat} (h : lw_tbl[i]? = some w) (g : goodWord w = true) : w ∈ qk_W := List.mem_filter.mpr ⟨List.mem_of_getElem? h, g⟩
theorem qk_ml {ws : List Cond} (ps : List Nat) (h : ws = ps.filterMap (fun i => lw_tbl[i]?)) (g : ws.all goodWord = true) : ∀ w ∈ ws, w ∈ qk_W := fun w hw => by
  have hg := List.all_eq_true.mp g w hw
  rw [h] at hw
  obtain ⟨i, -, hi⟩ := List.mem_filterMap.mp hw
  exact qk_m hi hg
theorem qk_gd (w : Cond) (h : w ∈ qk_W) : (w.onTables && w.keeps) = true ∨ ∃ ty, w = .arrayClass ty := good_of_word (List.mem_filter.mp h).2
abbrev w_QP_init : List Cond := .code y_QP_init b_QP_init 1 none :: qk_W
abbrev w_JO_init : List Cond := .code y_JO_init b_JO_init 1 none :: qk_W
abbrev w_Words_init : List Cond := .code y_Words_init b_Words_init 1 none :: qk_W
abbrev w_FormulaReader_init : List Cond := .code y_FormulaReader_init b_FormulaReader_init 1 none :: qk_W
abbrev w_Formula_init : List Cond := .code y_Formula_init b_Formula_init 1 none :: qk_W
abbrev w_TraceReader_init : List Cond := .code y_TraceReader_init b_TraceReader_init 1 none :: qk_W
abbrev w_Proof_init : List Cond := .code y_Proof_init b_Proof_init 1 none :: qk_W
abbrev w_QP_type : List Cond := .code y_QP_type b_QP_type 2 (some .boolean) :: qk_W
abbrev w_Words_append : List Cond := .code y_Words_append b_Words_append 2 (some .boolean) :: qk_W
abbrev w_QP_formula : List Cond := .code y_QP_formula b_QP_formula 2 (some .int) :: qk_W
abbrev w_FormulaReader_begin : List Cond := .code y_FormulaReader_begin b_FormulaReader_begin 1 none :: qk_W
abbrev w_Formula_forget : List Cond := .code y_Formula_forget b_Formula_forget 1 none :: qk_W
abbrev w_QP_readBuffer : List Cond := .code y_QP_readBuffer b_QP_readBuffer 4 (some .int) :: qk_W
abbrev w_Words_rewind : List Cond := .code y_Words_rewind b_Words_rewind 1 none :: qk_W
abbrev w_Words_advance : List Cond := .code y_Words_advance b_Words_advance 1 (some .boolean) :: qk_W
abbrev w_Words_readNumber : List Cond := .code y_Words_readNumber b_Words_readNumber 7 none :: qk_W
abbrev w_Words_hasIdleZero : List Cond := .code y_Words_hasIdleZero b_Words_hasIdleZero 4 (some .boolean) :: qk_W
abbrev w_FormulaReader_take : List Cond := .code y_FormulaReader_take b_FormulaReader_take 2 (some .int) :: qk_W
abbrev w_Words_isNumber : List Cond := .code y_Words_isNumber b_Words_isNumber 1 (some .boolean) :: qk_W
abbrev w_FormulaReader_takeLetter : List Cond := .code y_FormulaReader_takeLetter b_FormulaReader_takeLetter 3 (some .int) :: qk_W
abbrev w_Words_isLetter : List Cond := .code y_Words_isLetter b_Words_isLetter 2 (some .boolean) :: qk_W
abbrev w_Words_value : List Cond := .code y_Words_value b_Words_value 1 (some .int) :: qk_W
abbrev w_FormulaReader_takeInBlock : List Cond := .code y_FormulaReader_takeInBlock b_FormulaReader_takeInBlock 2 (some .int) :: qk_W
abbrev w_FormulaReader_endBlock : List Cond := .code y_FormulaReader_endBlock b_FormulaReader_endBlock 1 (some .int) :: qk_W
abbrev w_Formula_hasLiteral : List Cond := .code y_Formula_hasLiteral b_Formula_hasLiteral 2 (some .boolean) :: qk_W
abbrev w_QP_literalsOf : List Cond := .code y_QP_literalsOf b_QP_literalsOf 1 (some .int) :: qk_W
abbrev w_QP_setOf : List Cond := .code y_QP_setOf b_QP_setOf 1 (some .int) :: qk_W
abbrev w_Formula_addVariable : List Cond := .code y_Formula_addVariable b_Formula_addVariable 3 none :: qk_W
abbrev w_FormulaReader_takeInClause : List Cond := .code y_FormulaReader_takeInClause b_FormulaReader_takeInClause 2 (some .int) :: qk_W
abbrev w_FormulaReader_endClause : List Cond := .code y_FormulaReader_endClause b_FormulaReader_endClause 2 (some .int) :: qk_W
abbrev w_Formula_addClause : List Cond := .code y_Formula_addClause b_Formula_addClause 2 (some .boolean) :: qk_W
abbrev w_TraceReader_take : List Cond := .code y_TraceReader_take b_TraceReader_take 3 (some .int) :: qk_W
abbrev w_TraceReader_takeLetter : List Cond := .code y_TraceReader_takeLetter b_TraceReader_takeLetter 2 (some .int) :: qk_W
abbrev w_TraceReader_beginStep : List Cond := .code y_TraceReader_beginStep b_TraceReader_beginStep 2 (some .int) :: qk_W
abbrev w_Proof_find : List Cond := .code y_Proof_find b_Proof_find 3 (some .int) :: qk_W
abbrev w_Proof_isFull : List Cond := .code y_Proof_isFull b_Proof_isFull 1 (some .boolean) :: qk_W
abbrev w_TraceReader_takeLiteral : List Cond := .code y_TraceReader_takeLiteral b_TraceReader_takeLiteral 2 (some .int) :: qk_W
abbrev w_TraceReader_takePremise : List Cond := .code y_TraceReader_takePremise b_TraceReader_takePremise 3 (some .int) :: qk_W
abbrev w_Proof_has : List Cond := .code y_Proof_has b_Proof_has 2 (some .boolean) :: qk_W
abbrev w_TraceReader_follows : List Cond := .code y_TraceReader_follows b_TraceReader_follows 1 (some .boolean) :: qk_W
abbrev w_TraceReader_isStartCube : List Cond := .code y_TraceReader_isStartCube b_TraceReader_isStartCube 1 (some .boolean) :: qk_W
abbrev w_QP_bothWaysIn : List Cond := .code y_QP_bothWaysIn b_QP_bothWaysIn 1 (some .int) :: qk_W
abbrev w_Formula_isMetBy : List Cond := .code y_Formula_isMetBy b_Formula_isMetBy 3 (some .boolean) :: qk_W
abbrev w_Formula_hasClause : List Cond := .code y_Formula_hasClause b_Formula_hasClause 3 (some .boolean) :: qk_W
abbrev w_TraceReader_isReductionOf : List Cond := .code y_TraceReader_isReductionOf b_TraceReader_isReductionOf 3 (some .boolean) :: qk_W
abbrev w_QP_variablesIn : List Cond := .code y_QP_variablesIn b_QP_variablesIn 1 (some .int) :: qk_W
abbrev w_TraceReader_mainVariables : List Cond := .code y_TraceReader_mainVariables b_TraceReader_mainVariables 1 (some .int) :: qk_W
abbrev w_Formula_innerToAll : List Cond := .code y_Formula_innerToAll b_Formula_innerToAll 5 (some .int) :: qk_W
abbrev w_TraceReader_sideVariables : List Cond := .code y_TraceReader_sideVariables b_TraceReader_sideVariables 1 (some .int) :: qk_W
abbrev w_TraceReader_isResolventOf : List Cond := .code y_TraceReader_isResolventOf b_TraceReader_isResolventOf 7 (some .boolean) :: qk_W
abbrev w_JI_bitCount : List Cond := .code y_JI_bitCount b_JI_bitCount 1 (some .int) :: qk_W
abbrev w_TraceReader_endStep : List Cond := .code y_TraceReader_endStep b_TraceReader_endStep 3 none :: qk_W
abbrev w_Proof_add : List Cond := .code y_Proof_add b_Proof_add 5 none :: qk_W
abbrev w_FormulaReader_mayEnd : List Cond := .code y_FormulaReader_mayEnd b_FormulaReader_mayEnd 1 (some .boolean) :: qk_W
abbrev w_TraceReader_mayEnd : List Cond := .code y_TraceReader_mayEnd b_TraceReader_mayEnd 1 (some .boolean) :: qk_W
abbrev w_Words_place : List Cond := .code y_Words_place b_Words_place 1 (some .int) :: qk_W
abbrev w_Words_forget : List Cond := .code y_Words_forget b_Words_forget 1 none :: qk_W
abbrev w_FormulaReader_exchange : List Cond := .code y_FormulaReader_exchange b_FormulaReader_exchange 3 (some (.object "QuantifierProofs$Formula")) :: qk_W
abbrev w_Proof_forget : List Cond := .code y_Proof_forget b_Proof_forget 1 none :: qk_W
abbrev w_QP_trace : List Cond := .code y_QP_trace b_QP_trace 3 (some .int) :: qk_W
abbrev w_TraceReader_begin : List Cond := .code y_TraceReader_begin b_TraceReader_begin 2 none :: qk_W
abbrev w_QP_variables : List Cond := .code y_QP_variables b_QP_variables 1 (some .int) :: qk_W
abbrev w_QP_variable : List Cond := .code y_QP_variable b_QP_variable 3 (some .int) :: qk_W
abbrev w_Formula_isForAll : List Cond := .code y_Formula_isForAll b_Formula_isForAll 2 (some .boolean) :: qk_W
abbrev w_QP_clauses : List Cond := .code y_QP_clauses b_QP_clauses 1 (some .int) :: qk_W
abbrev w_QP_clause : List Cond := .code y_QP_clause b_QP_clause 2 (some .int) :: qk_W
abbrev w_QP_steps : List Cond := .code y_QP_steps b_QP_steps 1 (some .int) :: qk_W
abbrev w_QP_step : List Cond := .code y_QP_step b_QP_step 2 (some .int) :: qk_W
abbrev w_QP_rests : List Cond := .code y_QP_rests b_QP_rests 2 (some .int) :: qk_W
abbrev w_QP_empty : List Cond := .code y_QP_empty b_QP_empty 2 (some .int) :: qk_W
abbrev w_QP_won : List Cond := .code y_QP_won b_QP_won 3 (some .boolean) :: qk_W
abbrev w_Formula_isWon : List Cond := .code y_Formula_isWon b_Formula_isWon 5 (some .boolean) :: qk_W
abbrev w_Formula_truth : List Cond := .code y_Formula_truth b_Formula_truth 3 (some .int) :: qk_W
abbrev w_Formula_someCanWin : List Cond := .code y_Formula_someCanWin b_Formula_someCanWin 5 (some .boolean) :: qk_W
abbrev w_QP_play : List Cond := .code y_QP_play b_QP_play 6 (some .int) :: qk_W
abbrev w_Formula_choiceOfAll : List Cond := .code y_Formula_choiceOfAll b_Formula_choiceOfAll 4 (some .int) :: qk_W
abbrev w_MO_init : List Cond := .code y_MO_init b_MO_init 2 none :: qk_W
abbrev w_MO_type : List Cond := .code y_MO_type b_MO_type 2 (some .boolean) :: qk_W
abbrev w_MO_formula : List Cond := .code y_MO_formula b_MO_formula 5 (some .int) :: qk_W
abbrev w_MO_begin : List Cond := .code y_MO_begin b_MO_begin 3 (some .int) :: qk_W
abbrev w_MO_end : List Cond := .code y_MO_end b_MO_end 3 (some .int) :: qk_W
abbrev w_MO_word : List Cond := .code y_MO_word b_MO_word 8 (some .int) :: qk_W
abbrev w_MO_read : List Cond := .code y_MO_read b_MO_read 2 (some .int) :: qk_W
abbrev w_MO_readInBlock : List Cond := .code y_MO_readInBlock b_MO_readInBlock 2 (some .int) :: qk_W
abbrev w_MO_other : List Cond := .code y_MO_other b_MO_other 1 (some .int) :: qk_W
abbrev w_MO_bit : List Cond := .code y_MO_bit b_MO_bit 1 (some .int) :: qk_W
abbrev w_MO_trace : List Cond := .code y_MO_trace b_MO_trace 5 (some .int) :: qk_W
abbrev w_MO_follow : List Cond := .code y_MO_follow b_MO_follow 2 (some .int) :: qk_W
abbrev w_MO_stepOf : List Cond := .code y_MO_stepOf b_MO_stepOf 4 (some .int) :: qk_W
abbrev w_MO_isVariable : List Cond := .code y_MO_isVariable b_MO_isVariable 2 (some .boolean) :: qk_W
abbrev w_MO_close : List Cond := .code y_MO_close b_MO_close 1 (some .int) :: qk_W
abbrev w_MO_follows : List Cond := .code y_MO_follows b_MO_follows 1 (some .boolean) :: qk_W
abbrev w_MO_isFirst : List Cond := .code y_MO_isFirst b_MO_isFirst 4 (some .boolean) :: qk_W
abbrev w_MO_reduced : List Cond := .code y_MO_reduced b_MO_reduced 7 (some .int) :: qk_W
abbrev w_MO_hasWay : List Cond := .code y_MO_hasWay b_MO_hasWay 2 (some .boolean) :: qk_W
abbrev w_MO_isMain : List Cond := .code y_MO_isMain b_MO_isMain 2 (some .boolean) :: qk_W
abbrev w_MO_isResolved : List Cond := .code y_MO_isResolved b_MO_isResolved 10 (some .boolean) :: qk_W
abbrev w_MO_hasBoth : List Cond := .code y_MO_hasBoth b_MO_hasBoth 2 (some .boolean) :: qk_W
abbrev w_MO_takeId : List Cond := .code y_MO_takeId b_MO_takeId 3 (some .int) :: qk_W
abbrev w_MO_variables : List Cond := .code y_MO_variables b_MO_variables 1 (some .int) :: qk_W
abbrev w_MO_variable : List Cond := .code y_MO_variable b_MO_variable 2 (some .int) :: qk_W
abbrev w_MO_clauses : List Cond := .code y_MO_clauses b_MO_clauses 1 (some .int) :: qk_W
abbrev w_MO_clause : List Cond := .code y_MO_clause b_MO_clause 2 (some .int) :: qk_W
abbrev w_MO_steps : List Cond := .code y_MO_steps b_MO_steps 1 (some .int) :: qk_W
abbrev w_MO_step : List Cond := .code y_MO_step b_MO_step 2 (some .int) :: qk_W
abbrev w_MO_rests : List Cond := .code y_MO_rests b_MO_rests 2 (some .int) :: qk_W
abbrev w_MO_empty : List Cond := .code y_MO_empty b_MO_empty 2 (some .int) :: qk_W
abbrev w_MO_won : List Cond := .code y_MO_won b_MO_won 3 (some .boolean) :: qk_W
abbrev w_MO_play0 : List Cond := .code y_MO_play0 b_MO_play0 5 none :: qk_W
abbrev w_MO_play : List Cond := .code y_MO_play b_MO_play 5 (some .int) :: qk_W
theorem is_QP_readBuffer : (.selects R_QP y_QP_readBuffer y_QP_readBuffer : Cond) ∈ qk_W := qk_m (i := 0) (by decide +kernel) rfl
theorem is_Words_readNumber : (.selects R_Words y_Words_readNumber y_Words_readNumber : Cond) ∈ qk_W := qk_m (i := 1) (by decide +kernel) rfl
theorem is_Words_hasIdleZero : (.selects R_Words y_Words_hasIdleZero y_Words_hasIdleZero : Cond) ∈ qk_W := qk_m (i := 2) (by decide +kernel) rfl
theorem is_FormulaReader_takeLetter : (.selects R_FormulaReader y_FormulaReader_takeLetter y_FormulaReader_takeLetter : Cond) ∈ qk_W := qk_m (i := 3) (by decide +kernel) rfl
theorem is_FormulaReader_takeInBlock : (.selects R_FormulaReader y_FormulaReader_takeInBlock y_FormulaReader_takeInBlock : Cond) ∈ qk_W := qk_m (i := 4) (by decide +kernel) rfl
theorem is_FormulaReader_endBlock : (.selects R_FormulaReader y_FormulaReader_endBlock y_FormulaReader_endBlock : Cond) ∈ qk_W := qk_m (i := 5) (by decide +kernel) rfl
theorem is_FormulaReader_takeInClause : (.selects R_FormulaReader y_FormulaReader_takeInClause y_FormulaReader_takeInClause : Cond) ∈ qk_W := qk_m (i := 6) (by decide +kernel) rfl
theorem is_FormulaReader_endClause : (.selects R_FormulaReader y_FormulaReader_endClause y_FormulaReader_endClause : Cond) ∈ qk_W := qk_m (i := 7) (by decide +kernel) rfl
theorem is_TraceReader_takeLetter : (.selects R_TraceReader y_TraceReader_takeLetter y_TraceReader_takeLetter : Cond) ∈ qk_W := qk_m (i := 8) (by decide +kernel) rfl
theorem is_TraceReader_beginStep : (.selects R_TraceReader y_TraceReader_beginStep y_TraceReader_beginStep : Cond) ∈ qk_W := qk_m (i := 9) (by decide +kernel) rfl
theorem is_TraceReader_takeLiteral : (.selects R_TraceReader y_TraceReader_takeLiteral y_TraceReader_takeLiteral : Cond) ∈ qk_W := qk_m (i := 10) (by decide +kernel) rfl
theorem is_TraceReader_takePremise : (.selects R_TraceReader y_TraceReader_takePremise y_TraceReader_takePremise : Cond) ∈ qk_W := qk_m (i := 11) (by decide +kernel) rfl
theorem is_TraceReader_follows : (.selects R_TraceReader y_TraceReader_follows y_TraceReader_follows : Cond) ∈ qk_W := qk_m (i := 12) (by decide +kernel) rfl
theorem is_TraceReader_isStartCube : (.selects R_TraceReader y_TraceReader_isStartCube y_TraceReader_isStartCube : Cond) ∈ qk_W := qk_m (i := 13) (by decide +kernel) rfl
theorem is_TraceReader_isReductionOf : (.selects R_TraceReader y_TraceReader_isReductionOf y_TraceReader_isReductionOf : Cond) ∈ qk_W := qk_m (i := 14) (by decide +kernel) rfl
theorem is_TraceReader_mainVariables : (.selects R_TraceReader y_TraceReader_mainVariables y_TraceReader_mainVariables : Cond) ∈ qk_W := qk_m (i := 15) (by decide +kernel) rfl
theorem is_TraceReader_sideVariables : (.selects R_TraceReader y_TraceReader_sideVariables y_TraceReader_sideVariables : Cond) ∈ qk_W := qk_m (i := 16) (by decide +kernel) rfl
theorem is_TraceReader_isResolventOf : (.selects R_TraceReader y_TraceReader_isResolventOf y_TraceReader_isResolventOf : Cond) ∈ qk_W := qk_m (i := 17) (by decide +kernel) rfl
theorem is_TraceReader_endStep : (.selects R_TraceReader y_TraceReader_endStep y_TraceReader_endStep : Cond) ∈ qk_W := qk_m (i := 18) (by decide +kernel) rfl
theorem is_Formula_truth : (.selects R_Formula y_Formula_truth y_Formula_truth : Cond) ∈ qk_W := qk_m (i := 19) (by decide +kernel) rfl
theorem is_MO_begin : (.selects R_MO y_MO_begin y_MO_begin : Cond) ∈ qk_W := qk_m (i := 20) (by decide +kernel) rfl
theorem is_MO_end : (.selects R_MO y_MO_end y_MO_end : Cond) ∈ qk_W := qk_m (i := 21) (by decide +kernel) rfl
theorem is_MO_word : (.selects R_MO y_MO_word y_MO_word : Cond) ∈ qk_W := qk_m (i := 22) (by decide +kernel) rfl
theorem is_MO_read : (.selects R_MO y_MO_read y_MO_read : Cond) ∈ qk_W := qk_m (i := 23) (by decide +kernel) rfl
theorem is_MO_readInBlock : (.selects R_MO y_MO_readInBlock y_MO_readInBlock : Cond) ∈ qk_W := qk_m (i := 24) (by decide +kernel) rfl
theorem is_MO_follow : (.selects R_MO y_MO_follow y_MO_follow : Cond) ∈ qk_W := qk_m (i := 25) (by decide +kernel) rfl
theorem is_MO_stepOf : (.selects R_MO y_MO_stepOf y_MO_stepOf : Cond) ∈ qk_W := qk_m (i := 26) (by decide +kernel) rfl
theorem is_MO_isVariable : (.selects R_MO y_MO_isVariable y_MO_isVariable : Cond) ∈ qk_W := qk_m (i := 27) (by decide +kernel) rfl
theorem is_MO_close : (.selects R_MO y_MO_close y_MO_close : Cond) ∈ qk_W := qk_m (i := 28) (by decide +kernel) rfl
theorem is_MO_follows : (.selects R_MO y_MO_follows y_MO_follows : Cond) ∈ qk_W := qk_m (i := 29) (by decide +kernel) rfl
theorem is_MO_isFirst : (.selects R_MO y_MO_isFirst y_MO_isFirst : Cond) ∈ qk_W := qk_m (i := 30) (by decide +kernel) rfl
theorem is_MO_reduced : (.selects R_MO y_MO_reduced y_MO_reduced : Cond) ∈ qk_W := qk_m (i := 31) (by decide +kernel) rfl
theorem is_MO_isMain : (.selects R_MO y_MO_isMain y_MO_isMain : Cond) ∈ qk_W := qk_m (i := 32) (by decide +kernel) rfl
theorem is_MO_isResolved : (.selects R_MO y_MO_isResolved y_MO_isResolved : Cond) ∈ qk_W := qk_m (i := 33) (by decide +kernel) rfl
theorem is_MO_takeId : (.selects R_MO y_MO_takeId y_MO_takeId : Cond) ∈ qk_W := qk_m (i := 34) (by decide +kernel) rfl
theorem is_MO_play0 : (.selects R_MO y_MO_play0 y_MO_play0 : Cond) ∈ qk_W := qk_m (i := 35) (by decide +kernel) rfl
theorem in_c_LA : (.initialized R_LA : Cond) ∈ qk_W := qk_m (i := 36) (by decide +kernel) rfl
theorem in_c_QP : (.initialized R_QP : Cond) ∈ qk_W := qk_m (i := 37) (by decide +kernel) rfl
theorem in_c_Words : (.initialized R_Words : Cond) ∈ qk_W := qk_m (i := 38) (by decide +kernel) rfl
theorem in_c_FormulaReader : (.initialized R_FormulaReader : Cond) ∈ qk_W := qk_m (i := 39) (by decide +kernel) rfl
theorem in_c_Formula : (.initialized R_Formula : Cond) ∈ qk_W := qk_m (i := 40) (by decide +kernel) rfl
theorem in_c_TraceReader : (.initialized R_TraceReader : Cond) ∈ qk_W := qk_m (i := 41) (by decide +kernel) rfl
theorem in_c_Proof : (.initialized R_Proof : Cond) ∈ qk_W := qk_m (i := 42) (by decide +kernel) rfl
theorem in_c_MO : (.initialized R_MO : Cond) ∈ qk_W := qk_m (i := 43) (by decide +kernel) rfl
theorem in_c_JI : (.initialized R_JI : Cond) ∈ qk_W := qk_m (i := 44) (by decide +kernel) rfl
theorem cl_LA_7 : (.classLink R_LA 7 R_QP : Cond) ∈ qk_W := qk_m (i := 45) (by decide +kernel) rfl
theorem ia_QP : (.instantiable R_QP 5 : Cond) ∈ qk_W := qk_m (i := 46) (by decide +kernel) rfl
theorem ml_LA_9 : (.methodLink R_LA 9 y_QP_init : Cond) ∈ qk_W := qk_m (i := 47) (by decide +kernel) rfl
theorem ii_QP_init : (.instanceMethod y_QP_init : Cond) ∈ qk_W := qk_m (i := 48) (by decide +kernel) rfl
set_option maxRecDepth 100000 in
theorem ic_QP_init : (.code y_QP_init b_QP_init 1 none : Cond) ∈ qk_W := qk_m (i := 49) (rfl) rfl
theorem ml_QP_1 : (.methodLink R_QP 1 objectInit : Cond) ∈ qk_W := qk_m (i := 50) (by decide +kernel) rfl
theorem ii_JO_init : (.instanceMethod objectInit : Cond) ∈ qk_W := qk_m (i := 51) (by decide +kernel) rfl
set_option maxRecDepth 100000 in
theorem ic_JO_init : (.code objectInit b_JO_init 1 none : Cond) ∈ qk_W := qk_m (i := 52) (rfl) rfl
theorem cl_QP_7 : (.classLink R_QP 7 R_Words : Cond) ∈ qk_W := qk_m (i := 53) (by decide +kernel) rfl
theorem ia_Words : (.instantiable R_Words 6 : Cond) ∈ qk_W := qk_m (i := 54) (by decide +kernel) rfl
theorem ii_Words_init : (.instanceMethod y_Words_init : Cond) ∈ qk_W := qk_m (i := 56) (by decide +kernel) rfl
set_option maxRecDepth 100000 in
theorem ic_Words_init : (.code y_Words_init b_Words_init 1 none : Cond) ∈ qk_W := qk_m (i := 57) (rfl) rfl
theorem ml_Words_3 : (.methodLink R_Words 3 objectInit : Cond) ∈ qk_W := qk_m (i := 58) (by decide +kernel) rfl
theorem fl_Words_9 : (.fieldLink R_Words 9 "QuantifierProofs$Words" "characters" "[C" : Cond) ∈ qk_W := qk_m (i := 59) (by decide +kernel) rfl
theorem fl_Words_15 : (.fieldLink R_Words 15 "QuantifierProofs$Words" "length" "I" : Cond) ∈ qk_W := qk_m (i := 60) (by decide +kernel) rfl
theorem fl_Words_22 : (.fieldLink R_Words 22 "QuantifierProofs$Words" "start" "I" : Cond) ∈ qk_W := qk_m (i := 61) (by decide +kernel) rfl
theorem fl_Words_19 : (.fieldLink R_Words 19 "QuantifierProofs$Words" "end" "I" : Cond) ∈ qk_W := qk_m (i := 62) (by decide +kernel) rfl
theorem fl_Words_28 : (.fieldLink R_Words 28 "QuantifierProofs$Words" "numeric" "Z" : Cond) ∈ qk_W := qk_m (i := 63) (by decide +kernel) rfl
theorem fl_Words_32 : (.fieldLink R_Words 32 "QuantifierProofs$Words" "number" "I" : Cond) ∈ qk_W := qk_m (i := 64) (by decide +kernel) rfl
theorem ar_char : (.arrayClass .char : Cond) ∈ qk_W := qk_m (i := 78) (by decide +kernel) rfl
theorem cl_QP_16 : (.classLink R_QP 16 R_FormulaReader : Cond) ∈ qk_W := qk_m (i := 79) (by decide +kernel) rfl
theorem ia_FormulaReader : (.instantiable R_FormulaReader 6 : Cond) ∈ qk_W := qk_m (i := 80) (by decide +kernel) rfl
theorem ii_FormulaReader_init : (.instanceMethod y_FormulaReader_init : Cond) ∈ qk_W := qk_m (i := 82) (by decide +kernel) rfl
set_option maxRecDepth 100000 in
theorem ic_FormulaReader_init : (.code y_FormulaReader_init b_FormulaReader_init 1 none : Cond) ∈ qk_W := qk_m (i := 83) (rfl) rfl
theorem ml_FormulaReader_3 : (.methodLink R_FormulaReader 3 objectInit : Cond) ∈ qk_W := qk_m (i := 84) (by decide +kernel) rfl
theorem cl_FormulaReader_9 : (.classLink R_FormulaReader 9 R_Formula : Cond) ∈ qk_W := qk_m (i := 85) (by decide +kernel) rfl
theorem ia_Formula : (.instantiable R_Formula 6 : Cond) ∈ qk_W := qk_m (i := 86) (by decide +kernel) rfl
theorem ii_Formula_init : (.instanceMethod y_Formula_init : Cond) ∈ qk_W := qk_m (i := 88) (by decide +kernel) rfl
set_option maxRecDepth 100000 in
theorem ic_Formula_init : (.code y_Formula_init b_Formula_init 1 none : Cond) ∈ qk_W := qk_m (i := 89) (rfl) rfl
theorem ml_Formula_3 : (.methodLink R_Formula 3 objectInit : Cond) ∈ qk_W := qk_m (i := 90) (by decide +kernel) rfl
theorem fl_Formula_9 : (.fieldLink R_Formula 9 "QuantifierProofs$Formula" "order" "[I" : Cond) ∈ qk_W := qk_m (i := 91) (by decide +kernel) rfl
theorem fl_Formula_15 : (.fieldLink R_Formula 15 "QuantifierProofs$Formula" "clauseLiterals" "[I" : Cond) ∈ qk_W := qk_m (i := 93) (by decide +kernel) rfl
theorem fl_Formula_18 : (.fieldLink R_Formula 18 "QuantifierProofs$Formula" "variableCount" "I" : Cond) ∈ qk_W := qk_m (i := 95) (by decide +kernel) rfl
theorem fl_Formula_22 : (.fieldLink R_Formula 22 "QuantifierProofs$Formula" "clauseCount" "I" : Cond) ∈ qk_W := qk_m (i := 97) (by decide +kernel) rfl
theorem fl_Formula_25 : (.fieldLink R_Formula 25 "QuantifierProofs$Formula" "forAll" "I" : Cond) ∈ qk_W := qk_m (i := 99) (by decide +kernel) rfl
theorem fl_Formula_28 : (.fieldLink R_Formula 28 "QuantifierProofs$Formula" "forSome" "I" : Cond) ∈ qk_W := qk_m (i := 101) (by decide +kernel) rfl
theorem ar_int : (.arrayClass .int : Cond) ∈ qk_W := qk_m (i := 116) (by decide +kernel) rfl
theorem fl_FormulaReader_12 : (.fieldLink R_FormulaReader 12 "QuantifierProofs$FormulaReader" "draft" "LQuantifierProofs$Formula;" : Cond) ∈ qk_W := qk_m (i := 117) (by decide +kernel) rfl
theorem fl_FormulaReader_21 : (.fieldLink R_FormulaReader 21 "QuantifierProofs$FormulaReader" "blockMayBegin" "Z" : Cond) ∈ qk_W := qk_m (i := 118) (by decide +kernel) rfl
theorem fl_FormulaReader_25 : (.fieldLink R_FormulaReader 25 "QuantifierProofs$FormulaReader" "inBlock" "Z" : Cond) ∈ qk_W := qk_m (i := 119) (by decide +kernel) rfl
theorem fl_FormulaReader_57 : (.fieldLink R_FormulaReader 57 "QuantifierProofs$FormulaReader" "blockHasVariables" "Z" : Cond) ∈ qk_W := qk_m (i := 120) (by decide +kernel) rfl
theorem fl_FormulaReader_60 : (.fieldLink R_FormulaReader 60 "QuantifierProofs$FormulaReader" "blockIsForAll" "Z" : Cond) ∈ qk_W := qk_m (i := 121) (by decide +kernel) rfl
theorem fl_FormulaReader_28 : (.fieldLink R_FormulaReader 28 "QuantifierProofs$FormulaReader" "literals" "I" : Cond) ∈ qk_W := qk_m (i := 122) (by decide +kernel) rfl
theorem cl_QP_23 : (.classLink R_QP 23 R_TraceReader : Cond) ∈ qk_W := qk_m (i := 136) (by decide +kernel) rfl
theorem ia_TraceReader : (.instantiable R_TraceReader 8 : Cond) ∈ qk_W := qk_m (i := 137) (by decide +kernel) rfl
theorem ii_TraceReader_init : (.instanceMethod y_TraceReader_init : Cond) ∈ qk_W := qk_m (i := 139) (by decide +kernel) rfl
set_option maxRecDepth 100000 in
theorem ic_TraceReader_init : (.code y_TraceReader_init b_TraceReader_init 1 none : Cond) ∈ qk_W := qk_m (i := 140) (rfl) rfl
theorem ml_TraceReader_3 : (.methodLink R_TraceReader 3 objectInit : Cond) ∈ qk_W := qk_m (i := 141) (by decide +kernel) rfl
theorem cl_TraceReader_9 : (.classLink R_TraceReader 9 R_Proof : Cond) ∈ qk_W := qk_m (i := 142) (by decide +kernel) rfl
theorem ia_Proof : (.instantiable R_Proof 5 : Cond) ∈ qk_W := qk_m (i := 143) (by decide +kernel) rfl
theorem ii_Proof_init : (.instanceMethod y_Proof_init : Cond) ∈ qk_W := qk_m (i := 145) (by decide +kernel) rfl
set_option maxRecDepth 100000 in
theorem ic_Proof_init : (.code y_Proof_init b_Proof_init 1 none : Cond) ∈ qk_W := qk_m (i := 146) (rfl) rfl
theorem ml_Proof_3 : (.methodLink R_Proof 3 objectInit : Cond) ∈ qk_W := qk_m (i := 147) (by decide +kernel) rfl
theorem fl_Proof_9 : (.fieldLink R_Proof 9 "QuantifierProofs$Proof" "ids" "[I" : Cond) ∈ qk_W := qk_m (i := 148) (by decide +kernel) rfl
theorem fl_Proof_15 : (.fieldLink R_Proof 15 "QuantifierProofs$Proof" "literals" "[I" : Cond) ∈ qk_W := qk_m (i := 149) (by decide +kernel) rfl
theorem fl_Proof_18 : (.fieldLink R_Proof 18 "QuantifierProofs$Proof" "grounds" "[I" : Cond) ∈ qk_W := qk_m (i := 152) (by decide +kernel) rfl
theorem fl_Proof_21 : (.fieldLink R_Proof 21 "QuantifierProofs$Proof" "cubes" "[Z" : Cond) ∈ qk_W := qk_m (i := 155) (by decide +kernel) rfl
theorem fl_Proof_25 : (.fieldLink R_Proof 25 "QuantifierProofs$Proof" "count" "I" : Cond) ∈ qk_W := qk_m (i := 158) (by decide +kernel) rfl
theorem ar_boolean : (.arrayClass .boolean : Cond) ∈ qk_W := qk_m (i := 171) (by decide +kernel) rfl
theorem cl_TraceReader_22 : (.classLink R_TraceReader 22 R_Formula : Cond) ∈ qk_W := qk_m (i := 172) (by decide +kernel) rfl
theorem fl_TraceReader_12 : (.fieldLink R_TraceReader 12 "QuantifierProofs$TraceReader" "proof" "LQuantifierProofs$Proof;" : Cond) ∈ qk_W := qk_m (i := 174) (by decide +kernel) rfl
theorem fl_TraceReader_18 : (.fieldLink R_TraceReader 18 "QuantifierProofs$TraceReader" "premises" "[I" : Cond) ∈ qk_W := qk_m (i := 176) (by decide +kernel) rfl
theorem fl_TraceReader_25 : (.fieldLink R_TraceReader 25 "QuantifierProofs$TraceReader" "formula" "LQuantifierProofs$Formula;" : Cond) ∈ qk_W := qk_m (i := 177) (by decide +kernel) rfl
theorem fl_TraceReader_29 : (.fieldLink R_TraceReader 29 "QuantifierProofs$TraceReader" "stage" "I" : Cond) ∈ qk_W := qk_m (i := 179) (by decide +kernel) rfl
theorem fl_TraceReader_67 : (.fieldLink R_TraceReader 67 "QuantifierProofs$TraceReader" "cube" "Z" : Cond) ∈ qk_W := qk_m (i := 180) (by decide +kernel) rfl
theorem fl_TraceReader_77 : (.fieldLink R_TraceReader 77 "QuantifierProofs$TraceReader" "id" "I" : Cond) ∈ qk_W := qk_m (i := 181) (by decide +kernel) rfl
theorem fl_TraceReader_80 : (.fieldLink R_TraceReader 80 "QuantifierProofs$TraceReader" "literals" "I" : Cond) ∈ qk_W := qk_m (i := 182) (by decide +kernel) rfl
theorem fl_TraceReader_83 : (.fieldLink R_TraceReader 83 "QuantifierProofs$TraceReader" "premiseCount" "I" : Cond) ∈ qk_W := qk_m (i := 183) (by decide +kernel) rfl
theorem fl_QP_10 : (.fieldLink R_QP 10 "QuantifierProofs" "words" "LQuantifierProofs$Words;" : Cond) ∈ qk_W := qk_m (i := 201) (by decide +kernel) rfl
theorem fl_QP_19 : (.fieldLink R_QP 19 "QuantifierProofs" "formulaReader" "LQuantifierProofs$FormulaReader;" : Cond) ∈ qk_W := qk_m (i := 202) (by decide +kernel) rfl
theorem fl_QP_26 : (.fieldLink R_QP 26 "QuantifierProofs" "traceReader" "LQuantifierProofs$TraceReader;" : Cond) ∈ qk_W := qk_m (i := 203) (by decide +kernel) rfl
theorem fl_QP_34 : (.fieldLink R_QP 34 "QuantifierProofs" "proof" "LQuantifierProofs$Proof;" : Cond) ∈ qk_W := qk_m (i := 204) (by decide +kernel) rfl
theorem fl_QP_39 : (.fieldLink R_QP 39 "QuantifierProofs" "current" "LQuantifierProofs$Formula;" : Cond) ∈ qk_W := qk_m (i := 205) (by decide +kernel) rfl
theorem ml_LA_13 : (.methodLink R_LA 13 y_QP_type : Cond) ∈ qk_W := qk_m (i := 217) (by decide +kernel) rfl
theorem ii_QP_type : (.instanceMethod y_QP_type : Cond) ∈ qk_W := qk_m (i := 218) (by decide +kernel) rfl
theorem is_QP_type : (.selects R_QP y_QP_type y_QP_type : Cond) ∈ qk_W := qk_m (i := 219) (by decide +kernel) rfl
set_option maxRecDepth 100000 in
theorem ic_QP_type : (.code y_QP_type b_QP_type 2 (some .boolean) : Cond) ∈ qk_W := qk_m (i := 220) (rfl) rfl
theorem ml_QP_42 : (.methodLink R_QP 42 y_Words_append : Cond) ∈ qk_W := qk_m (i := 221) (by decide +kernel) rfl
theorem ii_Words_append : (.instanceMethod y_Words_append : Cond) ∈ qk_W := qk_m (i := 222) (by decide +kernel) rfl
theorem is_Words_append : (.selects R_Words y_Words_append y_Words_append : Cond) ∈ qk_W := qk_m (i := 223) (by decide +kernel) rfl
set_option maxRecDepth 100000 in
theorem ic_Words_append : (.code y_Words_append b_Words_append 2 (some .boolean) : Cond) ∈ qk_W := qk_m (i := 224) (rfl) rfl
theorem ml_LA_18 : (.methodLink R_LA 18 y_QP_formula : Cond) ∈ qk_W := qk_m (i := 225) (by decide +kernel) rfl
theorem ii_QP_formula : (.instanceMethod y_QP_formula : Cond) ∈ qk_W := qk_m (i := 226) (by decide +kernel) rfl
theorem is_QP_formula : (.selects R_QP y_QP_formula y_QP_formula : Cond) ∈ qk_W := qk_m (i := 227) (by decide +kernel) rfl
set_option maxRecDepth 100000 in
theorem ic_QP_formula : (.code y_QP_formula b_QP_formula 2 (some .int) : Cond) ∈ qk_W := qk_m (i := 228) (rfl) rfl
theorem ml_QP_46 : (.methodLink R_QP 46 y_FormulaReader_begin : Cond) ∈ qk_W := qk_m (i := 229) (by decide +kernel) rfl
theorem ii_FormulaReader_begin : (.instanceMethod y_FormulaReader_begin : Cond) ∈ qk_W := qk_m (i := 230) (by decide +kernel) rfl
theorem is_FormulaReader_begin : (.selects R_FormulaReader y_FormulaReader_begin y_FormulaReader_begin : Cond) ∈ qk_W := qk_m (i := 231) (by decide +kernel) rfl
set_option maxRecDepth 100000 in
theorem ic_FormulaReader_begin : (.code y_FormulaReader_begin b_FormulaReader_begin 1 none : Cond) ∈ qk_W := qk_m (i := 232) (rfl) rfl
theorem ml_FormulaReader_18 : (.methodLink R_FormulaReader 18 y_Formula_forget : Cond) ∈ qk_W := qk_m (i := 233) (by decide +kernel) rfl
theorem ii_Formula_forget : (.instanceMethod y_Formula_forget : Cond) ∈ qk_W := qk_m (i := 234) (by decide +kernel) rfl
theorem is_Formula_forget : (.selects R_Formula y_Formula_forget y_Formula_forget : Cond) ∈ qk_W := qk_m (i := 235) (by decide +kernel) rfl
set_option maxRecDepth 100000 in
theorem ic_Formula_forget : (.code y_Formula_forget b_Formula_forget 1 none : Cond) ∈ qk_W := qk_m (i := 236) (rfl) rfl
theorem ml_QP_49 : (.methodLink R_QP 49 y_QP_readBuffer : Cond) ∈ qk_W := qk_m (i := 237) (by decide +kernel) rfl
theorem ii_QP_readBuffer : (.instanceMethod y_QP_readBuffer : Cond) ∈ qk_W := qk_m (i := 239) (by decide +kernel) rfl
set_option maxRecDepth 100000 in
theorem ic_QP_readBuffer : (.code y_QP_readBuffer b_QP_readBuffer 4 (some .int) : Cond) ∈ qk_W := qk_m (i := 240) (rfl) rfl
theorem ml_QP_110 : (.methodLink R_QP 110 y_Words_rewind : Cond) ∈ qk_W := qk_m (i := 241) (by decide +kernel) rfl
theorem ii_Words_rewind : (.instanceMethod y_Words_rewind : Cond) ∈ qk_W := qk_m (i := 242) (by decide +kernel) rfl
theorem is_Words_rewind : (.selects R_Words y_Words_rewind y_Words_rewind : Cond) ∈ qk_W := qk_m (i := 243) (by decide +kernel) rfl
set_option maxRecDepth 100000 in
theorem ic_Words_rewind : (.code y_Words_rewind b_Words_rewind 1 none : Cond) ∈ qk_W := qk_m (i := 244) (rfl) rfl
theorem ml_QP_113 : (.methodLink R_QP 113 y_Words_advance : Cond) ∈ qk_W := qk_m (i := 245) (by decide +kernel) rfl
theorem ii_Words_advance : (.instanceMethod y_Words_advance : Cond) ∈ qk_W := qk_m (i := 246) (by decide +kernel) rfl
theorem is_Words_advance : (.selects R_Words y_Words_advance y_Words_advance : Cond) ∈ qk_W := qk_m (i := 247) (by decide +kernel) rfl
set_option maxRecDepth 100000 in
theorem ic_Words_advance : (.code y_Words_advance b_Words_advance 1 (some .boolean) : Cond) ∈ qk_W := qk_m (i := 248) (rfl) rfl
theorem ml_Words_25 : (.methodLink R_Words 25 y_Words_readNumber : Cond) ∈ qk_W := qk_m (i := 249) (by decide +kernel) rfl
theorem ii_Words_readNumber : (.instanceMethod y_Words_readNumber : Cond) ∈ qk_W := qk_m (i := 251) (by decide +kernel) rfl
set_option maxRecDepth 100000 in
theorem ic_Words_readNumber : (.code y_Words_readNumber b_Words_readNumber 7 none : Cond) ∈ qk_W := qk_m (i := 252) (rfl) rfl
theorem ml_Words_35 : (.methodLink R_Words 35 y_Words_hasIdleZero : Cond) ∈ qk_W := qk_m (i := 253) (by decide +kernel) rfl
theorem ii_Words_hasIdleZero : (.instanceMethod y_Words_hasIdleZero : Cond) ∈ qk_W := qk_m (i := 255) (by decide +kernel) rfl
set_option maxRecDepth 100000 in
theorem ic_Words_hasIdleZero : (.code y_Words_hasIdleZero b_Words_hasIdleZero 4 (some .boolean) : Cond) ∈ qk_W := qk_m (i := 256) (rfl) rfl
theorem ml_QP_117 : (.methodLink R_QP 117 ⟨"QuantifierProofs$Reader", "take", "(LQuantifierProofs$Words;)I"⟩ : Cond) ∈ qk_W := qk_m (i := 258) (by decide +kernel) rfl
theorem isf_FormulaReader_take : (.selects R_FormulaReader ⟨"QuantifierProofs$Reader", "take", "(LQuantifierProofs$Words;)I"⟩ y_FormulaReader_take : Cond) ∈ qk_W := qk_m (i := 262) (by decide +kernel) rfl
theorem ii_FormulaReader_take : (.instanceMethod y_FormulaReader_take : Cond) ∈ qk_W := qk_m (i := 264) (by decide +kernel) rfl
set_option maxRecDepth 100000 in
theorem ic_FormulaReader_take : (.code y_FormulaReader_take b_FormulaReader_take 2 (some .int) : Cond) ∈ qk_W := qk_m (i := 266) (rfl) rfl
theorem ml_FormulaReader_32 : (.methodLink R_FormulaReader 32 y_Words_isNumber : Cond) ∈ qk_W := qk_m (i := 267) (by decide +kernel) rfl
theorem ii_Words_isNumber : (.instanceMethod y_Words_isNumber : Cond) ∈ qk_W := qk_m (i := 268) (by decide +kernel) rfl
theorem is_Words_isNumber : (.selects R_Words y_Words_isNumber y_Words_isNumber : Cond) ∈ qk_W := qk_m (i := 269) (by decide +kernel) rfl
set_option maxRecDepth 100000 in
theorem ic_Words_isNumber : (.code y_Words_isNumber b_Words_isNumber 1 (some .boolean) : Cond) ∈ qk_W := qk_m (i := 270) (rfl) rfl
theorem ml_FormulaReader_38 : (.methodLink R_FormulaReader 38 y_FormulaReader_takeLetter : Cond) ∈ qk_W := qk_m (i := 271) (by decide +kernel) rfl
theorem ii_FormulaReader_takeLetter : (.instanceMethod y_FormulaReader_takeLetter : Cond) ∈ qk_W := qk_m (i := 273) (by decide +kernel) rfl
set_option maxRecDepth 100000 in
theorem ic_FormulaReader_takeLetter : (.code y_FormulaReader_takeLetter b_FormulaReader_takeLetter 3 (some .int) : Cond) ∈ qk_W := qk_m (i := 274) (rfl) rfl
theorem ml_FormulaReader_53 : (.methodLink R_FormulaReader 53 y_Words_isLetter : Cond) ∈ qk_W := qk_m (i := 275) (by decide +kernel) rfl
theorem ii_Words_isLetter : (.instanceMethod y_Words_isLetter : Cond) ∈ qk_W := qk_m (i := 276) (by decide +kernel) rfl
theorem is_Words_isLetter : (.selects R_Words y_Words_isLetter y_Words_isLetter : Cond) ∈ qk_W := qk_m (i := 277) (by decide +kernel) rfl
set_option maxRecDepth 100000 in
theorem ic_Words_isLetter : (.code y_Words_isLetter b_Words_isLetter 2 (some .boolean) : Cond) ∈ qk_W := qk_m (i := 278) (rfl) rfl
theorem ml_FormulaReader_42 : (.methodLink R_FormulaReader 42 y_Words_value : Cond) ∈ qk_W := qk_m (i := 279) (by decide +kernel) rfl
theorem ii_Words_value : (.instanceMethod y_Words_value : Cond) ∈ qk_W := qk_m (i := 280) (by decide +kernel) rfl
theorem is_Words_value : (.selects R_Words y_Words_value y_Words_value : Cond) ∈ qk_W := qk_m (i := 281) (by decide +kernel) rfl
set_option maxRecDepth 100000 in
theorem ic_Words_value : (.code y_Words_value b_Words_value 1 (some .int) : Cond) ∈ qk_W := qk_m (i := 282) (rfl) rfl
theorem ml_FormulaReader_46 : (.methodLink R_FormulaReader 46 y_FormulaReader_takeInBlock : Cond) ∈ qk_W := qk_m (i := 283) (by decide +kernel) rfl
theorem ii_FormulaReader_takeInBlock : (.instanceMethod y_FormulaReader_takeInBlock : Cond) ∈ qk_W := qk_m (i := 285) (by decide +kernel) rfl
set_option maxRecDepth 100000 in
theorem ic_FormulaReader_takeInBlock : (.code y_FormulaReader_takeInBlock b_FormulaReader_takeInBlock 2 (some .int) : Cond) ∈ qk_W := qk_m (i := 286) (rfl) rfl
theorem ml_FormulaReader_63 : (.methodLink R_FormulaReader 63 y_FormulaReader_endBlock : Cond) ∈ qk_W := qk_m (i := 287) (by decide +kernel) rfl
theorem ii_FormulaReader_endBlock : (.instanceMethod y_FormulaReader_endBlock : Cond) ∈ qk_W := qk_m (i := 289) (by decide +kernel) rfl
set_option maxRecDepth 100000 in
theorem ic_FormulaReader_endBlock : (.code y_FormulaReader_endBlock b_FormulaReader_endBlock 1 (some .int) : Cond) ∈ qk_W := qk_m (i := 290) (rfl) rfl
theorem ml_FormulaReader_66 : (.methodLink R_FormulaReader 66 y_Formula_hasLiteral : Cond) ∈ qk_W := qk_m (i := 291) (by decide +kernel) rfl
theorem ii_Formula_hasLiteral : (.instanceMethod y_Formula_hasLiteral : Cond) ∈ qk_W := qk_m (i := 292) (by decide +kernel) rfl
theorem is_Formula_hasLiteral : (.selects R_Formula y_Formula_hasLiteral y_Formula_hasLiteral : Cond) ∈ qk_W := qk_m (i := 293) (by decide +kernel) rfl
set_option maxRecDepth 100000 in
theorem ic_Formula_hasLiteral : (.code y_Formula_hasLiteral b_Formula_hasLiteral 2 (some .boolean) : Cond) ∈ qk_W := qk_m (i := 294) (rfl) rfl
theorem is_QP_literalsOf : (.static y_QP_literalsOf : Cond) ∈ qk_W := qk_m (i := 296) (by decide +kernel) rfl
set_option maxRecDepth 100000 in
theorem ic_QP_literalsOf : (.code y_QP_literalsOf b_QP_literalsOf 1 (some .int) : Cond) ∈ qk_W := qk_m (i := 297) (rfl) rfl
theorem is_QP_setOf : (.static y_QP_setOf : Cond) ∈ qk_W := qk_m (i := 299) (by decide +kernel) rfl
set_option maxRecDepth 100000 in
theorem ic_QP_setOf : (.code y_QP_setOf b_QP_setOf 1 (some .int) : Cond) ∈ qk_W := qk_m (i := 300) (rfl) rfl
theorem ml_FormulaReader_70 : (.methodLink R_FormulaReader 70 y_Formula_addVariable : Cond) ∈ qk_W := qk_m (i := 301) (by decide +kernel) rfl
theorem ii_Formula_addVariable : (.instanceMethod y_Formula_addVariable : Cond) ∈ qk_W := qk_m (i := 302) (by decide +kernel) rfl
theorem is_Formula_addVariable : (.selects R_Formula y_Formula_addVariable y_Formula_addVariable : Cond) ∈ qk_W := qk_m (i := 303) (by decide +kernel) rfl
set_option maxRecDepth 100000 in
theorem ic_Formula_addVariable : (.code y_Formula_addVariable b_Formula_addVariable 3 none : Cond) ∈ qk_W := qk_m (i := 304) (rfl) rfl
theorem ml_FormulaReader_50 : (.methodLink R_FormulaReader 50 y_FormulaReader_takeInClause : Cond) ∈ qk_W := qk_m (i := 305) (by decide +kernel) rfl
theorem ii_FormulaReader_takeInClause : (.instanceMethod y_FormulaReader_takeInClause : Cond) ∈ qk_W := qk_m (i := 307) (by decide +kernel) rfl
set_option maxRecDepth 100000 in
theorem ic_FormulaReader_takeInClause : (.code y_FormulaReader_takeInClause b_FormulaReader_takeInClause 2 (some .int) : Cond) ∈ qk_W := qk_m (i := 308) (rfl) rfl
theorem ml_FormulaReader_74 : (.methodLink R_FormulaReader 74 y_FormulaReader_endClause : Cond) ∈ qk_W := qk_m (i := 309) (by decide +kernel) rfl
theorem ii_FormulaReader_endClause : (.instanceMethod y_FormulaReader_endClause : Cond) ∈ qk_W := qk_m (i := 311) (by decide +kernel) rfl
set_option maxRecDepth 100000 in
theorem ic_FormulaReader_endClause : (.code y_FormulaReader_endClause b_FormulaReader_endClause 2 (some .int) : Cond) ∈ qk_W := qk_m (i := 312) (rfl) rfl
theorem ml_FormulaReader_80 : (.methodLink R_FormulaReader 80 y_Formula_addClause : Cond) ∈ qk_W := qk_m (i := 313) (by decide +kernel) rfl
theorem ii_Formula_addClause : (.instanceMethod y_Formula_addClause : Cond) ∈ qk_W := qk_m (i := 314) (by decide +kernel) rfl
theorem is_Formula_addClause : (.selects R_Formula y_Formula_addClause y_Formula_addClause : Cond) ∈ qk_W := qk_m (i := 315) (by decide +kernel) rfl
set_option maxRecDepth 100000 in
theorem ic_Formula_addClause : (.code y_Formula_addClause b_Formula_addClause 2 (some .boolean) : Cond) ∈ qk_W := qk_m (i := 316) (rfl) rfl
theorem isf_TraceReader_take : (.selects R_TraceReader ⟨"QuantifierProofs$Reader", "take", "(LQuantifierProofs$Words;)I"⟩ y_TraceReader_take : Cond) ∈ qk_W := qk_m (i := 319) (by decide +kernel) rfl
theorem ii_TraceReader_take : (.instanceMethod y_TraceReader_take : Cond) ∈ qk_W := qk_m (i := 321) (by decide +kernel) rfl
set_option maxRecDepth 100000 in
theorem ic_TraceReader_take : (.code y_TraceReader_take b_TraceReader_take 3 (some .int) : Cond) ∈ qk_W := qk_m (i := 323) (rfl) rfl
theorem ml_TraceReader_33 : (.methodLink R_TraceReader 33 y_TraceReader_takeLetter : Cond) ∈ qk_W := qk_m (i := 324) (by decide +kernel) rfl
theorem ii_TraceReader_takeLetter : (.instanceMethod y_TraceReader_takeLetter : Cond) ∈ qk_W := qk_m (i := 326) (by decide +kernel) rfl
set_option maxRecDepth 100000 in
theorem ic_TraceReader_takeLetter : (.code y_TraceReader_takeLetter b_TraceReader_takeLetter 2 (some .int) : Cond) ∈ qk_W := qk_m (i := 327) (rfl) rfl
theorem ml_TraceReader_63 : (.methodLink R_TraceReader 63 y_Words_isLetter : Cond) ∈ qk_W := qk_m (i := 328) (by decide +kernel) rfl
theorem ml_TraceReader_37 : (.methodLink R_TraceReader 37 y_Words_isNumber : Cond) ∈ qk_W := qk_m (i := 329) (by decide +kernel) rfl
theorem ml_TraceReader_43 : (.methodLink R_TraceReader 43 y_Words_value : Cond) ∈ qk_W := qk_m (i := 330) (by decide +kernel) rfl
theorem ml_TraceReader_47 : (.methodLink R_TraceReader 47 y_TraceReader_beginStep : Cond) ∈ qk_W := qk_m (i := 331) (by decide +kernel) rfl
theorem ii_TraceReader_beginStep : (.instanceMethod y_TraceReader_beginStep : Cond) ∈ qk_W := qk_m (i := 333) (by decide +kernel) rfl
set_option maxRecDepth 100000 in
theorem ic_TraceReader_beginStep : (.code y_TraceReader_beginStep b_TraceReader_beginStep 2 (some .int) : Cond) ∈ qk_W := qk_m (i := 334) (rfl) rfl
theorem ml_TraceReader_71 : (.methodLink R_TraceReader 71 y_Proof_find : Cond) ∈ qk_W := qk_m (i := 335) (by decide +kernel) rfl
theorem ii_Proof_find : (.instanceMethod y_Proof_find : Cond) ∈ qk_W := qk_m (i := 336) (by decide +kernel) rfl
theorem is_Proof_find : (.selects R_Proof y_Proof_find y_Proof_find : Cond) ∈ qk_W := qk_m (i := 337) (by decide +kernel) rfl
set_option maxRecDepth 100000 in
theorem ic_Proof_find : (.code y_Proof_find b_Proof_find 3 (some .int) : Cond) ∈ qk_W := qk_m (i := 338) (rfl) rfl
theorem ml_TraceReader_74 : (.methodLink R_TraceReader 74 y_Proof_isFull : Cond) ∈ qk_W := qk_m (i := 339) (by decide +kernel) rfl
theorem ii_Proof_isFull : (.instanceMethod y_Proof_isFull : Cond) ∈ qk_W := qk_m (i := 340) (by decide +kernel) rfl
theorem is_Proof_isFull : (.selects R_Proof y_Proof_isFull y_Proof_isFull : Cond) ∈ qk_W := qk_m (i := 341) (by decide +kernel) rfl
set_option maxRecDepth 100000 in
theorem ic_Proof_isFull : (.code y_Proof_isFull b_Proof_isFull 1 (some .boolean) : Cond) ∈ qk_W := qk_m (i := 342) (rfl) rfl
theorem ml_TraceReader_51 : (.methodLink R_TraceReader 51 y_TraceReader_takeLiteral : Cond) ∈ qk_W := qk_m (i := 343) (by decide +kernel) rfl
theorem ii_TraceReader_takeLiteral : (.instanceMethod y_TraceReader_takeLiteral : Cond) ∈ qk_W := qk_m (i := 345) (by decide +kernel) rfl
set_option maxRecDepth 100000 in
theorem ic_TraceReader_takeLiteral : (.code y_TraceReader_takeLiteral b_TraceReader_takeLiteral 2 (some .int) : Cond) ∈ qk_W := qk_m (i := 346) (rfl) rfl
theorem ml_TraceReader_86 : (.methodLink R_TraceReader 86 y_Formula_hasLiteral : Cond) ∈ qk_W := qk_m (i := 347) (by decide +kernel) rfl
theorem ml_TraceReader_54 : (.methodLink R_TraceReader 54 y_TraceReader_takePremise : Cond) ∈ qk_W := qk_m (i := 349) (by decide +kernel) rfl
theorem ii_TraceReader_takePremise : (.instanceMethod y_TraceReader_takePremise : Cond) ∈ qk_W := qk_m (i := 351) (by decide +kernel) rfl
set_option maxRecDepth 100000 in
theorem ic_TraceReader_takePremise : (.code y_TraceReader_takePremise b_TraceReader_takePremise 3 (some .int) : Cond) ∈ qk_W := qk_m (i := 352) (rfl) rfl
theorem ml_TraceReader_93 : (.methodLink R_TraceReader 93 y_Proof_has : Cond) ∈ qk_W := qk_m (i := 353) (by decide +kernel) rfl
theorem ii_Proof_has : (.instanceMethod y_Proof_has : Cond) ∈ qk_W := qk_m (i := 354) (by decide +kernel) rfl
theorem is_Proof_has : (.selects R_Proof y_Proof_has y_Proof_has : Cond) ∈ qk_W := qk_m (i := 355) (by decide +kernel) rfl
set_option maxRecDepth 100000 in
theorem ic_Proof_has : (.code y_Proof_has b_Proof_has 2 (some .boolean) : Cond) ∈ qk_W := qk_m (i := 356) (rfl) rfl
theorem ml_TraceReader_57 : (.methodLink R_TraceReader 57 y_TraceReader_follows : Cond) ∈ qk_W := qk_m (i := 357) (by decide +kernel) rfl
theorem ii_TraceReader_follows : (.instanceMethod y_TraceReader_follows : Cond) ∈ qk_W := qk_m (i := 359) (by decide +kernel) rfl
set_option maxRecDepth 100000 in
theorem ic_TraceReader_follows : (.code y_TraceReader_follows b_TraceReader_follows 1 (some .boolean) : Cond) ∈ qk_W := qk_m (i := 360) (rfl) rfl
theorem ml_TraceReader_107 : (.methodLink R_TraceReader 107 y_TraceReader_isStartCube : Cond) ∈ qk_W := qk_m (i := 361) (by decide +kernel) rfl
theorem ii_TraceReader_isStartCube : (.instanceMethod y_TraceReader_isStartCube : Cond) ∈ qk_W := qk_m (i := 363) (by decide +kernel) rfl
set_option maxRecDepth 100000 in
theorem ic_TraceReader_isStartCube : (.code y_TraceReader_isStartCube b_TraceReader_isStartCube 1 (some .boolean) : Cond) ∈ qk_W := qk_m (i := 364) (rfl) rfl
theorem is_QP_bothWaysIn : (.static y_QP_bothWaysIn : Cond) ∈ qk_W := qk_m (i := 366) (by decide +kernel) rfl
set_option maxRecDepth 100000 in
theorem ic_QP_bothWaysIn : (.code y_QP_bothWaysIn b_QP_bothWaysIn 1 (some .int) : Cond) ∈ qk_W := qk_m (i := 367) (rfl) rfl
theorem ml_TraceReader_131 : (.methodLink R_TraceReader 131 y_Formula_isMetBy : Cond) ∈ qk_W := qk_m (i := 368) (by decide +kernel) rfl
theorem ii_Formula_isMetBy : (.instanceMethod y_Formula_isMetBy : Cond) ∈ qk_W := qk_m (i := 369) (by decide +kernel) rfl
theorem is_Formula_isMetBy : (.selects R_Formula y_Formula_isMetBy y_Formula_isMetBy : Cond) ∈ qk_W := qk_m (i := 370) (by decide +kernel) rfl
set_option maxRecDepth 100000 in
theorem ic_Formula_isMetBy : (.code y_Formula_isMetBy b_Formula_isMetBy 3 (some .boolean) : Cond) ∈ qk_W := qk_m (i := 371) (rfl) rfl
theorem ml_TraceReader_110 : (.methodLink R_TraceReader 110 y_Formula_hasClause : Cond) ∈ qk_W := qk_m (i := 372) (by decide +kernel) rfl
theorem ii_Formula_hasClause : (.instanceMethod y_Formula_hasClause : Cond) ∈ qk_W := qk_m (i := 373) (by decide +kernel) rfl
theorem is_Formula_hasClause : (.selects R_Formula y_Formula_hasClause y_Formula_hasClause : Cond) ∈ qk_W := qk_m (i := 374) (by decide +kernel) rfl
set_option maxRecDepth 100000 in
theorem ic_Formula_hasClause : (.code y_Formula_hasClause b_Formula_hasClause 3 (some .boolean) : Cond) ∈ qk_W := qk_m (i := 375) (rfl) rfl
theorem ml_TraceReader_115 : (.methodLink R_TraceReader 115 y_TraceReader_isReductionOf : Cond) ∈ qk_W := qk_m (i := 376) (by decide +kernel) rfl
theorem ii_TraceReader_isReductionOf : (.instanceMethod y_TraceReader_isReductionOf : Cond) ∈ qk_W := qk_m (i := 378) (by decide +kernel) rfl
set_option maxRecDepth 100000 in
theorem ic_TraceReader_isReductionOf : (.code y_TraceReader_isReductionOf b_TraceReader_isReductionOf 3 (some .boolean) : Cond) ∈ qk_W := qk_m (i := 379) (rfl) rfl
theorem is_QP_variablesIn : (.static y_QP_variablesIn : Cond) ∈ qk_W := qk_m (i := 381) (by decide +kernel) rfl
set_option maxRecDepth 100000 in
theorem ic_QP_variablesIn : (.code y_QP_variablesIn b_QP_variablesIn 1 (some .int) : Cond) ∈ qk_W := qk_m (i := 382) (rfl) rfl
theorem ml_TraceReader_137 : (.methodLink R_TraceReader 137 y_TraceReader_mainVariables : Cond) ∈ qk_W := qk_m (i := 383) (by decide +kernel) rfl
theorem ii_TraceReader_mainVariables : (.instanceMethod y_TraceReader_mainVariables : Cond) ∈ qk_W := qk_m (i := 385) (by decide +kernel) rfl
set_option maxRecDepth 100000 in
theorem ic_TraceReader_mainVariables : (.code y_TraceReader_mainVariables b_TraceReader_mainVariables 1 (some .int) : Cond) ∈ qk_W := qk_m (i := 386) (rfl) rfl
theorem ml_TraceReader_140 : (.methodLink R_TraceReader 140 y_Formula_innerToAll : Cond) ∈ qk_W := qk_m (i := 387) (by decide +kernel) rfl
theorem ii_Formula_innerToAll : (.instanceMethod y_Formula_innerToAll : Cond) ∈ qk_W := qk_m (i := 388) (by decide +kernel) rfl
theorem is_Formula_innerToAll : (.selects R_Formula y_Formula_innerToAll y_Formula_innerToAll : Cond) ∈ qk_W := qk_m (i := 389) (by decide +kernel) rfl
set_option maxRecDepth 100000 in
theorem ic_Formula_innerToAll : (.code y_Formula_innerToAll b_Formula_innerToAll 5 (some .int) : Cond) ∈ qk_W := qk_m (i := 390) (rfl) rfl
theorem ml_TraceReader_143 : (.methodLink R_TraceReader 143 y_TraceReader_sideVariables : Cond) ∈ qk_W := qk_m (i := 391) (by decide +kernel) rfl
theorem ii_TraceReader_sideVariables : (.instanceMethod y_TraceReader_sideVariables : Cond) ∈ qk_W := qk_m (i := 393) (by decide +kernel) rfl
set_option maxRecDepth 100000 in
theorem ic_TraceReader_sideVariables : (.code y_TraceReader_sideVariables b_TraceReader_sideVariables 1 (some .int) : Cond) ∈ qk_W := qk_m (i := 394) (rfl) rfl
theorem ml_TraceReader_118 : (.methodLink R_TraceReader 118 y_TraceReader_isResolventOf : Cond) ∈ qk_W := qk_m (i := 396) (by decide +kernel) rfl
theorem ii_TraceReader_isResolventOf : (.instanceMethod y_TraceReader_isResolventOf : Cond) ∈ qk_W := qk_m (i := 398) (by decide +kernel) rfl
set_option maxRecDepth 100000 in
theorem ic_TraceReader_isResolventOf : (.code y_TraceReader_isResolventOf b_TraceReader_isResolventOf 7 (some .boolean) : Cond) ∈ qk_W := qk_m (i := 399) (rfl) rfl
theorem ml_TraceReader_149 : (.methodLink R_TraceReader 149 y_JI_bitCount : Cond) ∈ qk_W := qk_m (i := 400) (by decide +kernel) rfl
theorem is_JI_bitCount : (.static y_JI_bitCount : Cond) ∈ qk_W := qk_m (i := 401) (by decide +kernel) rfl
set_option maxRecDepth 100000 in
theorem ic_JI_bitCount : (.code y_JI_bitCount b_JI_bitCount 1 (some .int) : Cond) ∈ qk_W := qk_m (i := 402) (rfl) rfl
theorem co_JI_265 : (.constant R_JI 265 (1431655765) : Cond) ∈ qk_W := qk_m (i := 403) (by decide +kernel) rfl
theorem co_JI_266 : (.constant R_JI 266 (858993459) : Cond) ∈ qk_W := qk_m (i := 404) (by decide +kernel) rfl
theorem co_JI_267 : (.constant R_JI 267 (252645135) : Cond) ∈ qk_W := qk_m (i := 405) (by decide +kernel) rfl
theorem ml_TraceReader_60 : (.methodLink R_TraceReader 60 y_TraceReader_endStep : Cond) ∈ qk_W := qk_m (i := 406) (by decide +kernel) rfl
theorem ii_TraceReader_endStep : (.instanceMethod y_TraceReader_endStep : Cond) ∈ qk_W := qk_m (i := 408) (by decide +kernel) rfl
set_option maxRecDepth 100000 in
theorem ic_TraceReader_endStep : (.code y_TraceReader_endStep b_TraceReader_endStep 3 none : Cond) ∈ qk_W := qk_m (i := 409) (rfl) rfl
theorem ml_TraceReader_103 : (.methodLink R_TraceReader 103 y_Proof_add : Cond) ∈ qk_W := qk_m (i := 410) (by decide +kernel) rfl
theorem ii_Proof_add : (.instanceMethod y_Proof_add : Cond) ∈ qk_W := qk_m (i := 411) (by decide +kernel) rfl
theorem is_Proof_add : (.selects R_Proof y_Proof_add y_Proof_add : Cond) ∈ qk_W := qk_m (i := 412) (by decide +kernel) rfl
set_option maxRecDepth 100000 in
theorem ic_Proof_add : (.code y_Proof_add b_Proof_add 5 none : Cond) ∈ qk_W := qk_m (i := 413) (rfl) rfl
theorem ml_Proof_29 : (.methodLink R_Proof 29 y_Proof_isFull : Cond) ∈ qk_W := qk_m (i := 414) (by decide +kernel) rfl
theorem ml_QP_123 : (.methodLink R_QP 123 ⟨"QuantifierProofs$Reader", "mayEnd", "()Z"⟩ : Cond) ∈ qk_W := qk_m (i := 416) (by decide +kernel) rfl
theorem isf_FormulaReader_mayEnd : (.selects R_FormulaReader ⟨"QuantifierProofs$Reader", "mayEnd", "()Z"⟩ y_FormulaReader_mayEnd : Cond) ∈ qk_W := qk_m (i := 419) (by decide +kernel) rfl
theorem ii_FormulaReader_mayEnd : (.instanceMethod y_FormulaReader_mayEnd : Cond) ∈ qk_W := qk_m (i := 421) (by decide +kernel) rfl
set_option maxRecDepth 100000 in
theorem ic_FormulaReader_mayEnd : (.code y_FormulaReader_mayEnd b_FormulaReader_mayEnd 1 (some .boolean) : Cond) ∈ qk_W := qk_m (i := 423) (rfl) rfl
theorem isf_TraceReader_mayEnd : (.selects R_TraceReader ⟨"QuantifierProofs$Reader", "mayEnd", "()Z"⟩ y_TraceReader_mayEnd : Cond) ∈ qk_W := qk_m (i := 424) (by decide +kernel) rfl
theorem ii_TraceReader_mayEnd : (.instanceMethod y_TraceReader_mayEnd : Cond) ∈ qk_W := qk_m (i := 426) (by decide +kernel) rfl
set_option maxRecDepth 100000 in
theorem ic_TraceReader_mayEnd : (.code y_TraceReader_mayEnd b_TraceReader_mayEnd 1 (some .boolean) : Cond) ∈ qk_W := qk_m (i := 428) (rfl) rfl
theorem ml_QP_126 : (.methodLink R_QP 126 y_Words_place : Cond) ∈ qk_W := qk_m (i := 429) (by decide +kernel) rfl
theorem ii_Words_place : (.instanceMethod y_Words_place : Cond) ∈ qk_W := qk_m (i := 430) (by decide +kernel) rfl
theorem is_Words_place : (.selects R_Words y_Words_place y_Words_place : Cond) ∈ qk_W := qk_m (i := 431) (by decide +kernel) rfl
set_option maxRecDepth 100000 in
theorem ic_Words_place : (.code y_Words_place b_Words_place 1 (some .int) : Cond) ∈ qk_W := qk_m (i := 432) (rfl) rfl
theorem ml_QP_130 : (.methodLink R_QP 130 y_Words_forget : Cond) ∈ qk_W := qk_m (i := 433) (by decide +kernel) rfl
theorem ii_Words_forget : (.instanceMethod y_Words_forget : Cond) ∈ qk_W := qk_m (i := 434) (by decide +kernel) rfl
theorem is_Words_forget : (.selects R_Words y_Words_forget y_Words_forget : Cond) ∈ qk_W := qk_m (i := 435) (by decide +kernel) rfl
set_option maxRecDepth 100000 in
theorem ic_Words_forget : (.code y_Words_forget b_Words_forget 1 none : Cond) ∈ qk_W := qk_m (i := 436) (rfl) rfl
theorem ml_QP_53 : (.methodLink R_QP 53 y_FormulaReader_exchange : Cond) ∈ qk_W := qk_m (i := 437) (by decide +kernel) rfl
theorem ii_FormulaReader_exchange : (.instanceMethod y_FormulaReader_exchange : Cond) ∈ qk_W := qk_m (i := 438) (by decide +kernel) rfl
theorem is_FormulaReader_exchange : (.selects R_FormulaReader y_FormulaReader_exchange y_FormulaReader_exchange : Cond) ∈ qk_W := qk_m (i := 439) (by decide +kernel) rfl
set_option maxRecDepth 100000 in
theorem ic_FormulaReader_exchange : (.code y_FormulaReader_exchange b_FormulaReader_exchange 3 (some (.object "QuantifierProofs$Formula")) : Cond) ∈ qk_W := qk_m (i := 440) (rfl) rfl
theorem ml_QP_57 : (.methodLink R_QP 57 y_Proof_forget : Cond) ∈ qk_W := qk_m (i := 441) (by decide +kernel) rfl
theorem ii_Proof_forget : (.instanceMethod y_Proof_forget : Cond) ∈ qk_W := qk_m (i := 442) (by decide +kernel) rfl
theorem is_Proof_forget : (.selects R_Proof y_Proof_forget y_Proof_forget : Cond) ∈ qk_W := qk_m (i := 443) (by decide +kernel) rfl
set_option maxRecDepth 100000 in
theorem ic_Proof_forget : (.code y_Proof_forget b_Proof_forget 1 none : Cond) ∈ qk_W := qk_m (i := 444) (rfl) rfl
theorem ml_LA_23 : (.methodLink R_LA 23 y_QP_trace : Cond) ∈ qk_W := qk_m (i := 445) (by decide +kernel) rfl
theorem ii_QP_trace : (.instanceMethod y_QP_trace : Cond) ∈ qk_W := qk_m (i := 446) (by decide +kernel) rfl
theorem is_QP_trace : (.selects R_QP y_QP_trace y_QP_trace : Cond) ∈ qk_W := qk_m (i := 447) (by decide +kernel) rfl
set_option maxRecDepth 100000 in
theorem ic_QP_trace : (.code y_QP_trace b_QP_trace 3 (some .int) : Cond) ∈ qk_W := qk_m (i := 448) (rfl) rfl
theorem ml_QP_66 : (.methodLink R_QP 66 y_TraceReader_begin : Cond) ∈ qk_W := qk_m (i := 449) (by decide +kernel) rfl
theorem ii_TraceReader_begin : (.instanceMethod y_TraceReader_begin : Cond) ∈ qk_W := qk_m (i := 450) (by decide +kernel) rfl
theorem is_TraceReader_begin : (.selects R_TraceReader y_TraceReader_begin y_TraceReader_begin : Cond) ∈ qk_W := qk_m (i := 451) (by decide +kernel) rfl
set_option maxRecDepth 100000 in
theorem ic_TraceReader_begin : (.code y_TraceReader_begin b_TraceReader_begin 2 none : Cond) ∈ qk_W := qk_m (i := 452) (rfl) rfl
theorem ml_LA_27 : (.methodLink R_LA 27 y_QP_variables : Cond) ∈ qk_W := qk_m (i := 453) (by decide +kernel) rfl
theorem ii_QP_variables : (.instanceMethod y_QP_variables : Cond) ∈ qk_W := qk_m (i := 454) (by decide +kernel) rfl
theorem is_QP_variables : (.selects R_QP y_QP_variables y_QP_variables : Cond) ∈ qk_W := qk_m (i := 455) (by decide +kernel) rfl
set_option maxRecDepth 100000 in
theorem ic_QP_variables : (.code y_QP_variables b_QP_variables 1 (some .int) : Cond) ∈ qk_W := qk_m (i := 456) (rfl) rfl
theorem ml_LA_31 : (.methodLink R_LA 31 y_QP_variable : Cond) ∈ qk_W := qk_m (i := 457) (by decide +kernel) rfl
theorem ii_QP_variable : (.instanceMethod y_QP_variable : Cond) ∈ qk_W := qk_m (i := 458) (by decide +kernel) rfl
theorem is_QP_variable : (.selects R_QP y_QP_variable y_QP_variable : Cond) ∈ qk_W := qk_m (i := 459) (by decide +kernel) rfl
set_option maxRecDepth 100000 in
theorem ic_QP_variable : (.code y_QP_variable b_QP_variable 3 (some .int) : Cond) ∈ qk_W := qk_m (i := 460) (rfl) rfl
theorem ml_QP_78 : (.methodLink R_QP 78 y_Formula_isForAll : Cond) ∈ qk_W := qk_m (i := 461) (by decide +kernel) rfl
theorem ii_Formula_isForAll : (.instanceMethod y_Formula_isForAll : Cond) ∈ qk_W := qk_m (i := 462) (by decide +kernel) rfl
theorem is_Formula_isForAll : (.selects R_Formula y_Formula_isForAll y_Formula_isForAll : Cond) ∈ qk_W := qk_m (i := 463) (by decide +kernel) rfl
set_option maxRecDepth 100000 in
theorem ic_Formula_isForAll : (.code y_Formula_isForAll b_Formula_isForAll 2 (some .boolean) : Cond) ∈ qk_W := qk_m (i := 464) (rfl) rfl
theorem ml_LA_36 : (.methodLink R_LA 36 y_QP_clauses : Cond) ∈ qk_W := qk_m (i := 465) (by decide +kernel) rfl
theorem ii_QP_clauses : (.instanceMethod y_QP_clauses : Cond) ∈ qk_W := qk_m (i := 466) (by decide +kernel) rfl
theorem is_QP_clauses : (.selects R_QP y_QP_clauses y_QP_clauses : Cond) ∈ qk_W := qk_m (i := 467) (by decide +kernel) rfl
set_option maxRecDepth 100000 in
theorem ic_QP_clauses : (.code y_QP_clauses b_QP_clauses 1 (some .int) : Cond) ∈ qk_W := qk_m (i := 468) (rfl) rfl
theorem ml_LA_40 : (.methodLink R_LA 40 y_QP_clause : Cond) ∈ qk_W := qk_m (i := 469) (by decide +kernel) rfl
theorem ii_QP_clause : (.instanceMethod y_QP_clause : Cond) ∈ qk_W := qk_m (i := 470) (by decide +kernel) rfl
theorem is_QP_clause : (.selects R_QP y_QP_clause y_QP_clause : Cond) ∈ qk_W := qk_m (i := 471) (by decide +kernel) rfl
set_option maxRecDepth 100000 in
theorem ic_QP_clause : (.code y_QP_clause b_QP_clause 2 (some .int) : Cond) ∈ qk_W := qk_m (i := 472) (rfl) rfl
theorem ml_LA_44 : (.methodLink R_LA 44 y_QP_steps : Cond) ∈ qk_W := qk_m (i := 473) (by decide +kernel) rfl
theorem ii_QP_steps : (.instanceMethod y_QP_steps : Cond) ∈ qk_W := qk_m (i := 474) (by decide +kernel) rfl
theorem is_QP_steps : (.selects R_QP y_QP_steps y_QP_steps : Cond) ∈ qk_W := qk_m (i := 475) (by decide +kernel) rfl
set_option maxRecDepth 100000 in
theorem ic_QP_steps : (.code y_QP_steps b_QP_steps 1 (some .int) : Cond) ∈ qk_W := qk_m (i := 476) (rfl) rfl
theorem ml_LA_48 : (.methodLink R_LA 48 y_QP_step : Cond) ∈ qk_W := qk_m (i := 477) (by decide +kernel) rfl
theorem ii_QP_step : (.instanceMethod y_QP_step : Cond) ∈ qk_W := qk_m (i := 478) (by decide +kernel) rfl
theorem is_QP_step : (.selects R_QP y_QP_step y_QP_step : Cond) ∈ qk_W := qk_m (i := 479) (by decide +kernel) rfl
set_option maxRecDepth 100000 in
theorem ic_QP_step : (.code y_QP_step b_QP_step 2 (some .int) : Cond) ∈ qk_W := qk_m (i := 480) (rfl) rfl
theorem ml_QP_88 : (.methodLink R_QP 88 y_Proof_has : Cond) ∈ qk_W := qk_m (i := 481) (by decide +kernel) rfl
theorem co_QP_98 : (.constant R_QP 98 (65536) : Cond) ∈ qk_W := qk_m (i := 482) (by decide +kernel) rfl
theorem ml_LA_52 : (.methodLink R_LA 52 y_QP_rests : Cond) ∈ qk_W := qk_m (i := 483) (by decide +kernel) rfl
theorem ii_QP_rests : (.instanceMethod y_QP_rests : Cond) ∈ qk_W := qk_m (i := 484) (by decide +kernel) rfl
theorem is_QP_rests : (.selects R_QP y_QP_rests y_QP_rests : Cond) ∈ qk_W := qk_m (i := 485) (by decide +kernel) rfl
set_option maxRecDepth 100000 in
theorem ic_QP_rests : (.code y_QP_rests b_QP_rests 2 (some .int) : Cond) ∈ qk_W := qk_m (i := 486) (rfl) rfl
theorem ml_LA_56 : (.methodLink R_LA 56 y_QP_empty : Cond) ∈ qk_W := qk_m (i := 487) (by decide +kernel) rfl
theorem ii_QP_empty : (.instanceMethod y_QP_empty : Cond) ∈ qk_W := qk_m (i := 488) (by decide +kernel) rfl
theorem is_QP_empty : (.selects R_QP y_QP_empty y_QP_empty : Cond) ∈ qk_W := qk_m (i := 489) (by decide +kernel) rfl
set_option maxRecDepth 100000 in
theorem ic_QP_empty : (.code y_QP_empty b_QP_empty 2 (some .int) : Cond) ∈ qk_W := qk_m (i := 490) (rfl) rfl
theorem ml_LA_60 : (.methodLink R_LA 60 y_QP_won : Cond) ∈ qk_W := qk_m (i := 491) (by decide +kernel) rfl
theorem ii_QP_won : (.instanceMethod y_QP_won : Cond) ∈ qk_W := qk_m (i := 492) (by decide +kernel) rfl
theorem is_QP_won : (.selects R_QP y_QP_won y_QP_won : Cond) ∈ qk_W := qk_m (i := 493) (by decide +kernel) rfl
set_option maxRecDepth 100000 in
theorem ic_QP_won : (.code y_QP_won b_QP_won 3 (some .boolean) : Cond) ∈ qk_W := qk_m (i := 494) (rfl) rfl
theorem ml_QP_102 : (.methodLink R_QP 102 y_Formula_isWon : Cond) ∈ qk_W := qk_m (i := 495) (by decide +kernel) rfl
theorem ii_Formula_isWon : (.instanceMethod y_Formula_isWon : Cond) ∈ qk_W := qk_m (i := 496) (by decide +kernel) rfl
theorem is_Formula_isWon : (.selects R_Formula y_Formula_isWon y_Formula_isWon : Cond) ∈ qk_W := qk_m (i := 497) (by decide +kernel) rfl
set_option maxRecDepth 100000 in
theorem ic_Formula_isWon : (.code y_Formula_isWon b_Formula_isWon 5 (some .boolean) : Cond) ∈ qk_W := qk_m (i := 498) (rfl) rfl
theorem ml_Formula_38 : (.methodLink R_Formula 38 y_Formula_truth : Cond) ∈ qk_W := qk_m (i := 499) (by decide +kernel) rfl
theorem ii_Formula_truth : (.instanceMethod y_Formula_truth : Cond) ∈ qk_W := qk_m (i := 501) (by decide +kernel) rfl
set_option maxRecDepth 100000 in
theorem ic_Formula_truth : (.code y_Formula_truth b_Formula_truth 3 (some .int) : Cond) ∈ qk_W := qk_m (i := 502) (rfl) rfl
theorem ml_Formula_42 : (.methodLink R_Formula 42 y_Formula_someCanWin : Cond) ∈ qk_W := qk_m (i := 503) (by decide +kernel) rfl
theorem is_Formula_someCanWin : (.static y_Formula_someCanWin : Cond) ∈ qk_W := qk_m (i := 504) (by decide +kernel) rfl
set_option maxRecDepth 100000 in
theorem ic_Formula_someCanWin : (.code y_Formula_someCanWin b_Formula_someCanWin 5 (some .boolean) : Cond) ∈ qk_W := qk_m (i := 505) (rfl) rfl
theorem ml_Formula_50 : (.methodLink R_Formula 50 y_Formula_isMetBy : Cond) ∈ qk_W := qk_m (i := 506) (by decide +kernel) rfl
theorem ml_Formula_54 : (.methodLink R_Formula 54 y_Formula_isForAll : Cond) ∈ qk_W := qk_m (i := 507) (by decide +kernel) rfl
theorem ml_LA_65 : (.methodLink R_LA 65 y_QP_play : Cond) ∈ qk_W := qk_m (i := 508) (by decide +kernel) rfl
theorem ii_QP_play : (.instanceMethod y_QP_play : Cond) ∈ qk_W := qk_m (i := 509) (by decide +kernel) rfl
theorem is_QP_play : (.selects R_QP y_QP_play y_QP_play : Cond) ∈ qk_W := qk_m (i := 510) (by decide +kernel) rfl
set_option maxRecDepth 100000 in
theorem ic_QP_play : (.code y_QP_play b_QP_play 6 (some .int) : Cond) ∈ qk_W := qk_m (i := 511) (rfl) rfl
theorem ml_QP_106 : (.methodLink R_QP 106 y_Formula_choiceOfAll : Cond) ∈ qk_W := qk_m (i := 512) (by decide +kernel) rfl
theorem ii_Formula_choiceOfAll : (.instanceMethod y_Formula_choiceOfAll : Cond) ∈ qk_W := qk_m (i := 513) (by decide +kernel) rfl
theorem is_Formula_choiceOfAll : (.selects R_Formula y_Formula_choiceOfAll y_Formula_choiceOfAll : Cond) ∈ qk_W := qk_m (i := 514) (by decide +kernel) rfl
set_option maxRecDepth 100000 in
theorem ic_Formula_choiceOfAll : (.code y_Formula_choiceOfAll b_Formula_choiceOfAll 4 (some .int) : Cond) ∈ qk_W := qk_m (i := 515) (rfl) rfl
theorem ml_Formula_46 : (.methodLink R_Formula 46 y_Formula_isWon : Cond) ∈ qk_W := qk_m (i := 516) (by decide +kernel) rfl
theorem cl_LA_10 : (.classLink R_LA 10 R_MO : Cond) ∈ qk_W := qk_m (i := 517) (by decide +kernel) rfl
theorem ia_MO : (.instantiable R_MO 28 : Cond) ∈ qk_W := qk_m (i := 518) (by decide +kernel) rfl
theorem ml_LA_12 : (.methodLink R_LA 12 y_MO_init : Cond) ∈ qk_W := qk_m (i := 519) (by decide +kernel) rfl
theorem ii_MO_init : (.instanceMethod y_MO_init : Cond) ∈ qk_W := qk_m (i := 520) (by decide +kernel) rfl
set_option maxRecDepth 100000 in
theorem ic_MO_init : (.code y_MO_init b_MO_init 2 none : Cond) ∈ qk_W := qk_m (i := 521) (rfl) rfl
theorem ml_MO_1 : (.methodLink R_MO 1 objectInit : Cond) ∈ qk_W := qk_m (i := 522) (by decide +kernel) rfl
theorem fl_MO_7 : (.fieldLink R_MO 7 "QuantifierProofsModel" "buffer" "[I" : Cond) ∈ qk_W := qk_m (i := 523) (by decide +kernel) rfl
theorem fl_MO_53 : (.fieldLink R_MO 53 "QuantifierProofsModel" "size" "I" : Cond) ∈ qk_W := qk_m (i := 524) (by decide +kernel) rfl
theorem fl_MO_99 : (.fieldLink R_MO 99 "QuantifierProofsModel" "variables" "I" : Cond) ∈ qk_W := qk_m (i := 525) (by decide +kernel) rfl
theorem fl_MO_13 : (.fieldLink R_MO 13 "QuantifierProofsModel" "variable" "[I" : Cond) ∈ qk_W := qk_m (i := 526) (by decide +kernel) rfl
theorem fl_MO_16 : (.fieldLink R_MO 16 "QuantifierProofsModel" "forAll" "[Z" : Cond) ∈ qk_W := qk_m (i := 527) (by decide +kernel) rfl
theorem fl_MO_20 : (.fieldLink R_MO 20 "QuantifierProofsModel" "place" "[I" : Cond) ∈ qk_W := qk_m (i := 528) (by decide +kernel) rfl
theorem fl_MO_102 : (.fieldLink R_MO 102 "QuantifierProofsModel" "clauses" "I" : Cond) ∈ qk_W := qk_m (i := 529) (by decide +kernel) rfl
theorem fl_MO_23 : (.fieldLink R_MO 23 "QuantifierProofsModel" "clause" "[I" : Cond) ∈ qk_W := qk_m (i := 530) (by decide +kernel) rfl
theorem fl_MO_83 : (.fieldLink R_MO 83 "QuantifierProofsModel" "newVariables" "I" : Cond) ∈ qk_W := qk_m (i := 531) (by decide +kernel) rfl
theorem fl_MO_26 : (.fieldLink R_MO 26 "QuantifierProofsModel" "newVariable" "[I" : Cond) ∈ qk_W := qk_m (i := 532) (by decide +kernel) rfl
theorem fl_MO_29 : (.fieldLink R_MO 29 "QuantifierProofsModel" "newForAll" "[Z" : Cond) ∈ qk_W := qk_m (i := 533) (by decide +kernel) rfl
theorem fl_MO_32 : (.fieldLink R_MO 32 "QuantifierProofsModel" "newPlace" "[I" : Cond) ∈ qk_W := qk_m (i := 534) (by decide +kernel) rfl
theorem fl_MO_74 : (.fieldLink R_MO 74 "QuantifierProofsModel" "newClauses" "I" : Cond) ∈ qk_W := qk_m (i := 535) (by decide +kernel) rfl
theorem fl_MO_35 : (.fieldLink R_MO 35 "QuantifierProofsModel" "newClause" "[I" : Cond) ∈ qk_W := qk_m (i := 536) (by decide +kernel) rfl
theorem fl_MO_105 : (.fieldLink R_MO 105 "QuantifierProofsModel" "steps" "I" : Cond) ∈ qk_W := qk_m (i := 537) (by decide +kernel) rfl
theorem fl_MO_38 : (.fieldLink R_MO 38 "QuantifierProofsModel" "id" "[I" : Cond) ∈ qk_W := qk_m (i := 538) (by decide +kernel) rfl
theorem fl_MO_41 : (.fieldLink R_MO 41 "QuantifierProofsModel" "set" "[I" : Cond) ∈ qk_W := qk_m (i := 539) (by decide +kernel) rfl
theorem fl_MO_44 : (.fieldLink R_MO 44 "QuantifierProofsModel" "cube" "[Z" : Cond) ∈ qk_W := qk_m (i := 540) (by decide +kernel) rfl
theorem fl_MO_47 : (.fieldLink R_MO 47 "QuantifierProofsModel" "rest" "[I" : Cond) ∈ qk_W := qk_m (i := 541) (by decide +kernel) rfl
theorem fl_MO_57 : (.fieldLink R_MO 57 "QuantifierProofsModel" "state" "I" : Cond) ∈ qk_W := qk_m (i := 542) (by decide +kernel) rfl
theorem fl_MO_60 : (.fieldLink R_MO 60 "QuantifierProofsModel" "all" "Z" : Cond) ∈ qk_W := qk_m (i := 543) (by decide +kernel) rfl
theorem fl_MO_64 : (.fieldLink R_MO 64 "QuantifierProofsModel" "many" "I" : Cond) ∈ qk_W := qk_m (i := 544) (by decide +kernel) rfl
theorem fl_MO_71 : (.fieldLink R_MO 71 "QuantifierProofsModel" "now" "I" : Cond) ∈ qk_W := qk_m (i := 545) (by decide +kernel) rfl
theorem fl_MO_114 : (.fieldLink R_MO 114 "QuantifierProofsModel" "own" "I" : Cond) ∈ qk_W := qk_m (i := 546) (by decide +kernel) rfl
theorem fl_MO_108 : (.fieldLink R_MO 108 "QuantifierProofsModel" "cubes" "Z" : Cond) ∈ qk_W := qk_m (i := 547) (by decide +kernel) rfl
theorem fl_MO_117 : (.fieldLink R_MO 117 "QuantifierProofsModel" "from0" "I" : Cond) ∈ qk_W := qk_m (i := 548) (by decide +kernel) rfl
theorem fl_MO_120 : (.fieldLink R_MO 120 "QuantifierProofsModel" "from1" "I" : Cond) ∈ qk_W := qk_m (i := 549) (by decide +kernel) rfl
theorem fl_MO_50 : (.fieldLink R_MO 50 "QuantifierProofsModel" "good" "[Z" : Cond) ∈ qk_W := qk_m (i := 550) (by decide +kernel) rfl
theorem ml_LA_17 : (.methodLink R_LA 17 y_MO_type : Cond) ∈ qk_W := qk_m (i := 608) (by decide +kernel) rfl
theorem ii_MO_type : (.instanceMethod y_MO_type : Cond) ∈ qk_W := qk_m (i := 609) (by decide +kernel) rfl
theorem is_MO_type : (.selects R_MO y_MO_type y_MO_type : Cond) ∈ qk_W := qk_m (i := 610) (by decide +kernel) rfl
set_option maxRecDepth 100000 in
theorem ic_MO_type : (.code y_MO_type b_MO_type 2 (some .boolean) : Cond) ∈ qk_W := qk_m (i := 611) (rfl) rfl
theorem ml_LA_22 : (.methodLink R_LA 22 y_MO_formula : Cond) ∈ qk_W := qk_m (i := 612) (by decide +kernel) rfl
theorem ii_MO_formula : (.instanceMethod y_MO_formula : Cond) ∈ qk_W := qk_m (i := 613) (by decide +kernel) rfl
theorem is_MO_formula : (.selects R_MO y_MO_formula y_MO_formula : Cond) ∈ qk_W := qk_m (i := 614) (by decide +kernel) rfl
set_option maxRecDepth 100000 in
theorem ic_MO_formula : (.code y_MO_formula b_MO_formula 5 (some .int) : Cond) ∈ qk_W := qk_m (i := 615) (rfl) rfl
theorem ml_MO_86 : (.methodLink R_MO 86 y_MO_begin : Cond) ∈ qk_W := qk_m (i := 616) (by decide +kernel) rfl
theorem ii_MO_begin : (.instanceMethod y_MO_begin : Cond) ∈ qk_W := qk_m (i := 618) (by decide +kernel) rfl
set_option maxRecDepth 100000 in
theorem ic_MO_begin : (.code y_MO_begin b_MO_begin 3 (some .int) : Cond) ∈ qk_W := qk_m (i := 619) (rfl) rfl
theorem ml_MO_89 : (.methodLink R_MO 89 y_MO_end : Cond) ∈ qk_W := qk_m (i := 620) (by decide +kernel) rfl
theorem ii_MO_end : (.instanceMethod y_MO_end : Cond) ∈ qk_W := qk_m (i := 622) (by decide +kernel) rfl
set_option maxRecDepth 100000 in
theorem ic_MO_end : (.code y_MO_end b_MO_end 3 (some .int) : Cond) ∈ qk_W := qk_m (i := 623) (rfl) rfl
theorem ml_MO_92 : (.methodLink R_MO 92 y_MO_word : Cond) ∈ qk_W := qk_m (i := 624) (by decide +kernel) rfl
theorem ii_MO_word : (.instanceMethod y_MO_word : Cond) ∈ qk_W := qk_m (i := 626) (by decide +kernel) rfl
set_option maxRecDepth 100000 in
theorem ic_MO_word : (.code y_MO_word b_MO_word 8 (some .int) : Cond) ∈ qk_W := qk_m (i := 627) (rfl) rfl
theorem ml_MO_96 : (.methodLink R_MO 96 y_MO_read : Cond) ∈ qk_W := qk_m (i := 628) (by decide +kernel) rfl
theorem ii_MO_read : (.instanceMethod y_MO_read : Cond) ∈ qk_W := qk_m (i := 630) (by decide +kernel) rfl
set_option maxRecDepth 100000 in
theorem ic_MO_read : (.code y_MO_read b_MO_read 2 (some .int) : Cond) ∈ qk_W := qk_m (i := 631) (rfl) rfl
theorem ml_MO_67 : (.methodLink R_MO 67 y_MO_readInBlock : Cond) ∈ qk_W := qk_m (i := 632) (by decide +kernel) rfl
theorem ii_MO_readInBlock : (.instanceMethod y_MO_readInBlock : Cond) ∈ qk_W := qk_m (i := 634) (by decide +kernel) rfl
set_option maxRecDepth 100000 in
theorem ic_MO_readInBlock : (.code y_MO_readInBlock b_MO_readInBlock 2 (some .int) : Cond) ∈ qk_W := qk_m (i := 635) (rfl) rfl
theorem ml_MO_77 : (.methodLink R_MO 77 y_MO_other : Cond) ∈ qk_W := qk_m (i := 636) (by decide +kernel) rfl
theorem is_MO_other : (.static y_MO_other : Cond) ∈ qk_W := qk_m (i := 637) (by decide +kernel) rfl
set_option maxRecDepth 100000 in
theorem ic_MO_other : (.code y_MO_other b_MO_other 1 (some .int) : Cond) ∈ qk_W := qk_m (i := 638) (rfl) rfl
theorem ml_MO_80 : (.methodLink R_MO 80 y_MO_bit : Cond) ∈ qk_W := qk_m (i := 639) (by decide +kernel) rfl
theorem is_MO_bit : (.static y_MO_bit : Cond) ∈ qk_W := qk_m (i := 640) (by decide +kernel) rfl
set_option maxRecDepth 100000 in
theorem ic_MO_bit : (.code y_MO_bit b_MO_bit 1 (some .int) : Cond) ∈ qk_W := qk_m (i := 641) (rfl) rfl
theorem ml_LA_26 : (.methodLink R_LA 26 y_MO_trace : Cond) ∈ qk_W := qk_m (i := 642) (by decide +kernel) rfl
theorem ii_MO_trace : (.instanceMethod y_MO_trace : Cond) ∈ qk_W := qk_m (i := 643) (by decide +kernel) rfl
theorem is_MO_trace : (.selects R_MO y_MO_trace y_MO_trace : Cond) ∈ qk_W := qk_m (i := 644) (by decide +kernel) rfl
set_option maxRecDepth 100000 in
theorem ic_MO_trace : (.code y_MO_trace b_MO_trace 5 (some .int) : Cond) ∈ qk_W := qk_m (i := 645) (rfl) rfl
theorem ml_MO_138 : (.methodLink R_MO 138 y_MO_follow : Cond) ∈ qk_W := qk_m (i := 646) (by decide +kernel) rfl
theorem ii_MO_follow : (.instanceMethod y_MO_follow : Cond) ∈ qk_W := qk_m (i := 648) (by decide +kernel) rfl
set_option maxRecDepth 100000 in
theorem ic_MO_follow : (.code y_MO_follow b_MO_follow 2 (some .int) : Cond) ∈ qk_W := qk_m (i := 649) (rfl) rfl
theorem ml_MO_111 : (.methodLink R_MO 111 y_MO_stepOf : Cond) ∈ qk_W := qk_m (i := 650) (by decide +kernel) rfl
theorem ii_MO_stepOf : (.instanceMethod y_MO_stepOf : Cond) ∈ qk_W := qk_m (i := 652) (by decide +kernel) rfl
set_option maxRecDepth 100000 in
theorem ic_MO_stepOf : (.code y_MO_stepOf b_MO_stepOf 4 (some .int) : Cond) ∈ qk_W := qk_m (i := 653) (rfl) rfl
theorem ml_MO_123 : (.methodLink R_MO 123 y_MO_isVariable : Cond) ∈ qk_W := qk_m (i := 654) (by decide +kernel) rfl
theorem ii_MO_isVariable : (.instanceMethod y_MO_isVariable : Cond) ∈ qk_W := qk_m (i := 656) (by decide +kernel) rfl
set_option maxRecDepth 100000 in
theorem ic_MO_isVariable : (.code y_MO_isVariable b_MO_isVariable 2 (some .boolean) : Cond) ∈ qk_W := qk_m (i := 657) (rfl) rfl
theorem ml_MO_127 : (.methodLink R_MO 127 y_MO_close : Cond) ∈ qk_W := qk_m (i := 658) (by decide +kernel) rfl
theorem ii_MO_close : (.instanceMethod y_MO_close : Cond) ∈ qk_W := qk_m (i := 660) (by decide +kernel) rfl
set_option maxRecDepth 100000 in
theorem ic_MO_close : (.code y_MO_close b_MO_close 1 (some .int) : Cond) ∈ qk_W := qk_m (i := 661) (rfl) rfl
theorem ml_MO_134 : (.methodLink R_MO 134 y_MO_follows : Cond) ∈ qk_W := qk_m (i := 662) (by decide +kernel) rfl
theorem ii_MO_follows : (.instanceMethod y_MO_follows : Cond) ∈ qk_W := qk_m (i := 664) (by decide +kernel) rfl
set_option maxRecDepth 100000 in
theorem ic_MO_follows : (.code y_MO_follows b_MO_follows 1 (some .boolean) : Cond) ∈ qk_W := qk_m (i := 665) (rfl) rfl
theorem ml_MO_141 : (.methodLink R_MO 141 y_MO_isFirst : Cond) ∈ qk_W := qk_m (i := 666) (by decide +kernel) rfl
theorem ii_MO_isFirst : (.instanceMethod y_MO_isFirst : Cond) ∈ qk_W := qk_m (i := 668) (by decide +kernel) rfl
set_option maxRecDepth 100000 in
theorem ic_MO_isFirst : (.code y_MO_isFirst b_MO_isFirst 4 (some .boolean) : Cond) ∈ qk_W := qk_m (i := 669) (rfl) rfl
theorem ml_MO_144 : (.methodLink R_MO 144 y_MO_reduced : Cond) ∈ qk_W := qk_m (i := 670) (by decide +kernel) rfl
theorem ii_MO_reduced : (.instanceMethod y_MO_reduced : Cond) ∈ qk_W := qk_m (i := 672) (by decide +kernel) rfl
set_option maxRecDepth 100000 in
theorem ic_MO_reduced : (.code y_MO_reduced b_MO_reduced 7 (some .int) : Cond) ∈ qk_W := qk_m (i := 673) (rfl) rfl
theorem ml_MO_151 : (.methodLink R_MO 151 y_MO_hasWay : Cond) ∈ qk_W := qk_m (i := 674) (by decide +kernel) rfl
theorem is_MO_hasWay : (.static y_MO_hasWay : Cond) ∈ qk_W := qk_m (i := 675) (by decide +kernel) rfl
set_option maxRecDepth 100000 in
theorem ic_MO_hasWay : (.code y_MO_hasWay b_MO_hasWay 2 (some .boolean) : Cond) ∈ qk_W := qk_m (i := 676) (rfl) rfl
theorem ml_MO_154 : (.methodLink R_MO 154 y_MO_isMain : Cond) ∈ qk_W := qk_m (i := 677) (by decide +kernel) rfl
theorem ii_MO_isMain : (.instanceMethod y_MO_isMain : Cond) ∈ qk_W := qk_m (i := 679) (by decide +kernel) rfl
set_option maxRecDepth 100000 in
theorem ic_MO_isMain : (.code y_MO_isMain b_MO_isMain 2 (some .boolean) : Cond) ∈ qk_W := qk_m (i := 680) (rfl) rfl
theorem ml_MO_147 : (.methodLink R_MO 147 y_MO_isResolved : Cond) ∈ qk_W := qk_m (i := 681) (by decide +kernel) rfl
theorem ii_MO_isResolved : (.instanceMethod y_MO_isResolved : Cond) ∈ qk_W := qk_m (i := 683) (by decide +kernel) rfl
set_option maxRecDepth 100000 in
theorem ic_MO_isResolved : (.code y_MO_isResolved b_MO_isResolved 10 (some .boolean) : Cond) ∈ qk_W := qk_m (i := 684) (rfl) rfl
theorem ml_MO_157 : (.methodLink R_MO 157 y_MO_hasBoth : Cond) ∈ qk_W := qk_m (i := 685) (by decide +kernel) rfl
theorem is_MO_hasBoth : (.static y_MO_hasBoth : Cond) ∈ qk_W := qk_m (i := 686) (by decide +kernel) rfl
set_option maxRecDepth 100000 in
theorem ic_MO_hasBoth : (.code y_MO_hasBoth b_MO_hasBoth 2 (some .boolean) : Cond) ∈ qk_W := qk_m (i := 687) (rfl) rfl
theorem ml_MO_131 : (.methodLink R_MO 131 y_MO_takeId : Cond) ∈ qk_W := qk_m (i := 688) (by decide +kernel) rfl
theorem ii_MO_takeId : (.instanceMethod y_MO_takeId : Cond) ∈ qk_W := qk_m (i := 690) (by decide +kernel) rfl
set_option maxRecDepth 100000 in
theorem ic_MO_takeId : (.code y_MO_takeId b_MO_takeId 3 (some .int) : Cond) ∈ qk_W := qk_m (i := 691) (rfl) rfl
theorem ml_LA_30 : (.methodLink R_LA 30 y_MO_variables : Cond) ∈ qk_W := qk_m (i := 692) (by decide +kernel) rfl
theorem ii_MO_variables : (.instanceMethod y_MO_variables : Cond) ∈ qk_W := qk_m (i := 693) (by decide +kernel) rfl
theorem is_MO_variables : (.selects R_MO y_MO_variables y_MO_variables : Cond) ∈ qk_W := qk_m (i := 694) (by decide +kernel) rfl
set_option maxRecDepth 100000 in
theorem ic_MO_variables : (.code y_MO_variables b_MO_variables 1 (some .int) : Cond) ∈ qk_W := qk_m (i := 695) (rfl) rfl
theorem ml_LA_35 : (.methodLink R_LA 35 y_MO_variable : Cond) ∈ qk_W := qk_m (i := 696) (by decide +kernel) rfl
theorem ii_MO_variable : (.instanceMethod y_MO_variable : Cond) ∈ qk_W := qk_m (i := 697) (by decide +kernel) rfl
theorem is_MO_variable : (.selects R_MO y_MO_variable y_MO_variable : Cond) ∈ qk_W := qk_m (i := 698) (by decide +kernel) rfl
set_option maxRecDepth 100000 in
theorem ic_MO_variable : (.code y_MO_variable b_MO_variable 2 (some .int) : Cond) ∈ qk_W := qk_m (i := 699) (rfl) rfl
theorem ml_LA_39 : (.methodLink R_LA 39 y_MO_clauses : Cond) ∈ qk_W := qk_m (i := 700) (by decide +kernel) rfl
theorem ii_MO_clauses : (.instanceMethod y_MO_clauses : Cond) ∈ qk_W := qk_m (i := 701) (by decide +kernel) rfl
theorem is_MO_clauses : (.selects R_MO y_MO_clauses y_MO_clauses : Cond) ∈ qk_W := qk_m (i := 702) (by decide +kernel) rfl
set_option maxRecDepth 100000 in
theorem ic_MO_clauses : (.code y_MO_clauses b_MO_clauses 1 (some .int) : Cond) ∈ qk_W := qk_m (i := 703) (rfl) rfl
theorem ml_LA_43 : (.methodLink R_LA 43 y_MO_clause : Cond) ∈ qk_W := qk_m (i := 704) (by decide +kernel) rfl
theorem ii_MO_clause : (.instanceMethod y_MO_clause : Cond) ∈ qk_W := qk_m (i := 705) (by decide +kernel) rfl
theorem is_MO_clause : (.selects R_MO y_MO_clause y_MO_clause : Cond) ∈ qk_W := qk_m (i := 706) (by decide +kernel) rfl
set_option maxRecDepth 100000 in
theorem ic_MO_clause : (.code y_MO_clause b_MO_clause 2 (some .int) : Cond) ∈ qk_W := qk_m (i := 707) (rfl) rfl
theorem ml_LA_47 : (.methodLink R_LA 47 y_MO_steps : Cond) ∈ qk_W := qk_m (i := 708) (by decide +kernel) rfl
theorem ii_MO_steps : (.instanceMethod y_MO_steps : Cond) ∈ qk_W := qk_m (i := 709) (by decide +kernel) rfl
theorem is_MO_steps : (.selects R_MO y_MO_steps y_MO_steps : Cond) ∈ qk_W := qk_m (i := 710) (by decide +kernel) rfl
set_option maxRecDepth 100000 in
theorem ic_MO_steps : (.code y_MO_steps b_MO_steps 1 (some .int) : Cond) ∈ qk_W := qk_m (i := 711) (rfl) rfl
theorem ml_LA_51 : (.methodLink R_LA 51 y_MO_step : Cond) ∈ qk_W := qk_m (i := 712) (by decide +kernel) rfl
theorem ii_MO_step : (.instanceMethod y_MO_step : Cond) ∈ qk_W := qk_m (i := 713) (by decide +kernel) rfl
theorem is_MO_step : (.selects R_MO y_MO_step y_MO_step : Cond) ∈ qk_W := qk_m (i := 714) (by decide +kernel) rfl
set_option maxRecDepth 100000 in
theorem ic_MO_step : (.code y_MO_step b_MO_step 2 (some .int) : Cond) ∈ qk_W := qk_m (i := 715) (rfl) rfl
theorem co_MO_160 : (.constant R_MO 160 (65536) : Cond) ∈ qk_W := qk_m (i := 716) (by decide +kernel) rfl
theorem ml_LA_55 : (.methodLink R_LA 55 y_MO_rests : Cond) ∈ qk_W := qk_m (i := 717) (by decide +kernel) rfl
theorem ii_MO_rests : (.instanceMethod y_MO_rests : Cond) ∈ qk_W := qk_m (i := 718) (by decide +kernel) rfl
theorem is_MO_rests : (.selects R_MO y_MO_rests y_MO_rests : Cond) ∈ qk_W := qk_m (i := 719) (by decide +kernel) rfl
set_option maxRecDepth 100000 in
theorem ic_MO_rests : (.code y_MO_rests b_MO_rests 2 (some .int) : Cond) ∈ qk_W := qk_m (i := 720) (rfl) rfl
theorem ml_LA_59 : (.methodLink R_LA 59 y_MO_empty : Cond) ∈ qk_W := qk_m (i := 721) (by decide +kernel) rfl
theorem ii_MO_empty : (.instanceMethod y_MO_empty : Cond) ∈ qk_W := qk_m (i := 722) (by decide +kernel) rfl
theorem is_MO_empty : (.selects R_MO y_MO_empty y_MO_empty : Cond) ∈ qk_W := qk_m (i := 723) (by decide +kernel) rfl
set_option maxRecDepth 100000 in
theorem ic_MO_empty : (.code y_MO_empty b_MO_empty 2 (some .int) : Cond) ∈ qk_W := qk_m (i := 724) (rfl) rfl
theorem ml_LA_64 : (.methodLink R_LA 64 y_MO_won : Cond) ∈ qk_W := qk_m (i := 725) (by decide +kernel) rfl
theorem ii_MO_won : (.instanceMethod y_MO_won : Cond) ∈ qk_W := qk_m (i := 726) (by decide +kernel) rfl
theorem is_MO_won : (.selects R_MO y_MO_won y_MO_won : Cond) ∈ qk_W := qk_m (i := 727) (by decide +kernel) rfl
set_option maxRecDepth 100000 in
theorem ic_MO_won : (.code y_MO_won b_MO_won 3 (some .boolean) : Cond) ∈ qk_W := qk_m (i := 728) (rfl) rfl
theorem ml_MO_161 : (.methodLink R_MO 161 y_MO_play0 : Cond) ∈ qk_W := qk_m (i := 729) (by decide +kernel) rfl
theorem ii_MO_play0 : (.instanceMethod y_MO_play0 : Cond) ∈ qk_W := qk_m (i := 731) (by decide +kernel) rfl
set_option maxRecDepth 100000 in
theorem ic_MO_play0 : (.code y_MO_play0 b_MO_play0 5 none : Cond) ∈ qk_W := qk_m (i := 732) (rfl) rfl
theorem ml_LA_68 : (.methodLink R_LA 68 y_MO_play : Cond) ∈ qk_W := qk_m (i := 733) (by decide +kernel) rfl
theorem ii_MO_play : (.instanceMethod y_MO_play : Cond) ∈ qk_W := qk_m (i := 734) (by decide +kernel) rfl
theorem is_MO_play : (.selects R_MO y_MO_play y_MO_play : Cond) ∈ qk_W := qk_m (i := 735) (by decide +kernel) rfl
set_option maxRecDepth 100000 in
theorem ic_MO_play : (.code y_MO_play b_MO_play 5 (some .int) : Cond) ∈ qk_W := qk_m (i := 736) (rfl) rfl
theorem in_QP : ∀ w ∈ u_ws R_QP F_QP 5, w ∈ qk_W := qk_ml [206, 208, 210, 212, 214] (by decide +kernel) (by decide +kernel)
theorem in_MO : ∀ w ∈ u_ws R_MO F_MO 28, w ∈ qk_W := qk_ml [551, 553, 555, 557, 559, 561, 563, 565, 567, 569, 571, 573, 575, 577, 579, 581, 583, 585, 587, 589, 591, 593, 595, 597, 599, 601, 603, 605] (by decide +kernel) (by decide +kernel)
theorem in_Formula : ∀ w ∈ u_ws R_Formula F_Formula 6, w ∈ qk_W := qk_ml [103, 105, 107, 109, 111, 113] (by decide +kernel) (by decide +kernel)
theorem in_FormulaReader : ∀ w ∈ u_ws R_FormulaReader F_FormulaReader 6, w ∈ qk_W := qk_ml [123, 125, 127, 129, 131, 133] (by decide +kernel) (by decide +kernel)
theorem in_Proof : ∀ w ∈ u_ws R_Proof F_Proof 5, w ∈ qk_W := qk_ml [160, 162, 164, 166, 168] (by decide +kernel) (by decide +kernel)
theorem in_TraceReader : ∀ w ∈ u_ws R_TraceReader F_TraceReader 8, w ∈ qk_W := qk_ml [184, 186, 188, 190, 192, 194, 196, 198] (by decide +kernel) (by decide +kernel)
theorem in_Words : ∀ w ∈ u_ws R_Words F_Words 6, w ∈ qk_W := qk_ml [65, 67, 69, 71, 73, 75] (by decide +kernel) (by decide +kernel)
abbrev qk_nf : List (String × Nat × String × String × String × String) := [(R_QP, 74, "QuantifierProofs$Formula", "order", "[I", "QuantifierProofs"), (R_QP, 85, "QuantifierProofs$Formula", "clauseLiterals", "[I", "QuantifierProofs"), (R_QP, 69, "QuantifierProofs$Formula", "variableCount", "I", "QuantifierProofs"), (R_QP, 82, "QuantifierProofs$Formula", "clauseCount", "I", "QuantifierProofs"), (R_TraceReader, 122, "QuantifierProofs$Formula", "forAll", "I", "QuantifierProofs"), (R_TraceReader, 125, "QuantifierProofs$Formula", "forSome", "I", "QuantifierProofs"), (R_QP, 95, "QuantifierProofs$Proof", "literals", "[I", "QuantifierProofs"), (R_TraceReader, 113, "QuantifierProofs$Proof", "literals", "[I", "QuantifierProofs"), (R_TraceReader, 100, "QuantifierProofs$Proof", "grounds", "[I", "QuantifierProofs"), (R_QP, 99, "QuantifierProofs$Proof", "grounds", "[I", "QuantifierProofs"), (R_TraceReader, 96, "QuantifierProofs$Proof", "cubes", "[Z", "QuantifierProofs"), (R_QP, 91, "QuantifierProofs$Proof", "cubes", "[Z", "QuantifierProofs"), (R_QP, 62, "QuantifierProofs$Proof", "count", "I", "QuantifierProofs"), (R_QP, 30, "QuantifierProofs$TraceReader", "proof", "LQuantifierProofs$Proof;", "QuantifierProofs"), (R_QP, 35, "QuantifierProofs$TraceReader", "formula", "LQuantifierProofs$Formula;", "QuantifierProofs")]
theorem fn_QP_74 : (R_QP, 74, "QuantifierProofs$Formula", "order", "[I", "QuantifierProofs") ∈ qk_nf := List.mem_of_getElem? (i := 0) rfl
theorem fn_QP_85 : (R_QP, 85, "QuantifierProofs$Formula", "clauseLiterals", "[I", "QuantifierProofs") ∈ qk_nf := List.mem_of_getElem? (i := 1) rfl
theorem fn_QP_69 : (R_QP, 69, "QuantifierProofs$Formula", "variableCount", "I", "QuantifierProofs") ∈ qk_nf := List.mem_of_getElem? (i := 2) rfl
theorem fn_QP_82 : (R_QP, 82, "QuantifierProofs$Formula", "clauseCount", "I", "QuantifierProofs") ∈ qk_nf := List.mem_of_getElem? (i := 3) rfl
theorem fn_TraceReader_122 : (R_TraceReader, 122, "QuantifierProofs$Formula", "forAll", "I", "QuantifierProofs") ∈ qk_nf := List.mem_of_getElem? (i := 4) rfl
theorem fn_TraceReader_125 : (R_TraceReader, 125, "QuantifierProofs$Formula", "forSome", "I", "QuantifierProofs") ∈ qk_nf := List.mem_of_getElem? (i := 5) rfl
theorem fn_QP_95 : (R_QP, 95, "QuantifierProofs$Proof", "literals", "[I", "QuantifierProofs") ∈ qk_nf := List.mem_of_getElem? (i := 6) rfl
theorem fn_TraceReader_113 : (R_TraceReader, 113, "QuantifierProofs$Proof", "literals", "[I", "QuantifierProofs") ∈ qk_nf := List.mem_of_getElem? (i := 7) rfl
theorem fn_TraceReader_100 : (R_TraceReader, 100, "QuantifierProofs$Proof", "grounds", "[I", "QuantifierProofs") ∈ qk_nf := List.mem_of_getElem? (i := 8) rfl
theorem fn_QP_99 : (R_QP, 99, "QuantifierProofs$Proof", "grounds", "[I", "QuantifierProofs") ∈ qk_nf := List.mem_of_getElem? (i := 9) rfl
theorem fn_TraceReader_96 : (R_TraceReader, 96, "QuantifierProofs$Proof", "cubes", "[Z", "QuantifierProofs") ∈ qk_nf := List.mem_of_getElem? (i := 10) rfl
theorem fn_QP_91 : (R_QP, 91, "QuantifierProofs$Proof", "cubes", "[Z", "QuantifierProofs") ∈ qk_nf := List.mem_of_getElem? (i := 11) rfl
theorem fn_QP_62 : (R_QP, 62, "QuantifierProofs$Proof", "count", "I", "QuantifierProofs") ∈ qk_nf := List.mem_of_getElem? (i := 12) rfl
theorem fn_QP_30 : (R_QP, 30, "QuantifierProofs$TraceReader", "proof", "LQuantifierProofs$Proof;", "QuantifierProofs") ∈ qk_nf := List.mem_of_getElem? (i := 13) rfl
theorem fn_QP_35 : (R_QP, 35, "QuantifierProofs$TraceReader", "formula", "LQuantifierProofs$Formula;", "QuantifierProofs") ∈ qk_nf := List.mem_of_getElem? (i := 14) rfl
abbrev qk_nfp : List Nat := [92, 94, 96, 98, 100, 102, 150, 151, 153, 154, 156, 157, 159, 175, 178]
abbrev qk_nmp : List Nat := [55, 81, 87, 138, 144, 173, 295, 298, 317, 348, 365, 380, 395]
abbrev qk_nm : List (String × Nat × MethodName × String) := [(R_QP, 9, y_Words_init, "QuantifierProofs"), (R_QP, 18, y_FormulaReader_init, "QuantifierProofs"), (R_FormulaReader, 11, y_Formula_init, "QuantifierProofs"), (R_QP, 25, y_TraceReader_init, "QuantifierProofs"), (R_TraceReader, 11, y_Proof_init, "QuantifierProofs"), (R_TraceReader, 24, y_Formula_init, "QuantifierProofs"), (R_Formula, 31, y_QP_literalsOf, "QuantifierProofs"), (R_Formula, 35, y_QP_setOf, "QuantifierProofs"), (R_FormulaReader, 77, y_QP_setOf, "QuantifierProofs"), (R_TraceReader, 90, y_QP_setOf, "QuantifierProofs"), (R_TraceReader, 128, y_QP_bothWaysIn, "QuantifierProofs"), (R_TraceReader, 134, y_QP_variablesIn, "QuantifierProofs"), (R_TraceReader, 146, y_QP_literalsOf, "QuantifierProofs")]
theorem mn_QP_9 : (R_QP, 9, y_Words_init, "QuantifierProofs") ∈ qk_nm := List.mem_of_getElem? (i := 0) rfl
theorem mn_QP_18 : (R_QP, 18, y_FormulaReader_init, "QuantifierProofs") ∈ qk_nm := List.mem_of_getElem? (i := 1) rfl
theorem mn_FormulaReader_11 : (R_FormulaReader, 11, y_Formula_init, "QuantifierProofs") ∈ qk_nm := List.mem_of_getElem? (i := 2) rfl
theorem mn_QP_25 : (R_QP, 25, y_TraceReader_init, "QuantifierProofs") ∈ qk_nm := List.mem_of_getElem? (i := 3) rfl
theorem mn_TraceReader_11 : (R_TraceReader, 11, y_Proof_init, "QuantifierProofs") ∈ qk_nm := List.mem_of_getElem? (i := 4) rfl
theorem mn_TraceReader_24 : (R_TraceReader, 24, y_Formula_init, "QuantifierProofs") ∈ qk_nm := List.mem_of_getElem? (i := 5) rfl
theorem mn_Formula_31 : (R_Formula, 31, y_QP_literalsOf, "QuantifierProofs") ∈ qk_nm := List.mem_of_getElem? (i := 6) rfl
theorem mn_Formula_35 : (R_Formula, 35, y_QP_setOf, "QuantifierProofs") ∈ qk_nm := List.mem_of_getElem? (i := 7) rfl
theorem mn_FormulaReader_77 : (R_FormulaReader, 77, y_QP_setOf, "QuantifierProofs") ∈ qk_nm := List.mem_of_getElem? (i := 8) rfl
theorem mn_TraceReader_90 : (R_TraceReader, 90, y_QP_setOf, "QuantifierProofs") ∈ qk_nm := List.mem_of_getElem? (i := 9) rfl
theorem mn_TraceReader_128 : (R_TraceReader, 128, y_QP_bothWaysIn, "QuantifierProofs") ∈ qk_nm := List.mem_of_getElem? (i := 10) rfl
theorem mn_TraceReader_134 : (R_TraceReader, 134, y_QP_variablesIn, "QuantifierProofs") ∈ qk_nm := List.mem_of_getElem? (i := 11) rfl
theorem mn_TraceReader_146 : (R_TraceReader, 146, y_QP_literalsOf, "QuantifierProofs") ∈ qk_nm := List.mem_of_getElem? (i := 12) rfl
abbrev qk_fw : List (String × MethodName × MethodName) := [(R_FormulaReader, ⟨"QuantifierProofs$Reader", "take", "(LQuantifierProofs$Words;)I"⟩, y_FormulaReader_take), (R_TraceReader, ⟨"QuantifierProofs$Reader", "take", "(LQuantifierProofs$Words;)I"⟩, y_TraceReader_take), (R_FormulaReader, ⟨"QuantifierProofs$Reader", "mayEnd", "()Z"⟩, y_FormulaReader_mayEnd), (R_TraceReader, ⟨"QuantifierProofs$Reader", "mayEnd", "()Z"⟩, y_TraceReader_mayEnd)]
theorem fw_FormulaReader_take : ((R_FormulaReader, ⟨"QuantifierProofs$Reader", "take", "(LQuantifierProofs$Words;)I"⟩, y_FormulaReader_take) : String × MethodName × MethodName) ∈ qk_fw := List.mem_of_getElem? (i := 0) rfl
theorem fw_TraceReader_take : ((R_TraceReader, ⟨"QuantifierProofs$Reader", "take", "(LQuantifierProofs$Words;)I"⟩, y_TraceReader_take) : String × MethodName × MethodName) ∈ qk_fw := List.mem_of_getElem? (i := 1) rfl
theorem fw_FormulaReader_mayEnd : ((R_FormulaReader, ⟨"QuantifierProofs$Reader", "mayEnd", "()Z"⟩, y_FormulaReader_mayEnd) : String × MethodName × MethodName) ∈ qk_fw := List.mem_of_getElem? (i := 2) rfl
theorem fw_TraceReader_mayEnd : ((R_TraceReader, ⟨"QuantifierProofs$Reader", "mayEnd", "()Z"⟩, y_TraceReader_mayEnd) : String × MethodName × MethodName) ∈ qk_fw := List.mem_of_getElem? (i := 3) rfl
theorem qk_fw_ok : ∀ q ∈ qk_fw, q.2.1.cls ≠ "java/lang/invoke/MethodHandle" ∧ q.2.1.cls ≠ "java/lang/invoke/VarHandle" := by decide +kernel
