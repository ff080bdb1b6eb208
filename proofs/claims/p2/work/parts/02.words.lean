/-! the tables' words: one list of all that are kept, and each of them by name -/
def gG : List Cond := lw_tbl.filter goodWord
theorem gG_good : GoodIn gG gG := fun w h => ⟨h, good_of_word (List.mem_filter.mp h).2⟩
theorem gG_law : GoodIn lw_tbl gG := fun w h => ⟨(List.mem_filter.mp h).1, good_of_word (List.mem_filter.mp h).2⟩
theorem gm1 {w : Cond} (h : w ∈ tables_1_1) : w ∈ tables_1 := List.mem_append_left _ h
theorem gk1 {w : Cond} (h : w ∈ tables_1_1) (hg : goodWord w = true) : w ∈ gG := List.mem_filter.mpr ⟨List.mem_append_right _ (gm1 h), hg⟩
theorem gm2 {w : Cond} (h : w ∈ tables_1_2) : w ∈ tables_1 := List.mem_append_right _ (List.mem_append_left _ h)
theorem gk2 {w : Cond} (h : w ∈ tables_1_2) (hg : goodWord w = true) : w ∈ gG := List.mem_filter.mpr ⟨List.mem_append_right _ (gm2 h), hg⟩
theorem gm3 {w : Cond} (h : w ∈ tables_1_3) : w ∈ tables_1 := List.mem_append_right _ (List.mem_append_right _ (List.mem_append_left _ h))
theorem gk3 {w : Cond} (h : w ∈ tables_1_3) (hg : goodWord w = true) : w ∈ gG := List.mem_filter.mpr ⟨List.mem_append_right _ (gm3 h), hg⟩
theorem gm4 {w : Cond} (h : w ∈ tables_1_4) : w ∈ tables_1 := List.mem_append_right _ (List.mem_append_right _ (List.mem_append_right _ (List.mem_append_left _ h)))
theorem gk4 {w : Cond} (h : w ∈ tables_1_4) (hg : goodWord w = true) : w ∈ gG := List.mem_filter.mpr ⟨List.mem_append_right _ (gm4 h), hg⟩
theorem gm5 {w : Cond} (h : w ∈ tables_1_5) : w ∈ tables_1 := List.mem_append_right _ (List.mem_append_right _ (List.mem_append_right _ (List.mem_append_right _ (List.mem_append_left _ h))))
theorem gk5 {w : Cond} (h : w ∈ tables_1_5) (hg : goodWord w = true) : w ∈ gG := List.mem_filter.mpr ⟨List.mem_append_right _ (gm5 h), hg⟩
theorem gm6 {w : Cond} (h : w ∈ tables_1_6) : w ∈ tables_1 := List.mem_append_right _ (List.mem_append_right _ (List.mem_append_right _ (List.mem_append_right _ (List.mem_append_right _ (List.mem_append_left _ h)))))
theorem gk6 {w : Cond} (h : w ∈ tables_1_6) (hg : goodWord w = true) : w ∈ gG := List.mem_filter.mpr ⟨List.mem_append_right _ (gm6 h), hg⟩
theorem gm7 {w : Cond} (h : w ∈ tables_1_7) : w ∈ tables_1 := List.mem_append_right _ (List.mem_append_right _ (List.mem_append_right _ (List.mem_append_right _ (List.mem_append_right _ (List.mem_append_right _ (List.mem_append_left _ h))))))
theorem gk7 {w : Cond} (h : w ∈ tables_1_7) (hg : goodWord w = true) : w ∈ gG := List.mem_filter.mpr ⟨List.mem_append_right _ (gm7 h), hg⟩
theorem gm8 {w : Cond} (h : w ∈ tables_1_8) : w ∈ tables_1 := List.mem_append_right _ (List.mem_append_right _ (List.mem_append_right _ (List.mem_append_right _ (List.mem_append_right _ (List.mem_append_right _ (List.mem_append_right _ (List.mem_append_left _ h)))))))
theorem gk8 {w : Cond} (h : w ∈ tables_1_8) (hg : goodWord w = true) : w ∈ gG := List.mem_filter.mpr ⟨List.mem_append_right _ (gm8 h), hg⟩
theorem gm9 {w : Cond} (h : w ∈ tables_1_9) : w ∈ tables_1 := List.mem_append_right _ (List.mem_append_right _ (List.mem_append_right _ (List.mem_append_right _ (List.mem_append_right _ (List.mem_append_right _ (List.mem_append_right _ (List.mem_append_right _ (h))))))))
theorem gk9 {w : Cond} (h : w ∈ tables_1_9) (hg : goodWord w = true) : w ∈ gG := List.mem_filter.mpr ⟨List.mem_append_right _ (gm9 h), hg⟩
theorem gkp {q : MethodName × Nat} (h : q ∈ lw_privs) : Cond.selects q.1.cls q.1 q.1 ∈ gG := List.mem_filter.mpr ⟨List.mem_append_left _ (List.mem_map.mpr ⟨q, h, rfl⟩), rfl⟩
theorem gp1 {q : MethodName × Nat} (h : q ∈ lw_privs_1) : q ∈ lw_privs := List.mem_append_left _ h
theorem gp2 {q : MethodName × Nat} (h : q ∈ lw_privs_2) : q ∈ lw_privs := List.mem_append_right _ (List.mem_append_left _ h)
theorem gp3 {q : MethodName × Nat} (h : q ∈ lw_privs_3) : q ∈ lw_privs := List.mem_append_right _ (List.mem_append_right _ (List.mem_append_left _ h))
theorem gp4 {q : MethodName × Nat} (h : q ∈ lw_privs_4) : q ∈ lw_privs := List.mem_append_right _ (List.mem_append_right _ (List.mem_append_right _ (List.mem_append_left _ h)))
theorem gp5 {q : MethodName × Nat} (h : q ∈ lw_privs_5) : q ∈ lw_privs := List.mem_append_right _ (List.mem_append_right _ (List.mem_append_right _ (List.mem_append_right _ (List.mem_append_left _ h))))
theorem gp6 {q : MethodName × Nat} (h : q ∈ lw_privs_6) : q ∈ lw_privs := List.mem_append_right _ (List.mem_append_right _ (List.mem_append_right _ (List.mem_append_right _ (List.mem_append_right _ (List.mem_append_left _ h)))))
theorem gp7 {q : MethodName × Nat} (h : q ∈ lw_privs_7) : q ∈ lw_privs := List.mem_append_right _ (List.mem_append_right _ (List.mem_append_right _ (List.mem_append_right _ (List.mem_append_right _ (List.mem_append_right _ (List.mem_append_left _ h))))))
theorem gp8 {q : MethodName × Nat} (h : q ∈ lw_privs_8) : q ∈ lw_privs := List.mem_append_right _ (List.mem_append_right _ (List.mem_append_right _ (List.mem_append_right _ (List.mem_append_right _ (List.mem_append_right _ (List.mem_append_right _ (List.mem_append_left _ h)))))))
theorem gp9 {q : MethodName × Nat} (h : q ∈ lw_privs_9) : q ∈ lw_privs := List.mem_append_right _ (List.mem_append_right _ (List.mem_append_right _ (List.mem_append_right _ (List.mem_append_right _ (List.mem_append_right _ (List.mem_append_right _ (List.mem_append_right _ (h))))))))
theorem se_Wd_isAt : Cond.selects "StreamNodes$Words" ⟨"StreamNodes$Words", "isAt", "(II)Z"⟩ ⟨"StreamNodes$Words", "isAt", "(II)Z"⟩ ∈ gG := gkp (q := (⟨"StreamNodes$Words", "isAt", "(II)Z"⟩, 9)) (gp1 (List.mem_of_getElem? (i := 0) rfl))
theorem se_Wd_add : Cond.selects "StreamNodes$Words" ⟨"StreamNodes$Words", "add", "(III)I"⟩ ⟨"StreamNodes$Words", "add", "(III)I"⟩ ∈ gG := gkp (q := (⟨"StreamNodes$Words", "add", "(III)I"⟩, 9)) (gp1 (List.mem_of_getElem? (i := 1) rfl))
theorem se_Tk_scanAt : Cond.selects "StreamNodes$Tokens" ⟨"StreamNodes$Tokens", "scanAt", "(II)I"⟩ ⟨"StreamNodes$Tokens", "scanAt", "(II)I"⟩ ∈ gG := gkp (q := (⟨"StreamNodes$Tokens", "scanAt", "(II)I"⟩, 9)) (gp1 (List.mem_of_getElem? (i := 2) rfl))
theorem se_Tk_scanWord : Cond.selects "StreamNodes$Tokens" ⟨"StreamNodes$Tokens", "scanWord", "(II)I"⟩ ⟨"StreamNodes$Tokens", "scanWord", "(II)I"⟩ ∈ gG := gkp (q := (⟨"StreamNodes$Tokens", "scanWord", "(II)I"⟩, 9)) (gp1 (List.mem_of_getElem? (i := 3) rfl))
theorem se_Tk_addBad : Cond.selects "StreamNodes$Tokens" ⟨"StreamNodes$Tokens", "addBad", "(II)I"⟩ ⟨"StreamNodes$Tokens", "addBad", "(II)I"⟩ ∈ gG := gkp (q := (⟨"StreamNodes$Tokens", "addBad", "(II)I"⟩, 9)) (gp1 (List.mem_of_getElem? (i := 4) rfl))
theorem se_Tk_add : Cond.selects "StreamNodes$Tokens" ⟨"StreamNodes$Tokens", "add", "(III)V"⟩ ⟨"StreamNodes$Tokens", "add", "(III)V"⟩ ∈ gG := gkp (q := (⟨"StreamNodes$Tokens", "add", "(III)V"⟩, 9)) (gp1 (List.mem_of_getElem? (i := 5) rfl))
theorem se_Tk_scanNumber : Cond.selects "StreamNodes$Tokens" ⟨"StreamNodes$Tokens", "scanNumber", "(II)I"⟩ ⟨"StreamNodes$Tokens", "scanNumber", "(II)I"⟩ ∈ gG := gkp (q := (⟨"StreamNodes$Tokens", "scanNumber", "(II)I"⟩, 9)) (gp1 (List.mem_of_getElem? (i := 6) rfl))
theorem se_Tk_lineEnd : Cond.selects "StreamNodes$Tokens" ⟨"StreamNodes$Tokens", "lineEnd", "(II)I"⟩ ⟨"StreamNodes$Tokens", "lineEnd", "(II)I"⟩ ∈ gG := gkp (q := (⟨"StreamNodes$Tokens", "lineEnd", "(II)I"⟩, 9)) (gp1 (List.mem_of_getElem? (i := 7) rfl))
theorem se_Tk_scanSign : Cond.selects "StreamNodes$Tokens" ⟨"StreamNodes$Tokens", "scanSign", "(IIII)I"⟩ ⟨"StreamNodes$Tokens", "scanSign", "(IIII)I"⟩ ∈ gG := gkp (q := (⟨"StreamNodes$Tokens", "scanSign", "(IIII)I"⟩, 9)) (gp1 (List.mem_of_getElem? (i := 8) rfl))
theorem se_Nr_readNodeName : Cond.selects "StreamNodes$NodeReader" ⟨"StreamNodes$NodeReader", "readNodeName", "()Z"⟩ ⟨"StreamNodes$NodeReader", "readNodeName", "()Z"⟩ ∈ gG := gkp (q := (⟨"StreamNodes$NodeReader", "readNodeName", "()Z"⟩, 5)) (gp1 (List.mem_of_getElem? (i := 9) rfl))
theorem se_Nr_readInputs : Cond.selects "StreamNodes$NodeReader" ⟨"StreamNodes$NodeReader", "readInputs", "()Z"⟩ ⟨"StreamNodes$NodeReader", "readInputs", "()Z"⟩ ∈ gG := gkp (q := (⟨"StreamNodes$NodeReader", "readInputs", "()Z"⟩, 5)) (gp1 (List.mem_of_getElem? (i := 10) rfl))
theorem se_Nr_readGroups : Cond.selects "StreamNodes$NodeReader" ⟨"StreamNodes$NodeReader", "readGroups", "()Z"⟩ ⟨"StreamNodes$NodeReader", "readGroups", "()Z"⟩ ∈ gG := gkp (q := (⟨"StreamNodes$NodeReader", "readGroups", "()Z"⟩, 5)) (gp1 (List.mem_of_getElem? (i := 11) rfl))
theorem se_Nr_readGroup : Cond.selects "StreamNodes$NodeReader" ⟨"StreamNodes$NodeReader", "readGroup", "()Z"⟩ ⟨"StreamNodes$NodeReader", "readGroup", "()Z"⟩ ∈ gG := gkp (q := (⟨"StreamNodes$NodeReader", "readGroup", "()Z"⟩, 5)) (gp1 (List.mem_of_getElem? (i := 12) rfl))
theorem se_Nr_readNewName : Cond.selects "StreamNodes$NodeReader" ⟨"StreamNodes$NodeReader", "readNewName", "()Z"⟩ ⟨"StreamNodes$NodeReader", "readNewName", "()Z"⟩ ∈ gG := gkp (q := (⟨"StreamNodes$NodeReader", "readNewName", "()Z"⟩, 5)) (gp1 (List.mem_of_getElem? (i := 13) rfl))
theorem se_Nr_readType : Cond.selects "StreamNodes$NodeReader" ⟨"StreamNodes$NodeReader", "readType", "(I)Z"⟩ ⟨"StreamNodes$NodeReader", "readType", "(I)Z"⟩ ∈ gG := gkp (q := (⟨"StreamNodes$NodeReader", "readType", "(I)Z"⟩, 5)) (gp1 (List.mem_of_getElem? (i := 14) rfl))
theorem se_Nr_readOutputs : Cond.selects "StreamNodes$NodeReader" ⟨"StreamNodes$NodeReader", "readOutputs", "()Z"⟩ ⟨"StreamNodes$NodeReader", "readOutputs", "()Z"⟩ ∈ gG := gkp (q := (⟨"StreamNodes$NodeReader", "readOutputs", "()Z"⟩, 5)) (gp1 (List.mem_of_getElem? (i := 15) rfl))
theorem se_Nr_readVars : Cond.selects "StreamNodes$NodeReader" ⟨"StreamNodes$NodeReader", "readVars", "()Z"⟩ ⟨"StreamNodes$NodeReader", "readVars", "()Z"⟩ ∈ gG := gkp (q := (⟨"StreamNodes$NodeReader", "readVars", "()Z"⟩, 5)) (gp2 (List.mem_of_getElem? (i := 0) rfl))
theorem se_Nr_readVarGroup : Cond.selects "StreamNodes$NodeReader" ⟨"StreamNodes$NodeReader", "readVarGroup", "()Z"⟩ ⟨"StreamNodes$NodeReader", "readVarGroup", "()Z"⟩ ∈ gG := gkp (q := (⟨"StreamNodes$NodeReader", "readVarGroup", "()Z"⟩, 5)) (gp2 (List.mem_of_getElem? (i := 1) rfl))
theorem se_Nr_readGroupClock : Cond.selects "StreamNodes$NodeReader" ⟨"StreamNodes$NodeReader", "readGroupClock", "(I)Z"⟩ ⟨"StreamNodes$NodeReader", "readGroupClock", "(I)Z"⟩ ∈ gG := gkp (q := (⟨"StreamNodes$NodeReader", "readGroupClock", "(I)Z"⟩, 5)) (gp2 (List.mem_of_getElem? (i := 2) rfl))
theorem se_Nr_readEquation : Cond.selects "StreamNodes$NodeReader" ⟨"StreamNodes$NodeReader", "readEquation", "()Z"⟩ ⟨"StreamNodes$NodeReader", "readEquation", "()Z"⟩ ∈ gG := gkp (q := (⟨"StreamNodes$NodeReader", "readEquation", "()Z"⟩, 5)) (gp2 (List.mem_of_getElem? (i := 3) rfl))
theorem se_Nr_readLefts : Cond.selects "StreamNodes$NodeReader" ⟨"StreamNodes$NodeReader", "readLefts", "()Z"⟩ ⟨"StreamNodes$NodeReader", "readLefts", "()Z"⟩ ∈ gG := gkp (q := (⟨"StreamNodes$NodeReader", "readLefts", "()Z"⟩, 5)) (gp2 (List.mem_of_getElem? (i := 4) rfl))
theorem se_Nr_readLeft : Cond.selects "StreamNodes$NodeReader" ⟨"StreamNodes$NodeReader", "readLeft", "()Z"⟩ ⟨"StreamNodes$NodeReader", "readLeft", "()Z"⟩ ∈ gG := gkp (q := (⟨"StreamNodes$NodeReader", "readLeft", "()Z"⟩, 5)) (gp2 (List.mem_of_getElem? (i := 5) rfl))
theorem se_Er_readCalled : Cond.selects "StreamNodes$ExpressionReader" ⟨"StreamNodes$ExpressionReader", "readCalled", "()Z"⟩ ⟨"StreamNodes$ExpressionReader", "readCalled", "()Z"⟩ ∈ gG := gkp (q := (⟨"StreamNodes$ExpressionReader", "readCalled", "()Z"⟩, 15)) (gp2 (List.mem_of_getElem? (i := 6) rfl))
theorem se_Er_push : Cond.selects "StreamNodes$ExpressionReader" ⟨"StreamNodes$ExpressionReader", "push", "(IZ)Z"⟩ ⟨"StreamNodes$ExpressionReader", "push", "(IZ)Z"⟩ ∈ gG := gkp (q := (⟨"StreamNodes$ExpressionReader", "push", "(IZ)Z"⟩, 15)) (gp2 (List.mem_of_getElem? (i := 7) rfl))
theorem se_Er_readOperand : Cond.selects "StreamNodes$ExpressionReader" ⟨"StreamNodes$ExpressionReader", "readOperand", "()Z"⟩ ⟨"StreamNodes$ExpressionReader", "readOperand", "()Z"⟩ ∈ gG := gkp (q := (⟨"StreamNodes$ExpressionReader", "readOperand", "()Z"⟩, 15)) (gp2 (List.mem_of_getElem? (i := 8) rfl))
theorem se_Er_takeAtom : Cond.selects "StreamNodes$ExpressionReader" ⟨"StreamNodes$ExpressionReader", "takeAtom", "(II)Z"⟩ ⟨"StreamNodes$ExpressionReader", "takeAtom", "(II)Z"⟩ ∈ gG := gkp (q := (⟨"StreamNodes$ExpressionReader", "takeAtom", "(II)Z"⟩, 15)) (gp2 (List.mem_of_getElem? (i := 9) rfl))
theorem se_Er_readVariable : Cond.selects "StreamNodes$ExpressionReader" ⟨"StreamNodes$ExpressionReader", "readVariable", "()Z"⟩ ⟨"StreamNodes$ExpressionReader", "readVariable", "()Z"⟩ ∈ gG := gkp (q := (⟨"StreamNodes$ExpressionReader", "readVariable", "()Z"⟩, 15)) (gp2 (List.mem_of_getElem? (i := 10) rfl))
theorem se_Er_readOperator : Cond.selects "StreamNodes$ExpressionReader" ⟨"StreamNodes$ExpressionReader", "readOperator", "()Z"⟩ ⟨"StreamNodes$ExpressionReader", "readOperator", "()Z"⟩ ∈ gG := gkp (q := (⟨"StreamNodes$ExpressionReader", "readOperator", "()Z"⟩, 15)) (gp2 (List.mem_of_getElem? (i := 11) rfl))
theorem se_Er_readWhen : Cond.selects "StreamNodes$ExpressionReader" ⟨"StreamNodes$ExpressionReader", "readWhen", "()Z"⟩ ⟨"StreamNodes$ExpressionReader", "readWhen", "()Z"⟩ ∈ gG := gkp (q := (⟨"StreamNodes$ExpressionReader", "readWhen", "()Z"⟩, 15)) (gp2 (List.mem_of_getElem? (i := 12) rfl))
theorem se_Er_readTwoSided : Cond.selects "StreamNodes$ExpressionReader" ⟨"StreamNodes$ExpressionReader", "readTwoSided", "(II)Z"⟩ ⟨"StreamNodes$ExpressionReader", "readTwoSided", "(II)Z"⟩ ∈ gG := gkp (q := (⟨"StreamNodes$ExpressionReader", "readTwoSided", "(II)Z"⟩, 15)) (gp2 (List.mem_of_getElem? (i := 13) rfl))
theorem se_Er_reduce : Cond.selects "StreamNodes$ExpressionReader" ⟨"StreamNodes$ExpressionReader", "reduce", "(I)Z"⟩ ⟨"StreamNodes$ExpressionReader", "reduce", "(I)Z"⟩ ∈ gG := gkp (q := (⟨"StreamNodes$ExpressionReader", "reduce", "(I)Z"⟩, 15)) (gp2 (List.mem_of_getElem? (i := 14) rfl))
theorem se_Er_readCloser : Cond.selects "StreamNodes$ExpressionReader" ⟨"StreamNodes$ExpressionReader", "readCloser", "(I)Z"⟩ ⟨"StreamNodes$ExpressionReader", "readCloser", "(I)Z"⟩ ∈ gG := gkp (q := (⟨"StreamNodes$ExpressionReader", "readCloser", "(I)Z"⟩, 15)) (gp2 (List.mem_of_getElem? (i := 15) rfl))
theorem se_Er_goOnBehind : Cond.selects "StreamNodes$ExpressionReader" ⟨"StreamNodes$ExpressionReader", "goOnBehind", "(I)Z"⟩ ⟨"StreamNodes$ExpressionReader", "goOnBehind", "(I)Z"⟩ ∈ gG := gkp (q := (⟨"StreamNodes$ExpressionReader", "goOnBehind", "(I)Z"⟩, 15)) (gp3 (List.mem_of_getElem? (i := 0) rfl))
theorem se_Er_takeInput : Cond.selects "StreamNodes$ExpressionReader" ⟨"StreamNodes$ExpressionReader", "takeInput", "()V"⟩ ⟨"StreamNodes$ExpressionReader", "takeInput", "()V"⟩ ∈ gG := gkp (q := (⟨"StreamNodes$ExpressionReader", "takeInput", "()V"⟩, 15)) (gp3 (List.mem_of_getElem? (i := 1) rfl))
theorem se_Er_closeCall : Cond.selects "StreamNodes$ExpressionReader" ⟨"StreamNodes$ExpressionReader", "closeCall", "()Z"⟩ ⟨"StreamNodes$ExpressionReader", "closeCall", "()Z"⟩ ∈ gG := gkp (q := (⟨"StreamNodes$ExpressionReader", "closeCall", "()Z"⟩, 15)) (gp3 (List.mem_of_getElem? (i := 2) rfl))
theorem se_Ck_typesFit : Cond.selects "StreamNodes$Checker" ⟨"StreamNodes$Checker", "typesFit", "(I)Z"⟩ ⟨"StreamNodes$Checker", "typesFit", "(I)Z"⟩ ∈ gG := gkp (q := (⟨"StreamNodes$Checker", "typesFit", "(I)Z"⟩, 6)) (gp3 (List.mem_of_getElem? (i := 3) rfl))
theorem se_Ck_checkType : Cond.selects "StreamNodes$Checker" ⟨"StreamNodes$Checker", "checkType", "(II)I"⟩ ⟨"StreamNodes$Checker", "checkType", "(II)I"⟩ ∈ gG := gkp (q := (⟨"StreamNodes$Checker", "checkType", "(II)I"⟩, 6)) (gp3 (List.mem_of_getElem? (i := 4) rfl))
theorem se_Ck_checkCall : Cond.selects "StreamNodes$Checker" ⟨"StreamNodes$Checker", "checkCall", "(II)I"⟩ ⟨"StreamNodes$Checker", "checkCall", "(II)I"⟩ ∈ gG := gkp (q := (⟨"StreamNodes$Checker", "checkCall", "(II)I"⟩, 6)) (gp3 (List.mem_of_getElem? (i := 5) rfl))
theorem se_Ck_typeOfAtom : Cond.selects "StreamNodes$Checker" ⟨"StreamNodes$Checker", "typeOfAtom", "(I)I"⟩ ⟨"StreamNodes$Checker", "typeOfAtom", "(I)I"⟩ ∈ gG := gkp (q := (⟨"StreamNodes$Checker", "typeOfAtom", "(I)I"⟩, 6)) (gp3 (List.mem_of_getElem? (i := 6) rfl))
theorem se_Ck_clocksFit : Cond.selects "StreamNodes$Checker" ⟨"StreamNodes$Checker", "clocksFit", "(I)Z"⟩ ⟨"StreamNodes$Checker", "clocksFit", "(I)Z"⟩ ∈ gG := gkp (q := (⟨"StreamNodes$Checker", "clocksFit", "(I)Z"⟩, 6)) (gp3 (List.mem_of_getElem? (i := 7) rfl))
theorem se_Ck_checkClock : Cond.selects "StreamNodes$Checker" ⟨"StreamNodes$Checker", "checkClock", "(I)Z"⟩ ⟨"StreamNodes$Checker", "checkClock", "(I)Z"⟩ ∈ gG := gkp (q := (⟨"StreamNodes$Checker", "checkClock", "(I)Z"⟩, 6)) (gp3 (List.mem_of_getElem? (i := 8) rfl))
theorem se_Ck_joined : Cond.selects "StreamNodes$Checker" ⟨"StreamNodes$Checker", "joined", "(I)I"⟩ ⟨"StreamNodes$Checker", "joined", "(I)I"⟩ ∈ gG := gkp (q := (⟨"StreamNodes$Checker", "joined", "(I)I"⟩, 6)) (gp3 (List.mem_of_getElem? (i := 9) rfl))
theorem se_Ck_clockOfC : Cond.selects "StreamNodes$Checker" ⟨"StreamNodes$Checker", "clockOfC", "(I)I"⟩ ⟨"StreamNodes$Checker", "clockOfC", "(I)I"⟩ ∈ gG := gkp (q := (⟨"StreamNodes$Checker", "clockOfC", "(I)I"⟩, 6)) (gp3 (List.mem_of_getElem? (i := 10) rfl))
theorem se_Ck_settle : Cond.selects "StreamNodes$Checker" ⟨"StreamNodes$Checker", "settle", "(II)V"⟩ ⟨"StreamNodes$Checker", "settle", "(II)V"⟩ ∈ gG := gkp (q := (⟨"StreamNodes$Checker", "settle", "(II)V"⟩, 6)) (gp3 (List.mem_of_getElem? (i := 11) rfl))
theorem se_Nr_closeNode : Cond.selects "StreamNodes$NodeReader" ⟨"StreamNodes$NodeReader", "closeNode", "()Z"⟩ ⟨"StreamNodes$NodeReader", "closeNode", "()Z"⟩ ∈ gG := gkp (q := (⟨"StreamNodes$NodeReader", "closeNode", "()Z"⟩, 5)) (gp3 (List.mem_of_getElem? (i := 12) rfl))
theorem se_S_sizesFit : Cond.selects "StreamNodes" ⟨"StreamNodes", "sizesFit", "()Z"⟩ ⟨"StreamNodes", "sizesFit", "()Z"⟩ ∈ gG := gkp (q := (⟨"StreamNodes", "sizesFit", "()Z"⟩, 15)) (gp3 (List.mem_of_getElem? (i := 13) rfl))
theorem se_S_causesFit : Cond.selects "StreamNodes" ⟨"StreamNodes", "causesFit", "()Z"⟩ ⟨"StreamNodes", "causesFit", "()Z"⟩ ∈ gG := gkp (q := (⟨"StreamNodes", "causesFit", "()Z"⟩, 15)) (gp3 (List.mem_of_getElem? (i := 14) rfl))
theorem se_Lk_openNode : Cond.selects "StreamNodes$Linker" ⟨"StreamNodes$Linker", "openNode", "(III)V"⟩ ⟨"StreamNodes$Linker", "openNode", "(III)V"⟩ ∈ gG := gkp (q := (⟨"StreamNodes$Linker", "openNode", "(III)V"⟩, 13)) (gp3 (List.mem_of_getElem? (i := 15) rfl))
theorem se_Lk_putInClock : Cond.selects "StreamNodes$Linker" ⟨"StreamNodes$Linker", "putInClock", "(II)I"⟩ ⟨"StreamNodes$Linker", "putInClock", "(II)I"⟩ ∈ gG := gkp (q := (⟨"StreamNodes$Linker", "putInClock", "(II)I"⟩, 13)) (gp4 (List.mem_of_getElem? (i := 0) rfl))
theorem se_Lk_goOn : Cond.selects "StreamNodes$Linker" ⟨"StreamNodes$Linker", "goOn", "(I)V"⟩ ⟨"StreamNodes$Linker", "goOn", "(I)V"⟩ ∈ gG := gkp (q := (⟨"StreamNodes$Linker", "goOn", "(I)V"⟩, 13)) (gp4 (List.mem_of_getElem? (i := 1) rfl))
theorem se_Lk_take : Cond.selects "StreamNodes$Linker" ⟨"StreamNodes$Linker", "take", "(II)V"⟩ ⟨"StreamNodes$Linker", "take", "(II)V"⟩ ∈ gG := gkp (q := (⟨"StreamNodes$Linker", "take", "(II)V"⟩, 13)) (gp4 (List.mem_of_getElem? (i := 2) rfl))
theorem se_Lk_push : Cond.selects "StreamNodes$Linker" ⟨"StreamNodes$Linker", "push", "(I)V"⟩ ⟨"StreamNodes$Linker", "push", "(I)V"⟩ ∈ gG := gkp (q := (⟨"StreamNodes$Linker", "push", "(I)V"⟩, 13)) (gp4 (List.mem_of_getElem? (i := 3) rfl))
theorem se_Lk_takeCall : Cond.selects "StreamNodes$Linker" ⟨"StreamNodes$Linker", "takeCall", "(II)V"⟩ ⟨"StreamNodes$Linker", "takeCall", "(II)V"⟩ ∈ gG := gkp (q := (⟨"StreamNodes$Linker", "takeCall", "(II)V"⟩, 13)) (gp4 (List.mem_of_getElem? (i := 4) rfl))
theorem se_Lk_takeOperator : Cond.selects "StreamNodes$Linker" ⟨"StreamNodes$Linker", "takeOperator", "(III)V"⟩ ⟨"StreamNodes$Linker", "takeOperator", "(III)V"⟩ ∈ gG := gkp (q := (⟨"StreamNodes$Linker", "takeOperator", "(III)V"⟩, 13)) (gp4 (List.mem_of_getElem? (i := 5) rfl))
theorem se_Lk_define : Cond.selects "StreamNodes$Linker" ⟨"StreamNodes$Linker", "define", "(II)V"⟩ ⟨"StreamNodes$Linker", "define", "(II)V"⟩ ∈ gG := gkp (q := (⟨"StreamNodes$Linker", "define", "(II)V"⟩, 13)) (gp4 (List.mem_of_getElem? (i := 6) rfl))
theorem se_Od_openSlot : Cond.selects "StreamNodes$Order" ⟨"StreamNodes$Order", "openSlot", "(I)V"⟩ ⟨"StreamNodes$Order", "openSlot", "(I)V"⟩ ∈ gG := gkp (q := (⟨"StreamNodes$Order", "openSlot", "(I)V"⟩, 14)) (gp4 (List.mem_of_getElem? (i := 7) rfl))
theorem se_Od_advance : Cond.selects "StreamNodes$Order" ⟨"StreamNodes$Order", "advance", "(I)V"⟩ ⟨"StreamNodes$Order", "advance", "(I)V"⟩ ∈ gG := gkp (q := (⟨"StreamNodes$Order", "advance", "(I)V"⟩, 14)) (gp4 (List.mem_of_getElem? (i := 8) rfl))
theorem se_Od_closeSlot : Cond.selects "StreamNodes$Order" ⟨"StreamNodes$Order", "closeSlot", "(I)V"⟩ ⟨"StreamNodes$Order", "closeSlot", "(I)V"⟩ ∈ gG := gkp (q := (⟨"StreamNodes$Order", "closeSlot", "(I)V"⟩, 14)) (gp4 (List.mem_of_getElem? (i := 9) rfl))
theorem se_Od_takeCircle : Cond.selects "StreamNodes$Order" ⟨"StreamNodes$Order", "takeCircle", "(I)V"⟩ ⟨"StreamNodes$Order", "takeCircle", "(I)V"⟩ ∈ gG := gkp (q := (⟨"StreamNodes$Order", "takeCircle", "(I)V"⟩, 14)) (gp4 (List.mem_of_getElem? (i := 10) rfl))
theorem se_Od_noteOwnCause : Cond.selects "StreamNodes$Order" ⟨"StreamNodes$Order", "noteOwnCause", "(I)V"⟩ ⟨"StreamNodes$Order", "noteOwnCause", "(I)V"⟩ ∈ gG := gkp (q := (⟨"StreamNodes$Order", "noteOwnCause", "(I)V"⟩, 14)) (gp4 (List.mem_of_getElem? (i := 11) rfl))
theorem se_Pg_buildSteps : Cond.selects "StreamNodes$Program" ⟨"StreamNodes$Program", "buildSteps", "()V"⟩ ⟨"StreamNodes$Program", "buildSteps", "()V"⟩ ∈ gG := gkp (q := (⟨"StreamNodes$Program", "buildSteps", "()V"⟩, 18)) (gp4 (List.mem_of_getElem? (i := 12) rfl))
theorem se_Pg_addStep : Cond.selects "StreamNodes$Program" ⟨"StreamNodes$Program", "addStep", "(I)V"⟩ ⟨"StreamNodes$Program", "addStep", "(I)V"⟩ ∈ gG := gkp (q := (⟨"StreamNodes$Program", "addStep", "(I)V"⟩, 18)) (gp4 (List.mem_of_getElem? (i := 13) rfl))
theorem se_Pg_madeOf : Cond.selects "StreamNodes$Program" ⟨"StreamNodes$Program", "madeOf", "(I)I"⟩ ⟨"StreamNodes$Program", "madeOf", "(I)I"⟩ ∈ gG := gkp (q := (⟨"StreamNodes$Program", "madeOf", "(I)I"⟩, 18)) (gp4 (List.mem_of_getElem? (i := 14) rfl))
theorem se_Pg_buildClocks : Cond.selects "StreamNodes$Program" ⟨"StreamNodes$Program", "buildClocks", "()V"⟩ ⟨"StreamNodes$Program", "buildClocks", "()V"⟩ ∈ gG := gkp (q := (⟨"StreamNodes$Program", "buildClocks", "()V"⟩, 18)) (gp4 (List.mem_of_getElem? (i := 15) rfl))
theorem se_Pg_numberClocks : Cond.selects "StreamNodes$Program" ⟨"StreamNodes$Program", "numberClocks", "(I)V"⟩ ⟨"StreamNodes$Program", "numberClocks", "(I)V"⟩ ∈ gG := gkp (q := (⟨"StreamNodes$Program", "numberClocks", "(I)V"⟩, 18)) (gp5 (List.mem_of_getElem? (i := 0) rfl))
theorem se_S_countOfProgram : Cond.selects "StreamNodes" ⟨"StreamNodes", "countOfProgram", "(I)I"⟩ ⟨"StreamNodes", "countOfProgram", "(I)I"⟩ ∈ gG := gkp (q := (⟨"StreamNodes", "countOfProgram", "(I)I"⟩, 15)) (gp5 (List.mem_of_getElem? (i := 1) rfl))
theorem se_java_lang_Throwable_fillInStackTrace : Cond.selects "java/lang/Throwable" ⟨"java/lang/Throwable", "fillInStackTrace", "(I)Ljava/lang/Throwable;"⟩ ⟨"java/lang/Throwable", "fillInStackTrace", "(I)Ljava/lang/Throwable;"⟩ ∈ gG := gkp (q := (⟨"java/lang/Throwable", "fillInStackTrace", "(I)Ljava/lang/Throwable;"⟩, 6)) (gp5 (List.mem_of_getElem? (i := 2) rfl))
theorem se_S_append : Cond.selects "StreamNodes" ⟨"StreamNodes", "append", "(I)V"⟩ ⟨"StreamNodes", "append", "(I)V"⟩ ∈ gG := gkp (q := (⟨"StreamNodes", "append", "(I)V"⟩, 15)) (gp5 (List.mem_of_getElem? (i := 3) rfl))
theorem se_Pg_result : Cond.selects "StreamNodes$Program" ⟨"StreamNodes$Program", "result", "(I)I"⟩ ⟨"StreamNodes$Program", "result", "(I)I"⟩ ∈ gG := gkp (q := (⟨"StreamNodes$Program", "result", "(I)I"⟩, 18)) (gp5 (List.mem_of_getElem? (i := 4) rfl))
theorem se_Pg_turnClocks : Cond.selects "StreamNodes$Program" ⟨"StreamNodes$Program", "turnClocks", "()V"⟩ ⟨"StreamNodes$Program", "turnClocks", "()V"⟩ ∈ gG := gkp (q := (⟨"StreamNodes$Program", "turnClocks", "()V"⟩, 18)) (gp5 (List.mem_of_getElem? (i := 5) rfl))
theorem se_Pg_fillCells : Cond.selects "StreamNodes$Program" ⟨"StreamNodes$Program", "fillCells", "()V"⟩ ⟨"StreamNodes$Program", "fillCells", "()V"⟩ ∈ gG := gkp (q := (⟨"StreamNodes$Program", "fillCells", "()V"⟩, 18)) (gp5 (List.mem_of_getElem? (i := 6) rfl))
theorem se_S_isVariable : Cond.selects "StreamNodes" ⟨"StreamNodes", "isVariable", "(I)Z"⟩ ⟨"StreamNodes", "isVariable", "(I)Z"⟩ ∈ gG := gkp (q := (⟨"StreamNodes", "isVariable", "(I)Z"⟩, 15)) (gp5 (List.mem_of_getElem? (i := 7) rfl))
theorem se_M_refuse : Cond.selects "StreamNodesModel" ⟨"StreamNodesModel", "refuse", "(IZ)Z"⟩ ⟨"StreamNodesModel", "refuse", "(IZ)Z"⟩ ∈ gG := gkp (q := (⟨"StreamNodesModel", "refuse", "(IZ)Z"⟩, 84)) (gp5 (List.mem_of_getElem? (i := 8) rfl))
theorem se_M_node : Cond.selects "StreamNodesModel" ⟨"StreamNodesModel", "node", "()V"⟩ ⟨"StreamNodesModel", "node", "()V"⟩ ∈ gG := gkp (q := (⟨"StreamNodesModel", "node", "()V"⟩, 84)) (gp5 (List.mem_of_getElem? (i := 9) rfl))
theorem se_M_is : Cond.selects "StreamNodesModel" ⟨"StreamNodesModel", "is", "(Ljava/lang/String;)Z"⟩ ⟨"StreamNodesModel", "is", "(Ljava/lang/String;)Z"⟩ ∈ gG := gkp (q := (⟨"StreamNodesModel", "is", "(Ljava/lang/String;)Z"⟩, 84)) (gp5 (List.mem_of_getElem? (i := 10) rfl))
theorem se_M_peek : Cond.selects "StreamNodesModel" ⟨"StreamNodesModel", "peek", "()I"⟩ ⟨"StreamNodesModel", "peek", "()I"⟩ ∈ gG := gkp (q := (⟨"StreamNodesModel", "peek", "()I"⟩, 84)) (gp5 (List.mem_of_getElem? (i := 11) rfl))
theorem se_M_parts : Cond.selects "StreamNodesModel" ⟨"StreamNodesModel", "parts", "()V"⟩ ⟨"StreamNodesModel", "parts", "()V"⟩ ∈ gG := gkp (q := (⟨"StreamNodesModel", "parts", "()V"⟩, 84)) (gp5 (List.mem_of_getElem? (i := 12) rfl))
theorem se_M_byteAt : Cond.selects "StreamNodesModel" ⟨"StreamNodesModel", "byteAt", "(I)I"⟩ ⟨"StreamNodesModel", "byteAt", "(I)I"⟩ ∈ gG := gkp (q := (⟨"StreamNodesModel", "byteAt", "(I)I"⟩, 84)) (gp5 (List.mem_of_getElem? (i := 13) rfl))
theorem se_M_mustBe : Cond.selects "StreamNodesModel" ⟨"StreamNodesModel", "mustBe", "(Ljava/lang/String;)V"⟩ ⟨"StreamNodesModel", "mustBe", "(Ljava/lang/String;)V"⟩ ∈ gG := gkp (q := (⟨"StreamNodesModel", "mustBe", "(Ljava/lang/String;)V"⟩, 84)) (gp5 (List.mem_of_getElem? (i := 14) rfl))
theorem se_M_cant : Cond.selects "StreamNodesModel" ⟨"StreamNodesModel", "cant", "()LStreamNodesModel$Wrong;"⟩ ⟨"StreamNodesModel", "cant", "()LStreamNodesModel$Wrong;"⟩ ∈ gG := gkp (q := (⟨"StreamNodesModel", "cant", "()LStreamNodesModel$Wrong;"⟩, 84)) (gp5 (List.mem_of_getElem? (i := 15) rfl))
theorem se_M_take : Cond.selects "StreamNodesModel" ⟨"StreamNodesModel", "take", "()V"⟩ ⟨"StreamNodesModel", "take", "()V"⟩ ∈ gG := gkp (q := (⟨"StreamNodesModel", "take", "()V"⟩, 84)) (gp6 (List.mem_of_getElem? (i := 0) rfl))
theorem se_M_nameHere : Cond.selects "StreamNodesModel" ⟨"StreamNodesModel", "nameHere", "()Z"⟩ ⟨"StreamNodesModel", "nameHere", "()Z"⟩ ∈ gG := gkp (q := (⟨"StreamNodesModel", "nameHere", "()Z"⟩, 84)) (gp6 (List.mem_of_getElem? (i := 1) rfl))
theorem se_M_reserved : Cond.selects "StreamNodesModel" ⟨"StreamNodesModel", "reserved", "()Z"⟩ ⟨"StreamNodesModel", "reserved", "()Z"⟩ ∈ gG := gkp (q := (⟨"StreamNodesModel", "reserved", "()Z"⟩, 84)) (gp6 (List.mem_of_getElem? (i := 2) rfl))
theorem se_M_nodeHere : Cond.selects "StreamNodesModel" ⟨"StreamNodesModel", "nodeHere", "()I"⟩ ⟨"StreamNodesModel", "nodeHere", "()I"⟩ ∈ gG := gkp (q := (⟨"StreamNodesModel", "nodeHere", "()I"⟩, 84)) (gp6 (List.mem_of_getElem? (i := 3) rfl))
theorem se_M_spelled : Cond.selects "StreamNodesModel" ⟨"StreamNodesModel", "spelled", "(II)Z"⟩ ⟨"StreamNodesModel", "spelled", "(II)Z"⟩ ∈ gG := gkp (q := (⟨"StreamNodesModel", "spelled", "(II)Z"⟩, 84)) (gp6 (List.mem_of_getElem? (i := 4) rfl))
theorem se_M_groups : Cond.selects "StreamNodesModel" ⟨"StreamNodesModel", "groups", "()V"⟩ ⟨"StreamNodesModel", "groups", "()V"⟩ ∈ gG := gkp (q := (⟨"StreamNodesModel", "groups", "()V"⟩, 84)) (gp6 (List.mem_of_getElem? (i := 5) rfl))
theorem se_M_must : Cond.selects "StreamNodesModel" ⟨"StreamNodesModel", "must", "(I)V"⟩ ⟨"StreamNodesModel", "must", "(I)V"⟩ ∈ gG := gkp (q := (⟨"StreamNodesModel", "must", "(I)V"⟩, 84)) (gp6 (List.mem_of_getElem? (i := 6) rfl))
theorem se_M_group : Cond.selects "StreamNodesModel" ⟨"StreamNodesModel", "group", "(Z)V"⟩ ⟨"StreamNodesModel", "group", "(Z)V"⟩ ∈ gG := gkp (q := (⟨"StreamNodesModel", "group", "(Z)V"⟩, 84)) (gp6 (List.mem_of_getElem? (i := 7) rfl))
theorem se_M_variableHere : Cond.selects "StreamNodesModel" ⟨"StreamNodesModel", "variableHere", "(I)I"⟩ ⟨"StreamNodesModel", "variableHere", "(I)I"⟩ ∈ gG := gkp (q := (⟨"StreamNodesModel", "variableHere", "(I)I"⟩, 84)) (gp6 (List.mem_of_getElem? (i := 8) rfl))
theorem se_M_shallow : Cond.selects "StreamNodesModel" ⟨"StreamNodesModel", "shallow", "(I)V"⟩ ⟨"StreamNodesModel", "shallow", "(I)V"⟩ ∈ gG := gkp (q := (⟨"StreamNodesModel", "shallow", "(I)V"⟩, 84)) (gp6 (List.mem_of_getElem? (i := 9) rfl))
theorem se_M_equation : Cond.selects "StreamNodesModel" ⟨"StreamNodesModel", "equation", "()V"⟩ ⟨"StreamNodesModel", "equation", "()V"⟩ ∈ gG := gkp (q := (⟨"StreamNodesModel", "equation", "()V"⟩, 84)) (gp6 (List.mem_of_getElem? (i := 10) rfl))
theorem se_M_left : Cond.selects "StreamNodesModel" ⟨"StreamNodesModel", "left", "()I"⟩ ⟨"StreamNodesModel", "left", "()I"⟩ ∈ gG := gkp (q := (⟨"StreamNodesModel", "left", "()I"⟩, 84)) (gp6 (List.mem_of_getElem? (i := 11) rfl))
theorem se_M_expression : Cond.selects "StreamNodesModel" ⟨"StreamNodesModel", "expression", "(I)I"⟩ ⟨"StreamNodesModel", "expression", "(I)I"⟩ ∈ gG := gkp (q := (⟨"StreamNodesModel", "expression", "(I)I"⟩, 84)) (gp6 (List.mem_of_getElem? (i := 12) rfl))
theorem se_M_nest : Cond.selects "StreamNodesModel" ⟨"StreamNodesModel", "nest", "(I)I"⟩ ⟨"StreamNodesModel", "nest", "(I)I"⟩ ∈ gG := gkp (q := (⟨"StreamNodesModel", "nest", "(I)I"⟩, 84)) (gp6 (List.mem_of_getElem? (i := 13) rfl))
theorem se_M_make : Cond.selects "StreamNodesModel" ⟨"StreamNodesModel", "make", "(IIII)I"⟩ ⟨"StreamNodesModel", "make", "(IIII)I"⟩ ∈ gG := gkp (q := (⟨"StreamNodesModel", "make", "(IIII)I"⟩, 84)) (gp6 (List.mem_of_getElem? (i := 14) rfl))
theorem se_M_implied : Cond.selects "StreamNodesModel" ⟨"StreamNodesModel", "implied", "(I)I"⟩ ⟨"StreamNodesModel", "implied", "(I)I"⟩ ∈ gG := gkp (q := (⟨"StreamNodesModel", "implied", "(I)I"⟩, 84)) (gp6 (List.mem_of_getElem? (i := 15) rfl))
theorem se_M_either : Cond.selects "StreamNodesModel" ⟨"StreamNodesModel", "either", "(I)I"⟩ ⟨"StreamNodesModel", "either", "(I)I"⟩ ∈ gG := gkp (q := (⟨"StreamNodesModel", "either", "(I)I"⟩, 84)) (gp7 (List.mem_of_getElem? (i := 0) rfl))
theorem se_M_both : Cond.selects "StreamNodesModel" ⟨"StreamNodesModel", "both", "(I)I"⟩ ⟨"StreamNodesModel", "both", "(I)I"⟩ ∈ gG := gkp (q := (⟨"StreamNodesModel", "both", "(I)I"⟩, 84)) (gp7 (List.mem_of_getElem? (i := 1) rfl))
theorem se_M_compared : Cond.selects "StreamNodesModel" ⟨"StreamNodesModel", "compared", "(I)I"⟩ ⟨"StreamNodesModel", "compared", "(I)I"⟩ ∈ gG := gkp (q := (⟨"StreamNodesModel", "compared", "(I)I"⟩, 84)) (gp7 (List.mem_of_getElem? (i := 2) rfl))
theorem se_M_sum : Cond.selects "StreamNodesModel" ⟨"StreamNodesModel", "sum", "(I)I"⟩ ⟨"StreamNodesModel", "sum", "(I)I"⟩ ∈ gG := gkp (q := (⟨"StreamNodesModel", "sum", "(I)I"⟩, 84)) (gp7 (List.mem_of_getElem? (i := 3) rfl))
theorem se_M_product : Cond.selects "StreamNodesModel" ⟨"StreamNodesModel", "product", "(I)I"⟩ ⟨"StreamNodesModel", "product", "(I)I"⟩ ∈ gG := gkp (q := (⟨"StreamNodesModel", "product", "(I)I"⟩, 84)) (gp7 (List.mem_of_getElem? (i := 4) rfl))
theorem se_M_unary : Cond.selects "StreamNodesModel" ⟨"StreamNodesModel", "unary", "(I)I"⟩ ⟨"StreamNodesModel", "unary", "(I)I"⟩ ∈ gG := gkp (q := (⟨"StreamNodesModel", "unary", "(I)I"⟩, 84)) (gp7 (List.mem_of_getElem? (i := 5) rfl))
theorem se_M_atom : Cond.selects "StreamNodesModel" ⟨"StreamNodesModel", "atom", "(I)I"⟩ ⟨"StreamNodesModel", "atom", "(I)I"⟩ ∈ gG := gkp (q := (⟨"StreamNodesModel", "atom", "(I)I"⟩, 84)) (gp7 (List.mem_of_getElem? (i := 6) rfl))
theorem se_M_call : Cond.selects "StreamNodesModel" ⟨"StreamNodesModel", "call", "(II)I"⟩ ⟨"StreamNodesModel", "call", "(II)I"⟩ ∈ gG := gkp (q := (⟨"StreamNodesModel", "call", "(II)I"⟩, 84)) (gp7 (List.mem_of_getElem? (i := 7) rfl))
theorem se_M_two : Cond.selects "StreamNodesModel" ⟨"StreamNodesModel", "two", "(III)I"⟩ ⟨"StreamNodesModel", "two", "(III)I"⟩ ∈ gG := gkp (q := (⟨"StreamNodesModel", "two", "(III)I"⟩, 84)) (gp7 (List.mem_of_getElem? (i := 8) rfl))
theorem se_M_judge : Cond.selects "StreamNodesModel" ⟨"StreamNodesModel", "judge", "(I)V"⟩ ⟨"StreamNodesModel", "judge", "(I)V"⟩ ∈ gG := gkp (q := (⟨"StreamNodesModel", "judge", "(I)V"⟩, 84)) (gp7 (List.mem_of_getElem? (i := 9) rfl))
theorem se_M_look : Cond.selects "StreamNodesModel" ⟨"StreamNodesModel", "look", "(II)V"⟩ ⟨"StreamNodesModel", "look", "(II)V"⟩ ∈ gG := gkp (q := (⟨"StreamNodesModel", "look", "(II)V"⟩, 84)) (gp7 (List.mem_of_getElem? (i := 10) rfl))
theorem se_M_type : Cond.selects "StreamNodesModel" ⟨"StreamNodesModel", "type", "(Z)V"⟩ ⟨"StreamNodesModel", "type", "(Z)V"⟩ ∈ gG := gkp (q := (⟨"StreamNodesModel", "type", "(Z)V"⟩, 84)) (gp7 (List.mem_of_getElem? (i := 11) rfl))
theorem se_M_lookAtClock : Cond.selects "StreamNodesModel" ⟨"StreamNodesModel", "lookAtClock", "(I)V"⟩ ⟨"StreamNodesModel", "lookAtClock", "(I)V"⟩ ∈ gG := gkp (q := (⟨"StreamNodesModel", "lookAtClock", "(I)V"⟩, 84)) (gp7 (List.mem_of_getElem? (i := 12) rfl))
theorem se_M_clockOfVariable : Cond.selects "StreamNodesModel" ⟨"StreamNodesModel", "clockOfVariable", "(I)I"⟩ ⟨"StreamNodesModel", "clockOfVariable", "(I)I"⟩ ∈ gG := gkp (q := (⟨"StreamNodesModel", "clockOfVariable", "(I)I"⟩, 84)) (gp7 (List.mem_of_getElem? (i := 13) rfl))
theorem se_M_together : Cond.selects "StreamNodesModel" ⟨"StreamNodesModel", "together", "(II)I"⟩ ⟨"StreamNodesModel", "together", "(II)I"⟩ ∈ gG := gkp (q := (⟨"StreamNodesModel", "together", "(II)I"⟩, 84)) (gp7 (List.mem_of_getElem? (i := 14) rfl))
theorem se_M_around : Cond.selects "StreamNodesModel" ⟨"StreamNodesModel", "around", "(I)V"⟩ ⟨"StreamNodesModel", "around", "(I)V"⟩ ∈ gG := gkp (q := (⟨"StreamNodesModel", "around", "(I)V"⟩, 84)) (gp7 (List.mem_of_getElem? (i := 15) rfl))
theorem se_M_countParts : Cond.selects "StreamNodesModel" ⟨"StreamNodesModel", "countParts", "(I)V"⟩ ⟨"StreamNodesModel", "countParts", "(I)V"⟩ ∈ gG := gkp (q := (⟨"StreamNodesModel", "countParts", "(I)V"⟩, 84)) (gp8 (List.mem_of_getElem? (i := 0) rfl))
theorem se_M_putIn : Cond.selects "StreamNodesModel" ⟨"StreamNodesModel", "putIn", "(III)I"⟩ ⟨"StreamNodesModel", "putIn", "(III)I"⟩ ∈ gG := gkp (q := (⟨"StreamNodesModel", "putIn", "(III)I"⟩, 84)) (gp8 (List.mem_of_getElem? (i := 1) rfl))
theorem se_M_causes_0 : Cond.selects "StreamNodesModel" ⟨"StreamNodesModel", "causes", "(I)V"⟩ ⟨"StreamNodesModel", "causes", "(I)V"⟩ ∈ gG := gkp (q := (⟨"StreamNodesModel", "causes", "(I)V"⟩, 84)) (gp8 (List.mem_of_getElem? (i := 2) rfl))
theorem se_M_clockVariable : Cond.selects "StreamNodesModel" ⟨"StreamNodesModel", "clockVariable", "(II)I"⟩ ⟨"StreamNodesModel", "clockVariable", "(II)I"⟩ ∈ gG := gkp (q := (⟨"StreamNodesModel", "clockVariable", "(II)I"⟩, 84)) (gp8 (List.mem_of_getElem? (i := 3) rfl))
theorem se_M_cause : Cond.selects "StreamNodesModel" ⟨"StreamNodesModel", "cause", "(I)V"⟩ ⟨"StreamNodesModel", "cause", "(I)V"⟩ ∈ gG := gkp (q := (⟨"StreamNodesModel", "cause", "(I)V"⟩, 84)) (gp8 (List.mem_of_getElem? (i := 4) rfl))
theorem se_M_argument : Cond.selects "StreamNodesModel" ⟨"StreamNodesModel", "argument", "(II)I"⟩ ⟨"StreamNodesModel", "argument", "(II)I"⟩ ∈ gG := gkp (q := (⟨"StreamNodesModel", "argument", "(II)I"⟩, 84)) (gp8 (List.mem_of_getElem? (i := 5) rfl))
theorem se_M_partCauses : Cond.selects "StreamNodesModel" ⟨"StreamNodesModel", "partCauses", "(II)V"⟩ ⟨"StreamNodesModel", "partCauses", "(II)V"⟩ ∈ gG := gkp (q := (⟨"StreamNodesModel", "partCauses", "(II)V"⟩, 84)) (gp8 (List.mem_of_getElem? (i := 6) rfl))
theorem se_M_output : Cond.selects "StreamNodesModel" ⟨"StreamNodesModel", "output", "(III)I"⟩ ⟨"StreamNodesModel", "output", "(III)I"⟩ ∈ gG := gkp (q := (⟨"StreamNodesModel", "output", "(III)I"⟩, 84)) (gp8 (List.mem_of_getElem? (i := 7) rfl))
theorem se_M_child : Cond.selects "StreamNodesModel" ⟨"StreamNodesModel", "child", "(II)I"⟩ ⟨"StreamNodesModel", "child", "(II)I"⟩ ∈ gG := gkp (q := (⟨"StreamNodesModel", "child", "(II)I"⟩, 84)) (gp8 (List.mem_of_getElem? (i := 8) rfl))
theorem se_M_ordered : Cond.selects "StreamNodesModel" ⟨"StreamNodesModel", "ordered", "()V"⟩ ⟨"StreamNodesModel", "ordered", "()V"⟩ ∈ gG := gkp (q := (⟨"StreamNodesModel", "ordered", "()V"⟩, 84)) (gp8 (List.mem_of_getElem? (i := 9) rfl))
theorem se_M_caused : Cond.selects "StreamNodesModel" ⟨"StreamNodesModel", "caused", "(II)Z"⟩ ⟨"StreamNodesModel", "caused", "(II)Z"⟩ ∈ gG := gkp (q := (⟨"StreamNodesModel", "caused", "(II)Z"⟩, 84)) (gp8 (List.mem_of_getElem? (i := 10) rfl))
theorem se_M_placeOfVariable : Cond.selects "StreamNodesModel" ⟨"StreamNodesModel", "placeOfVariable", "(I)I"⟩ ⟨"StreamNodesModel", "placeOfVariable", "(I)I"⟩ ∈ gG := gkp (q := (⟨"StreamNodesModel", "placeOfVariable", "(I)I"⟩, 84)) (gp8 (List.mem_of_getElem? (i := 11) rfl))
theorem se_M_instant : Cond.selects "StreamNodesModel" ⟨"StreamNodesModel", "instant", "()V"⟩ ⟨"StreamNodesModel", "instant", "()V"⟩ ∈ gG := gkp (q := (⟨"StreamNodesModel", "instant", "()V"⟩, 84)) (gp8 (List.mem_of_getElem? (i := 12) rfl))
theorem se_M_present : Cond.selects "StreamNodesModel" ⟨"StreamNodesModel", "present", "(II)Z"⟩ ⟨"StreamNodesModel", "present", "(II)Z"⟩ ∈ gG := gkp (q := (⟨"StreamNodesModel", "present", "(II)Z"⟩, 84)) (gp8 (List.mem_of_getElem? (i := 13) rfl))
theorem se_M_partOf : Cond.selects "StreamNodesModel" ⟨"StreamNodesModel", "partOf", "(II)I"⟩ ⟨"StreamNodesModel", "partOf", "(II)I"⟩ ∈ gG := gkp (q := (⟨"StreamNodesModel", "partOf", "(II)I"⟩, 84)) (gp8 (List.mem_of_getElem? (i := 14) rfl))
theorem se_M_work : Cond.selects "StreamNodesModel" ⟨"StreamNodesModel", "work", "(II)V"⟩ ⟨"StreamNodesModel", "work", "(II)V"⟩ ∈ gG := gkp (q := (⟨"StreamNodesModel", "work", "(II)V"⟩, 84)) (gp8 (List.mem_of_getElem? (i := 15) rfl))
theorem se_M_remember : Cond.selects "StreamNodesModel" ⟨"StreamNodesModel", "remember", "(I)V"⟩ ⟨"StreamNodesModel", "remember", "(I)V"⟩ ∈ gG := gkp (q := (⟨"StreamNodesModel", "remember", "(I)V"⟩, 84)) (gp9 (List.mem_of_getElem? (i := 0) rfl))
theorem se_M_mainVariables : Cond.selects "StreamNodesModel" ⟨"StreamNodesModel", "mainVariables", "()I"⟩ ⟨"StreamNodesModel", "mainVariables", "()I"⟩ ∈ gG := gkp (q := (⟨"StreamNodesModel", "mainVariables", "()I"⟩, 84)) (gp9 (List.mem_of_getElem? (i := 1) rfl))
theorem in_L : Cond.initialized "StreamNodesLaw" ∈ gG := gk1 (List.mem_of_getElem? (i := 0) rfl) rfl
theorem in_S : Cond.initialized "StreamNodes" ∈ gG := gk1 (List.mem_of_getElem? (i := 1) rfl) rfl
theorem in_Str : Cond.initialized "java/lang/String" ∈ gG := gk1 (List.mem_of_getElem? (i := 2) rfl) rfl
theorem in_java_lang_StringLatin1 : Cond.initialized "java/lang/StringLatin1" ∈ gG := gk1 (List.mem_of_getElem? (i := 3) rfl) rfl
theorem in_jdk_internal_util_Preconditions : Cond.initialized "jdk/internal/util/Preconditions" ∈ gG := gk1 (List.mem_of_getElem? (i := 4) rfl) rfl
theorem in_java_lang_StringUTF16 : Cond.initialized "java/lang/StringUTF16" ∈ gG := gk1 (List.mem_of_getElem? (i := 5) rfl) rfl
theorem in_Tk : Cond.initialized "StreamNodes$Tokens" ∈ gG := gk1 (List.mem_of_getElem? (i := 6) rfl) rfl
theorem in_Wd : Cond.initialized "StreamNodes$Words" ∈ gG := gk1 (List.mem_of_getElem? (i := 7) rfl) rfl
theorem in_Nd : Cond.initialized "StreamNodes$Nodes" ∈ gG := gk1 (List.mem_of_getElem? (i := 8) rfl) rfl
theorem in_Cd : Cond.initialized "StreamNodes$Code" ∈ gG := gk1 (List.mem_of_getElem? (i := 9) rfl) rfl
theorem in_Nr : Cond.initialized "StreamNodes$NodeReader" ∈ gG := gk1 (List.mem_of_getElem? (i := 10) rfl) rfl
theorem in_Er : Cond.initialized "StreamNodes$ExpressionReader" ∈ gG := gk1 (List.mem_of_getElem? (i := 11) rfl) rfl
theorem in_Ck : Cond.initialized "StreamNodes$Checker" ∈ gG := gk1 (List.mem_of_getElem? (i := 12) rfl) rfl
theorem in_Sl : Cond.initialized "StreamNodes$Slots" ∈ gG := gk1 (List.mem_of_getElem? (i := 13) rfl) rfl
theorem in_Lk : Cond.initialized "StreamNodes$Linker" ∈ gG := gk1 (List.mem_of_getElem? (i := 14) rfl) rfl
theorem in_Od : Cond.initialized "StreamNodes$Order" ∈ gG := gk1 (List.mem_of_getElem? (i := 15) rfl) rfl
theorem in_Pg : Cond.initialized "StreamNodes$Program" ∈ gG := gk1 (List.mem_of_getElem? (i := 16) rfl) rfl
theorem in_M : Cond.initialized "StreamNodesModel" ∈ gG := gk1 (List.mem_of_getElem? (i := 17) rfl) rfl
theorem in_java_lang_Throwable : Cond.initialized "java/lang/Throwable" ∈ gG := gk1 (List.mem_of_getElem? (i := 18) rfl) rfl
theorem in_java_lang_Exception : Cond.initialized "java/lang/Exception" ∈ gG := gk1 (List.mem_of_getElem? (i := 19) rfl) rfl
theorem in_java_lang_RuntimeException : Cond.initialized "java/lang/RuntimeException" ∈ gG := gk1 (List.mem_of_getElem? (i := 20) rfl) rfl
theorem in_java_lang_IllegalStateException : Cond.initialized "java/lang/IllegalStateException" ∈ gG := gk1 (List.mem_of_getElem? (i := 21) rfl) rfl
theorem in_java_lang_IllegalArgumentException : Cond.initialized "java/lang/IllegalArgumentException" ∈ gG := gk1 (List.mem_of_getElem? (i := 22) rfl) rfl
theorem in_java_util_Arrays : Cond.initialized "java/util/Arrays" ∈ gG := gk1 (List.mem_of_getElem? (i := 23) rfl) rfl
theorem in_java_lang_Math : Cond.initialized "java/lang/Math" ∈ gG := gk1 (List.mem_of_getElem? (i := 24) rfl) rfl
theorem in_Wr : Cond.initialized "StreamNodesModel$Wrong" ∈ gG := gk1 (List.mem_of_getElem? (i := 25) rfl) rfl
theorem in_java_util_NoSuchElementException : Cond.initialized "java/util/NoSuchElementException" ∈ gG := gk1 (List.mem_of_getElem? (i := 26) rfl) rfl
theorem in_java_lang_System : Cond.initialized "java/lang/System" ∈ gG := gk1 (List.mem_of_getElem? (i := 27) rfl) rfl
theorem cl_L_8 : Cond.classLink "StreamNodesLaw" 8 "StreamNodes" ∈ gG := gk1 (List.mem_of_getElem? (i := 28) rfl) rfl
theorem ia_S : Cond.instantiable "StreamNodes" 15 ∈ gG := gk1 (List.mem_of_getElem? (i := 29) rfl) rfl
theorem ml_L_51 : Cond.methodLink "StreamNodesLaw" 51 ⟨"StreamNodes", "<init>", "()V"⟩ ∈ gG := gk1 (List.mem_of_getElem? (i := 30) rfl) rfl
theorem im_S_init : Cond.instanceMethod ⟨"StreamNodes", "<init>", "()V"⟩ ∈ gG := gk1 (List.mem_of_getElem? (i := 31) rfl) rfl
theorem co_S_init : Cond.code ⟨"StreamNodes", "<init>", "()V"⟩ prog_1_method_1_code 2 none ∈ gG := gk1 (List.mem_of_getElem? (i := 32) rfl) rfl
theorem ml_S_3 : Cond.methodLink "StreamNodes" 3 ⟨"java/lang/Object", "<init>", "()V"⟩ ∈ gG := gk1 (List.mem_of_getElem? (i := 33) rfl) rfl
theorem im_java_lang_Object_init : Cond.instanceMethod ⟨"java/lang/Object", "<init>", "()V"⟩ ∈ gG := gk1 (List.mem_of_getElem? (i := 34) rfl) rfl
theorem co_java_lang_Object_init : Cond.code ⟨"java/lang/Object", "<init>", "()V"⟩ object_method_1_code 1 none ∈ gG := gk1 (List.mem_of_getElem? (i := 35) rfl) rfl
theorem ct_S_13 : Cond.constant "StreamNodes" 13 65536 ∈ gG := gk1 (List.mem_of_getElem? (i := 36) rfl) rfl
theorem nt_sr_S_14 : Cond.stringRef "StreamNodes" 14 "node returns var let tel int bool when not and or xor if then else pre current fby div mod true false " ∈ tables_1 := gm1 (List.mem_of_getElem? (i := 37) rfl)
theorem ml_S_16 : Cond.methodLink "StreamNodes" 16 ⟨"java/lang/String", "length", "()I"⟩ ∈ gG := gk1 (List.mem_of_getElem? (i := 38) rfl) rfl
theorem im_Str_length : Cond.instanceMethod ⟨"java/lang/String", "length", "()I"⟩ ∈ gG := gk1 (List.mem_of_getElem? (i := 39) rfl) rfl
theorem se_Str_length : Cond.selects "java/lang/String" ⟨"java/lang/String", "length", "()I"⟩ ⟨"java/lang/String", "length", "()I"⟩ ∈ gG := gk1 (List.mem_of_getElem? (i := 40) rfl) rfl
theorem co_Str_length : Cond.code ⟨"java/lang/String", "length", "()I"⟩ prog_21_method_54_code 1 (some .int) ∈ gG := gk1 (List.mem_of_getElem? (i := 41) rfl) rfl
theorem ml_Str_335 : Cond.methodLink "java/lang/String" 335 ⟨"java/lang/String", "coder", "()B"⟩ ∈ gG := gk1 (List.mem_of_getElem? (i := 42) rfl) rfl
theorem im_Str_coder : Cond.instanceMethod ⟨"java/lang/String", "coder", "()B"⟩ ∈ gG := gk1 (List.mem_of_getElem? (i := 43) rfl) rfl
theorem se_Str_coder : Cond.selects "java/lang/String" ⟨"java/lang/String", "coder", "()B"⟩ ⟨"java/lang/String", "coder", "()B"⟩ ∈ gG := gk1 (List.mem_of_getElem? (i := 44) rfl) rfl
theorem co_Str_coder : Cond.code ⟨"java/lang/String", "coder", "()B"⟩ prog_21_method_152_code 1 (some .byte) ∈ gG := gk1 (List.mem_of_getElem? (i := 45) rfl) rfl
theorem fl_Str_38 : Cond.fieldLink "java/lang/String" 38 "java/lang/String" "COMPACT_STRINGS" "Z" ∈ gG := gk1 (List.mem_of_getElem? (i := 46) rfl) rfl
theorem ml_S_30 : Cond.methodLink "StreamNodes" 30 ⟨"java/lang/String", "charAt", "(I)C"⟩ ∈ gG := gk1 (List.mem_of_getElem? (i := 48) rfl) rfl
theorem im_Str_charAt : Cond.instanceMethod ⟨"java/lang/String", "charAt", "(I)C"⟩ ∈ gG := gk1 (List.mem_of_getElem? (i := 49) rfl) rfl
theorem se_Str_charAt : Cond.selects "java/lang/String" ⟨"java/lang/String", "charAt", "(I)C"⟩ ⟨"java/lang/String", "charAt", "(I)C"⟩ ∈ gG := gk1 (List.mem_of_getElem? (i := 50) rfl) rfl
theorem co_Str_charAt : Cond.code ⟨"java/lang/String", "charAt", "(I)C"⟩ prog_21_method_56_code 2 (some .char) ∈ gG := gk1 (List.mem_of_getElem? (i := 51) rfl) rfl
theorem ml_Str_492 : Cond.methodLink "java/lang/String" 492 ⟨"java/lang/String", "isLatin1", "()Z"⟩ ∈ gG := gk1 (List.mem_of_getElem? (i := 52) rfl) rfl
theorem im_Str_isLatin1 : Cond.instanceMethod ⟨"java/lang/String", "isLatin1", "()Z"⟩ ∈ gG := gk1 (List.mem_of_getElem? (i := 53) rfl) rfl
theorem se_Str_isLatin1 : Cond.selects "java/lang/String" ⟨"java/lang/String", "isLatin1", "()Z"⟩ ⟨"java/lang/String", "isLatin1", "()Z"⟩ ∈ gG := gk1 (List.mem_of_getElem? (i := 54) rfl) rfl
theorem co_Str_isLatin1 : Cond.code ⟨"java/lang/String", "isLatin1", "()Z"⟩ prog_21_method_154_code 1 (some .boolean) ∈ gG := gk1 (List.mem_of_getElem? (i := 55) rfl) rfl
theorem ml_Str_495 : Cond.methodLink "java/lang/String" 495 ⟨"java/lang/StringLatin1", "charAt", "([BI)C"⟩ ∈ gG := gk1 (List.mem_of_getElem? (i := 56) rfl) rfl
theorem sm_java_lang_StringLatin1_charAt : Cond.static ⟨"java/lang/StringLatin1", "charAt", "([BI)C"⟩ ∈ gG := gk1 (List.mem_of_getElem? (i := 57) rfl) rfl
theorem co_java_lang_StringLatin1_charAt : Cond.code ⟨"java/lang/StringLatin1", "charAt", "([BI)C"⟩ prog_22_method_2_code 2 (some .char) ∈ gG := gk1 (List.mem_of_getElem? (i := 58) rfl) rfl
theorem ml_java_lang_StringLatin1_9 : Cond.methodLink "java/lang/StringLatin1" 9 ⟨"java/lang/String", "checkIndex", "(II)V"⟩ ∈ gG := gk1 (List.mem_of_getElem? (i := 59) rfl) rfl
theorem sm_Str_checkIndex : Cond.static ⟨"java/lang/String", "checkIndex", "(II)V"⟩ ∈ gG := gk1 (List.mem_of_getElem? (i := 60) rfl) rfl
theorem co_Str_checkIndex : Cond.code ⟨"java/lang/String", "checkIndex", "(II)V"⟩ prog_21_method_155_code 2 none ∈ gG := gk1 (List.mem_of_getElem? (i := 61) rfl) rfl
theorem fl_Str_1053 : Cond.fieldLink "java/lang/String" 1053 "jdk/internal/util/Preconditions" "SIOOBE_FORMATTER" "Ljava/util/function/BiFunction;" ∈ gG := gk1 (List.mem_of_getElem? (i := 62) rfl) rfl
theorem ml_Str_1059 : Cond.methodLink "java/lang/String" 1059 ⟨"jdk/internal/util/Preconditions", "checkIndex", "(IILjava/util/function/BiFunction;)I"⟩ ∈ gG := gk1 (List.mem_of_getElem? (i := 64) rfl) rfl
theorem sm_jdk_internal_util_Preconditions_checkIndex : Cond.static ⟨"jdk/internal/util/Preconditions", "checkIndex", "(IILjava/util/function/BiFunction;)I"⟩ ∈ gG := gk1 (List.mem_of_getElem? (i := 65) rfl) rfl
theorem co_jdk_internal_util_Preconditions_checkIndex : Cond.code ⟨"jdk/internal/util/Preconditions", "checkIndex", "(IILjava/util/function/BiFunction;)I"⟩ prog_28_method_11_code 3 (some .int) ∈ gG := gk1 (List.mem_of_getElem? (i := 66) rfl) rfl
theorem ml_Str_498 : Cond.methodLink "java/lang/String" 498 ⟨"java/lang/StringUTF16", "charAt", "([BI)C"⟩ ∈ gG := gk1 (List.mem_of_getElem? (i := 67) rfl) rfl
theorem sm_java_lang_StringUTF16_charAt : Cond.static ⟨"java/lang/StringUTF16", "charAt", "([BI)C"⟩ ∈ gG := gk1 (List.mem_of_getElem? (i := 68) rfl) rfl
theorem co_java_lang_StringUTF16_charAt : Cond.code ⟨"java/lang/StringUTF16", "charAt", "([BI)C"⟩ prog_23_method_83_code 2 (some .char) ∈ gG := gk1 (List.mem_of_getElem? (i := 69) rfl) rfl
theorem ml_java_lang_StringUTF16_67 : Cond.methodLink "java/lang/StringUTF16" 67 ⟨"java/lang/StringUTF16", "checkIndex", "(I[B)V"⟩ ∈ gG := gk1 (List.mem_of_getElem? (i := 70) rfl) rfl
theorem sm_java_lang_StringUTF16_checkIndex : Cond.static ⟨"java/lang/StringUTF16", "checkIndex", "(I[B)V"⟩ ∈ gG := gk1 (List.mem_of_getElem? (i := 71) rfl) rfl
theorem co_java_lang_StringUTF16_checkIndex : Cond.code ⟨"java/lang/StringUTF16", "checkIndex", "(I[B)V"⟩ prog_23_method_91_code 2 none ∈ gG := gk1 (List.mem_of_getElem? (i := 72) rfl) rfl
theorem ml_java_lang_StringUTF16_48 : Cond.methodLink "java/lang/StringUTF16" 48 ⟨"java/lang/StringUTF16", "length", "([B)I"⟩ ∈ gG := gk1 (List.mem_of_getElem? (i := 73) rfl) rfl
theorem sm_java_lang_StringUTF16_length : Cond.static ⟨"java/lang/StringUTF16", "length", "([B)I"⟩ ∈ gG := gk1 (List.mem_of_getElem? (i := 74) rfl) rfl
theorem co_java_lang_StringUTF16_length : Cond.code ⟨"java/lang/StringUTF16", "length", "([B)I"⟩ prog_23_method_6_code 1 (some .int) ∈ gG := gk1 (List.mem_of_getElem? (i := 75) rfl) rfl
theorem ml_java_lang_StringUTF16_414 : Cond.methodLink "java/lang/StringUTF16" 414 ⟨"java/lang/String", "checkIndex", "(II)V"⟩ ∈ gG := gk1 (List.mem_of_getElem? (i := 76) rfl) rfl
theorem ml_java_lang_StringUTF16_71 : Cond.methodLink "java/lang/StringUTF16" 71 ⟨"java/lang/StringUTF16", "getChar", "([BI)C"⟩ ∈ gG := gk1 (List.mem_of_getElem? (i := 77) rfl) rfl
theorem sm_java_lang_StringUTF16_getChar : Cond.static ⟨"java/lang/StringUTF16", "getChar", "([BI)C"⟩ ∈ gG := gk1 (List.mem_of_getElem? (i := 78) rfl) rfl
theorem co_java_lang_StringUTF16_getChar : Cond.code ⟨"java/lang/StringUTF16", "getChar", "([BI)C"⟩ prog_23_method_5_code 2 (some .char) ∈ gG := gk1 (List.mem_of_getElem? (i := 79) rfl) rfl
theorem fl_java_lang_StringUTF16_44 : Cond.fieldLink "java/lang/StringUTF16" 44 "java/lang/StringUTF16" "$assertionsDisabled" "Z" ∈ gG := gk1 (List.mem_of_getElem? (i := 80) rfl) rfl
theorem fl_java_lang_StringUTF16_59 : Cond.fieldLink "java/lang/StringUTF16" 59 "java/lang/StringUTF16" "HI_BYTE_SHIFT" "I" ∈ gG := gk1 (List.mem_of_getElem? (i := 82) rfl) rfl
theorem fl_java_lang_StringUTF16_63 : Cond.fieldLink "java/lang/StringUTF16" 63 "java/lang/StringUTF16" "LO_BYTE_SHIFT" "I" ∈ gG := gk1 (List.mem_of_getElem? (i := 84) rfl) rfl
theorem cl_S_34 : Cond.classLink "StreamNodes" 34 "StreamNodes$Tokens" ∈ gG := gk1 (List.mem_of_getElem? (i := 86) rfl) rfl
theorem ia_Tk : Cond.instantiable "StreamNodes$Tokens" 9 ∈ gG := gk1 (List.mem_of_getElem? (i := 87) rfl) rfl
theorem ml_S_36 : Cond.methodLink "StreamNodes" 36 ⟨"StreamNodes$Tokens", "<init>", "([B)V"⟩ ∈ gG := gk1 (List.mem_of_getElem? (i := 88) rfl) rfl
theorem im_Tk_init : Cond.instanceMethod ⟨"StreamNodes$Tokens", "<init>", "([B)V"⟩ ∈ gG := gk1 (List.mem_of_getElem? (i := 89) rfl) rfl
theorem co_Tk_init : Cond.code ⟨"StreamNodes$Tokens", "<init>", "([B)V"⟩ prog_11_method_1_code 2 none ∈ gG := gk1 (List.mem_of_getElem? (i := 90) rfl) rfl
theorem ml_Tk_3 : Cond.methodLink "StreamNodes$Tokens" 3 ⟨"java/lang/Object", "<init>", "()V"⟩ ∈ gG := gk1 (List.mem_of_getElem? (i := 91) rfl) rfl
theorem ct_Tk_9 : Cond.constant "StreamNodes$Tokens" 9 65537 ∈ gG := gk1 (List.mem_of_getElem? (i := 92) rfl) rfl
theorem cl_Tk_26 : Cond.classLink "StreamNodes$Tokens" 26 "StreamNodes$Words" ∈ gG := gk1 (List.mem_of_getElem? (i := 93) rfl) rfl
theorem ia_Wd : Cond.instantiable "StreamNodes$Words" 9 ∈ gG := gk1 (List.mem_of_getElem? (i := 94) rfl) rfl
theorem ml_Tk_28 : Cond.methodLink "StreamNodes$Tokens" 28 ⟨"StreamNodes$Words", "<init>", "([B)V"⟩ ∈ gG := gk1 (List.mem_of_getElem? (i := 95) rfl) rfl
theorem im_Wd_init : Cond.instanceMethod ⟨"StreamNodes$Words", "<init>", "([B)V"⟩ ∈ gG := gk1 (List.mem_of_getElem? (i := 96) rfl) rfl
theorem co_Wd_init : Cond.code ⟨"StreamNodes$Words", "<init>", "([B)V"⟩ prog_12_method_1_code 2 none ∈ gG := gk1 (List.mem_of_getElem? (i := 97) rfl) rfl
theorem ml_Wd_3 : Cond.methodLink "StreamNodes$Words" 3 ⟨"java/lang/Object", "<init>", "()V"⟩ ∈ gG := gk1 (List.mem_of_getElem? (i := 98) rfl) rfl
theorem fl_Wd_33 : Cond.fieldLink "StreamNodes$Words" 33 "StreamNodes$Words" "text" "[B" ∈ gG := gk1 (List.mem_of_getElem? (i := 99) rfl) rfl
theorem fl_Wd_11 : Cond.fieldLink "StreamNodes$Words" 11 "StreamNodes$Words" "head" "[I" ∈ gG := gk1 (List.mem_of_getElem? (i := 100) rfl) rfl
theorem fl_Wd_15 : Cond.fieldLink "StreamNodes$Words" 15 "StreamNodes$Words" "from" "[I" ∈ gG := gk1 (List.mem_of_getElem? (i := 101) rfl) rfl
theorem fl_Wd_18 : Cond.fieldLink "StreamNodes$Words" 18 "StreamNodes$Words" "length" "[I" ∈ gG := gk1 (List.mem_of_getElem? (i := 102) rfl) rfl
theorem fl_Wd_21 : Cond.fieldLink "StreamNodes$Words" 21 "StreamNodes$Words" "next" "[I" ∈ gG := gk1 (List.mem_of_getElem? (i := 103) rfl) rfl
theorem fl_Wd_24 : Cond.fieldLink "StreamNodes$Words" 24 "StreamNodes$Words" "variable" "[I" ∈ gG := gk1 (List.mem_of_getElem? (i := 104) rfl) rfl
theorem fl_Er_95 : Cond.fieldLink "StreamNodes$ExpressionReader" 95 "StreamNodes$Words" "variable" "[I" ∈ gG := gk1 (List.mem_of_getElem? (i := 105) rfl) rfl
theorem fl_Nr_146 : Cond.fieldLink "StreamNodes$NodeReader" 146 "StreamNodes$Words" "variable" "[I" ∈ gG := gk1 (List.mem_of_getElem? (i := 106) rfl) rfl
theorem fl_Wd_27 : Cond.fieldLink "StreamNodes$Words" 27 "StreamNodes$Words" "owner" "[I" ∈ gG := gk1 (List.mem_of_getElem? (i := 107) rfl) rfl
theorem fl_Er_87 : Cond.fieldLink "StreamNodes$ExpressionReader" 87 "StreamNodes$Words" "owner" "[I" ∈ gG := gk1 (List.mem_of_getElem? (i := 108) rfl) rfl
theorem fl_Nr_143 : Cond.fieldLink "StreamNodes$NodeReader" 143 "StreamNodes$Words" "owner" "[I" ∈ gG := gk1 (List.mem_of_getElem? (i := 109) rfl) rfl
theorem fl_Wd_30 : Cond.fieldLink "StreamNodes$Words" 30 "StreamNodes$Words" "node" "[I" ∈ gG := gk1 (List.mem_of_getElem? (i := 110) rfl) rfl
theorem fl_Nr_89 : Cond.fieldLink "StreamNodes$NodeReader" 89 "StreamNodes$Words" "node" "[I" ∈ gG := gk1 (List.mem_of_getElem? (i := 111) rfl) rfl
theorem fl_Er_144 : Cond.fieldLink "StreamNodes$ExpressionReader" 144 "StreamNodes$Words" "node" "[I" ∈ gG := gk1 (List.mem_of_getElem? (i := 112) rfl) rfl
theorem fl_Wd_43 : Cond.fieldLink "StreamNodes$Words" 43 "StreamNodes$Words" "size" "I" ∈ gG := gk1 (List.mem_of_getElem? (i := 113) rfl) rfl
theorem nt_su_Wd : Cond.superclass "StreamNodes$Words" "java/lang/Object" ∈ tables_1 := gm1 (List.mem_of_getElem? (i := 132) rfl)
theorem ac_int : Cond.arrayClass .int ∈ gG := gk1 (List.mem_of_getElem? (i := 133) rfl) rfl
theorem ac_byte : Cond.arrayClass .byte ∈ gG := gk1 (List.mem_of_getElem? (i := 134) rfl) rfl
theorem fl_Tk_22 : Cond.fieldLink "StreamNodes$Tokens" 22 "StreamNodes$Tokens" "text" "[B" ∈ gG := gk1 (List.mem_of_getElem? (i := 135) rfl) rfl
theorem fl_Tk_31 : Cond.fieldLink "StreamNodes$Tokens" 31 "StreamNodes$Tokens" "words" "LStreamNodes$Words;" ∈ gG := gk1 (List.mem_of_getElem? (i := 136) rfl) rfl
theorem fl_Er_83 : Cond.fieldLink "StreamNodes$ExpressionReader" 83 "StreamNodes$Tokens" "words" "LStreamNodes$Words;" ∈ gG := gk1 (List.mem_of_getElem? (i := 137) rfl) rfl
theorem fl_Nr_85 : Cond.fieldLink "StreamNodes$NodeReader" 85 "StreamNodes$Tokens" "words" "LStreamNodes$Words;" ∈ gG := gk1 (List.mem_of_getElem? (i := 138) rfl) rfl
theorem fl_Tk_10 : Cond.fieldLink "StreamNodes$Tokens" 10 "StreamNodes$Tokens" "kind" "[I" ∈ gG := gk1 (List.mem_of_getElem? (i := 139) rfl) rfl
theorem fl_Tk_16 : Cond.fieldLink "StreamNodes$Tokens" 16 "StreamNodes$Tokens" "place" "[I" ∈ gG := gk1 (List.mem_of_getElem? (i := 140) rfl) rfl
theorem fl_Tk_19 : Cond.fieldLink "StreamNodes$Tokens" 19 "StreamNodes$Tokens" "item" "[I" ∈ gG := gk1 (List.mem_of_getElem? (i := 141) rfl) rfl
theorem fl_Er_77 : Cond.fieldLink "StreamNodes$ExpressionReader" 77 "StreamNodes$Tokens" "item" "[I" ∈ gG := gk1 (List.mem_of_getElem? (i := 142) rfl) rfl
theorem fl_Tk_38 : Cond.fieldLink "StreamNodes$Tokens" 38 "StreamNodes$Tokens" "size" "I" ∈ gG := gk1 (List.mem_of_getElem? (i := 143) rfl) rfl
theorem fl_Er_66 : Cond.fieldLink "StreamNodes$ExpressionReader" 66 "StreamNodes$Tokens" "size" "I" ∈ gG := gk1 (List.mem_of_getElem? (i := 144) rfl) rfl
theorem fl_Nr_74 : Cond.fieldLink "StreamNodes$NodeReader" 74 "StreamNodes$Tokens" "size" "I" ∈ gG := gk1 (List.mem_of_getElem? (i := 145) rfl) rfl
theorem fl_Tk_42 : Cond.fieldLink "StreamNodes$Tokens" 42 "StreamNodes$Tokens" "now" "I" ∈ gG := gk1 (List.mem_of_getElem? (i := 146) rfl) rfl
theorem fl_Er_80 : Cond.fieldLink "StreamNodes$ExpressionReader" 80 "StreamNodes$Tokens" "now" "I" ∈ gG := gk1 (List.mem_of_getElem? (i := 147) rfl) rfl
theorem fl_Tk_45 : Cond.fieldLink "StreamNodes$Tokens" 45 "StreamNodes$Tokens" "faultKind" "I" ∈ gG := gk1 (List.mem_of_getElem? (i := 148) rfl) rfl
theorem fl_S_136 : Cond.fieldLink "StreamNodes" 136 "StreamNodes$Tokens" "faultKind" "I" ∈ gG := gk1 (List.mem_of_getElem? (i := 149) rfl) rfl
theorem fl_Tk_48 : Cond.fieldLink "StreamNodes$Tokens" 48 "StreamNodes$Tokens" "faultPlace" "I" ∈ gG := gk1 (List.mem_of_getElem? (i := 150) rfl) rfl
theorem fl_S_167 : Cond.fieldLink "StreamNodes" 167 "StreamNodes$Tokens" "faultPlace" "I" ∈ gG := gk1 (List.mem_of_getElem? (i := 151) rfl) rfl
theorem nt_su_Tk : Cond.superclass "StreamNodes$Tokens" "java/lang/Object" ∈ tables_1 := gm1 (List.mem_of_getElem? (i := 170) rfl)
theorem cl_S_43 : Cond.classLink "StreamNodes" 43 "StreamNodes$Nodes" ∈ gG := gk1 (List.mem_of_getElem? (i := 171) rfl) rfl
theorem ia_Nd : Cond.instantiable "StreamNodes$Nodes" 16 ∈ gG := gk1 (List.mem_of_getElem? (i := 172) rfl) rfl
theorem im_Nd_init : Cond.instanceMethod ⟨"StreamNodes$Nodes", "<init>", "()V"⟩ ∈ gG := gk1 (List.mem_of_getElem? (i := 174) rfl) rfl
theorem co_Nd_init : Cond.code ⟨"StreamNodes$Nodes", "<init>", "()V"⟩ prog_7_method_1_code 1 none ∈ gG := gk1 (List.mem_of_getElem? (i := 175) rfl) rfl
theorem ml_Nd_3 : Cond.methodLink "StreamNodes$Nodes" 3 ⟨"java/lang/Object", "<init>", "()V"⟩ ∈ gG := gk1 (List.mem_of_getElem? (i := 176) rfl) rfl
theorem fl_Nd_9 : Cond.fieldLink "StreamNodes$Nodes" 9 "StreamNodes$Nodes" "word" "[I" ∈ gG := gk1 (List.mem_of_getElem? (i := 177) rfl) rfl
theorem fl_Nr_95 : Cond.fieldLink "StreamNodes$NodeReader" 95 "StreamNodes$Nodes" "word" "[I" ∈ gG := gk1 (List.mem_of_getElem? (i := 178) rfl) rfl
theorem fl_Nd_15 : Cond.fieldLink "StreamNodes$Nodes" 15 "StreamNodes$Nodes" "first" "[I" ∈ gG := gk1 (List.mem_of_getElem? (i := 179) rfl) rfl
theorem fl_Ck_34 : Cond.fieldLink "StreamNodes$Checker" 34 "StreamNodes$Nodes" "first" "[I" ∈ gG := gk1 (List.mem_of_getElem? (i := 180) rfl) rfl
theorem fl_Lk_98 : Cond.fieldLink "StreamNodes$Linker" 98 "StreamNodes$Nodes" "first" "[I" ∈ gG := gk1 (List.mem_of_getElem? (i := 181) rfl) rfl
theorem fl_Er_112 : Cond.fieldLink "StreamNodes$ExpressionReader" 112 "StreamNodes$Nodes" "first" "[I" ∈ gG := gk1 (List.mem_of_getElem? (i := 182) rfl) rfl
theorem fl_S_176 : Cond.fieldLink "StreamNodes" 176 "StreamNodes$Nodes" "first" "[I" ∈ gG := gk1 (List.mem_of_getElem? (i := 183) rfl) rfl
theorem fl_Nr_159 : Cond.fieldLink "StreamNodes$NodeReader" 159 "StreamNodes$Nodes" "first" "[I" ∈ gG := gk1 (List.mem_of_getElem? (i := 184) rfl) rfl
theorem fl_Nd_18 : Cond.fieldLink "StreamNodes$Nodes" 18 "StreamNodes$Nodes" "ins" "[I" ∈ gG := gk1 (List.mem_of_getElem? (i := 185) rfl) rfl
theorem fl_Ck_39 : Cond.fieldLink "StreamNodes$Checker" 39 "StreamNodes$Nodes" "ins" "[I" ∈ gG := gk1 (List.mem_of_getElem? (i := 186) rfl) rfl
theorem fl_S_148 : Cond.fieldLink "StreamNodes" 148 "StreamNodes$Nodes" "ins" "[I" ∈ gG := gk1 (List.mem_of_getElem? (i := 187) rfl) rfl
theorem fl_Lk_125 : Cond.fieldLink "StreamNodes$Linker" 125 "StreamNodes$Nodes" "ins" "[I" ∈ gG := gk1 (List.mem_of_getElem? (i := 188) rfl) rfl
theorem fl_Nr_116 : Cond.fieldLink "StreamNodes$NodeReader" 116 "StreamNodes$Nodes" "ins" "[I" ∈ gG := gk1 (List.mem_of_getElem? (i := 189) rfl) rfl
theorem fl_Nd_21 : Cond.fieldLink "StreamNodes$Nodes" 21 "StreamNodes$Nodes" "outs" "[I" ∈ gG := gk1 (List.mem_of_getElem? (i := 190) rfl) rfl
theorem fl_Ck_122 : Cond.fieldLink "StreamNodes$Checker" 122 "StreamNodes$Nodes" "outs" "[I" ∈ gG := gk1 (List.mem_of_getElem? (i := 191) rfl) rfl
theorem fl_Nr_122 : Cond.fieldLink "StreamNodes$NodeReader" 122 "StreamNodes$Nodes" "outs" "[I" ∈ gG := gk1 (List.mem_of_getElem? (i := 192) rfl) rfl
theorem fl_Lk_162 : Cond.fieldLink "StreamNodes$Linker" 162 "StreamNodes$Nodes" "outs" "[I" ∈ gG := gk1 (List.mem_of_getElem? (i := 193) rfl) rfl
theorem fl_S_214 : Cond.fieldLink "StreamNodes" 214 "StreamNodes$Nodes" "outs" "[I" ∈ gG := gk1 (List.mem_of_getElem? (i := 194) rfl) rfl
theorem fl_Nd_24 : Cond.fieldLink "StreamNodes$Nodes" 24 "StreamNodes$Nodes" "vars" "[I" ∈ gG := gk1 (List.mem_of_getElem? (i := 195) rfl) rfl
theorem fl_Lk_104 : Cond.fieldLink "StreamNodes$Linker" 104 "StreamNodes$Nodes" "vars" "[I" ∈ gG := gk1 (List.mem_of_getElem? (i := 196) rfl) rfl
theorem fl_S_151 : Cond.fieldLink "StreamNodes" 151 "StreamNodes$Nodes" "vars" "[I" ∈ gG := gk1 (List.mem_of_getElem? (i := 197) rfl) rfl
theorem fl_Nr_119 : Cond.fieldLink "StreamNodes$NodeReader" 119 "StreamNodes$Nodes" "vars" "[I" ∈ gG := gk1 (List.mem_of_getElem? (i := 198) rfl) rfl
theorem fl_Er_166 : Cond.fieldLink "StreamNodes$ExpressionReader" 166 "StreamNodes$Nodes" "vars" "[I" ∈ gG := gk1 (List.mem_of_getElem? (i := 199) rfl) rfl
theorem fl_Nd_27 : Cond.fieldLink "StreamNodes$Nodes" 27 "StreamNodes$Nodes" "firstEquation" "[I" ∈ gG := gk1 (List.mem_of_getElem? (i := 200) rfl) rfl
theorem fl_Ck_54 : Cond.fieldLink "StreamNodes$Checker" 54 "StreamNodes$Nodes" "firstEquation" "[I" ∈ gG := gk1 (List.mem_of_getElem? (i := 201) rfl) rfl
theorem fl_Lk_80 : Cond.fieldLink "StreamNodes$Linker" 80 "StreamNodes$Nodes" "firstEquation" "[I" ∈ gG := gk1 (List.mem_of_getElem? (i := 202) rfl) rfl
theorem fl_Nd_30 : Cond.fieldLink "StreamNodes$Nodes" 30 "StreamNodes$Nodes" "equations" "[I" ∈ gG := gk1 (List.mem_of_getElem? (i := 203) rfl) rfl
theorem fl_Lk_83 : Cond.fieldLink "StreamNodes$Linker" 83 "StreamNodes$Nodes" "equations" "[I" ∈ gG := gk1 (List.mem_of_getElem? (i := 204) rfl) rfl
theorem fl_Nd_33 : Cond.fieldLink "StreamNodes$Nodes" 33 "StreamNodes$Nodes" "parts" "[I" ∈ gG := gk1 (List.mem_of_getElem? (i := 205) rfl) rfl
theorem fl_Lk_42 : Cond.fieldLink "StreamNodes$Linker" 42 "StreamNodes$Nodes" "parts" "[I" ∈ gG := gk1 (List.mem_of_getElem? (i := 206) rfl) rfl
theorem fl_S_217 : Cond.fieldLink "StreamNodes" 217 "StreamNodes$Nodes" "parts" "[I" ∈ gG := gk1 (List.mem_of_getElem? (i := 207) rfl) rfl
theorem fl_Nd_36 : Cond.fieldLink "StreamNodes$Nodes" 36 "StreamNodes$Nodes" "allVariables" "[I" ∈ gG := gk1 (List.mem_of_getElem? (i := 208) rfl) rfl
theorem fl_Lk_47 : Cond.fieldLink "StreamNodes$Linker" 47 "StreamNodes$Nodes" "allVariables" "[I" ∈ gG := gk1 (List.mem_of_getElem? (i := 209) rfl) rfl
theorem fl_S_223 : Cond.fieldLink "StreamNodes" 223 "StreamNodes$Nodes" "allVariables" "[I" ∈ gG := gk1 (List.mem_of_getElem? (i := 210) rfl) rfl
theorem fl_Nd_54 : Cond.fieldLink "StreamNodes$Nodes" 54 "StreamNodes$Nodes" "size" "I" ∈ gG := gk1 (List.mem_of_getElem? (i := 211) rfl) rfl
theorem fl_Ck_28 : Cond.fieldLink "StreamNodes$Checker" 28 "StreamNodes$Nodes" "size" "I" ∈ gG := gk1 (List.mem_of_getElem? (i := 212) rfl) rfl
theorem fl_Nr_45 : Cond.fieldLink "StreamNodes$NodeReader" 45 "StreamNodes$Nodes" "size" "I" ∈ gG := gk1 (List.mem_of_getElem? (i := 213) rfl) rfl
theorem fl_Er_92 : Cond.fieldLink "StreamNodes$ExpressionReader" 92 "StreamNodes$Nodes" "size" "I" ∈ gG := gk1 (List.mem_of_getElem? (i := 214) rfl) rfl
theorem fl_S_145 : Cond.fieldLink "StreamNodes" 145 "StreamNodes$Nodes" "size" "I" ∈ gG := gk1 (List.mem_of_getElem? (i := 215) rfl) rfl
theorem fl_Nd_39 : Cond.fieldLink "StreamNodes$Nodes" 39 "StreamNodes$Nodes" "type" "[I" ∈ gG := gk1 (List.mem_of_getElem? (i := 216) rfl) rfl
theorem fl_Ck_90 : Cond.fieldLink "StreamNodes$Checker" 90 "StreamNodes$Nodes" "type" "[I" ∈ gG := gk1 (List.mem_of_getElem? (i := 217) rfl) rfl
theorem fl_Er_115 : Cond.fieldLink "StreamNodes$ExpressionReader" 115 "StreamNodes$Nodes" "type" "[I" ∈ gG := gk1 (List.mem_of_getElem? (i := 218) rfl) rfl
theorem fl_S_173 : Cond.fieldLink "StreamNodes" 173 "StreamNodes$Nodes" "type" "[I" ∈ gG := gk1 (List.mem_of_getElem? (i := 219) rfl) rfl
theorem fl_Nr_152 : Cond.fieldLink "StreamNodes$NodeReader" 152 "StreamNodes$Nodes" "type" "[I" ∈ gG := gk1 (List.mem_of_getElem? (i := 220) rfl) rfl
theorem fl_Nd_42 : Cond.fieldLink "StreamNodes$Nodes" 42 "StreamNodes$Nodes" "clock" "[I" ∈ gG := gk1 (List.mem_of_getElem? (i := 221) rfl) rfl
theorem fl_Lk_111 : Cond.fieldLink "StreamNodes$Linker" 111 "StreamNodes$Nodes" "clock" "[I" ∈ gG := gk1 (List.mem_of_getElem? (i := 222) rfl) rfl
theorem fl_S_190 : Cond.fieldLink "StreamNodes" 190 "StreamNodes$Nodes" "clock" "[I" ∈ gG := gk1 (List.mem_of_getElem? (i := 223) rfl) rfl
theorem fl_Ck_131 : Cond.fieldLink "StreamNodes$Checker" 131 "StreamNodes$Nodes" "clock" "[I" ∈ gG := gk1 (List.mem_of_getElem? (i := 224) rfl) rfl
theorem fl_Nr_162 : Cond.fieldLink "StreamNodes$NodeReader" 162 "StreamNodes$Nodes" "clock" "[I" ∈ gG := gk1 (List.mem_of_getElem? (i := 225) rfl) rfl
theorem fl_Nd_45 : Cond.fieldLink "StreamNodes$Nodes" 45 "StreamNodes$Nodes" "deep" "[I" ∈ gG := gk1 (List.mem_of_getElem? (i := 226) rfl) rfl
theorem fl_Er_118 : Cond.fieldLink "StreamNodes$ExpressionReader" 118 "StreamNodes$Nodes" "deep" "[I" ∈ gG := gk1 (List.mem_of_getElem? (i := 227) rfl) rfl
theorem fl_Nr_165 : Cond.fieldLink "StreamNodes$NodeReader" 165 "StreamNodes$Nodes" "deep" "[I" ∈ gG := gk1 (List.mem_of_getElem? (i := 228) rfl) rfl
theorem fl_Nd_48 : Cond.fieldLink "StreamNodes$Nodes" 48 "StreamNodes$Nodes" "timesDefined" "[I" ∈ gG := gk1 (List.mem_of_getElem? (i := 229) rfl) rfl
theorem fl_Ck_45 : Cond.fieldLink "StreamNodes$Checker" 45 "StreamNodes$Nodes" "timesDefined" "[I" ∈ gG := gk1 (List.mem_of_getElem? (i := 230) rfl) rfl
theorem fl_Nr_191 : Cond.fieldLink "StreamNodes$NodeReader" 191 "StreamNodes$Nodes" "timesDefined" "[I" ∈ gG := gk1 (List.mem_of_getElem? (i := 231) rfl) rfl
theorem fl_Nd_51 : Cond.fieldLink "StreamNodes$Nodes" 51 "StreamNodes$Nodes" "definedAt" "[I" ∈ gG := gk1 (List.mem_of_getElem? (i := 232) rfl) rfl
theorem fl_Lk_128 : Cond.fieldLink "StreamNodes$Linker" 128 "StreamNodes$Nodes" "definedAt" "[I" ∈ gG := gk1 (List.mem_of_getElem? (i := 233) rfl) rfl
theorem fl_Nr_194 : Cond.fieldLink "StreamNodes$NodeReader" 194 "StreamNodes$Nodes" "definedAt" "[I" ∈ gG := gk1 (List.mem_of_getElem? (i := 234) rfl) rfl
theorem fl_Nd_58 : Cond.fieldLink "StreamNodes$Nodes" 58 "StreamNodes$Nodes" "variables" "I" ∈ gG := gk1 (List.mem_of_getElem? (i := 235) rfl) rfl
theorem fl_Ck_42 : Cond.fieldLink "StreamNodes$Checker" 42 "StreamNodes$Nodes" "variables" "I" ∈ gG := gk1 (List.mem_of_getElem? (i := 236) rfl) rfl
theorem fl_Nr_134 : Cond.fieldLink "StreamNodes$NodeReader" 134 "StreamNodes$Nodes" "variables" "I" ∈ gG := gk1 (List.mem_of_getElem? (i := 237) rfl) rfl
theorem nt_su_Nd : Cond.superclass "StreamNodes$Nodes" "java/lang/Object" ∈ tables_1 := gm2 (List.mem_of_getElem? (i := 30) rfl)
theorem cl_S_50 : Cond.classLink "StreamNodes" 50 "StreamNodes$Code" ∈ gG := gk2 (List.mem_of_getElem? (i := 31) rfl) rfl
theorem ia_Cd : Cond.instantiable "StreamNodes$Code" 13 ∈ gG := gk2 (List.mem_of_getElem? (i := 32) rfl) rfl
theorem im_Cd_init : Cond.instanceMethod ⟨"StreamNodes$Code", "<init>", "()V"⟩ ∈ gG := gk2 (List.mem_of_getElem? (i := 34) rfl) rfl
theorem co_Cd_init : Cond.code ⟨"StreamNodes$Code", "<init>", "()V"⟩ prog_3_method_1_code 1 none ∈ gG := gk2 (List.mem_of_getElem? (i := 35) rfl) rfl
theorem ml_Cd_3 : Cond.methodLink "StreamNodes$Code" 3 ⟨"java/lang/Object", "<init>", "()V"⟩ ∈ gG := gk2 (List.mem_of_getElem? (i := 36) rfl) rfl
theorem ct_Cd_9 : Cond.constant "StreamNodes$Code" 9 65537 ∈ gG := gk2 (List.mem_of_getElem? (i := 37) rfl) rfl
theorem ct_Cd_40 : Cond.constant "StreamNodes$Code" 40 32769 ∈ gG := gk2 (List.mem_of_getElem? (i := 38) rfl) rfl
theorem fl_Cd_10 : Cond.fieldLink "StreamNodes$Code" 10 "StreamNodes$Code" "kind" "[I" ∈ gG := gk2 (List.mem_of_getElem? (i := 39) rfl) rfl
theorem fl_Ck_100 : Cond.fieldLink "StreamNodes$Checker" 100 "StreamNodes$Code" "kind" "[I" ∈ gG := gk2 (List.mem_of_getElem? (i := 40) rfl) rfl
theorem fl_Nd_70 : Cond.fieldLink "StreamNodes$Nodes" 70 "StreamNodes$Code" "kind" "[I" ∈ gG := gk2 (List.mem_of_getElem? (i := 41) rfl) rfl
theorem fl_Lk_143 : Cond.fieldLink "StreamNodes$Linker" 143 "StreamNodes$Code" "kind" "[I" ∈ gG := gk2 (List.mem_of_getElem? (i := 42) rfl) rfl
theorem fl_Cd_16 : Cond.fieldLink "StreamNodes$Code" 16 "StreamNodes$Code" "item" "[I" ∈ gG := gk2 (List.mem_of_getElem? (i := 43) rfl) rfl
theorem fl_Ck_119 : Cond.fieldLink "StreamNodes$Checker" 119 "StreamNodes$Code" "item" "[I" ∈ gG := gk2 (List.mem_of_getElem? (i := 44) rfl) rfl
theorem fl_Nd_73 : Cond.fieldLink "StreamNodes$Nodes" 73 "StreamNodes$Code" "item" "[I" ∈ gG := gk2 (List.mem_of_getElem? (i := 45) rfl) rfl
theorem fl_Lk_146 : Cond.fieldLink "StreamNodes$Linker" 146 "StreamNodes$Code" "item" "[I" ∈ gG := gk2 (List.mem_of_getElem? (i := 46) rfl) rfl
theorem fl_Cd_19 : Cond.fieldLink "StreamNodes$Code" 19 "StreamNodes$Code" "sides" "[I" ∈ gG := gk2 (List.mem_of_getElem? (i := 47) rfl) rfl
theorem fl_Ck_103 : Cond.fieldLink "StreamNodes$Checker" 103 "StreamNodes$Code" "sides" "[I" ∈ gG := gk2 (List.mem_of_getElem? (i := 48) rfl) rfl
theorem fl_Lk_165 : Cond.fieldLink "StreamNodes$Linker" 165 "StreamNodes$Code" "sides" "[I" ∈ gG := gk2 (List.mem_of_getElem? (i := 49) rfl) rfl
theorem fl_Cd_22 : Cond.fieldLink "StreamNodes$Code" 22 "StreamNodes$Code" "clock" "[I" ∈ gG := gk2 (List.mem_of_getElem? (i := 50) rfl) rfl
theorem fl_Lk_158 : Cond.fieldLink "StreamNodes$Linker" 158 "StreamNodes$Code" "clock" "[I" ∈ gG := gk2 (List.mem_of_getElem? (i := 51) rfl) rfl
theorem fl_Ck_144 : Cond.fieldLink "StreamNodes$Checker" 144 "StreamNodes$Code" "clock" "[I" ∈ gG := gk2 (List.mem_of_getElem? (i := 52) rfl) rfl
theorem fl_Cd_44 : Cond.fieldLink "StreamNodes$Code" 44 "StreamNodes$Code" "parts" "I" ∈ gG := gk2 (List.mem_of_getElem? (i := 53) rfl) rfl
theorem fl_Nd_68 : Cond.fieldLink "StreamNodes$Nodes" 68 "StreamNodes$Code" "parts" "I" ∈ gG := gk2 (List.mem_of_getElem? (i := 54) rfl) rfl
theorem fl_Cd_25 : Cond.fieldLink "StreamNodes$Code" 25 "StreamNodes$Code" "begins" "[I" ∈ gG := gk2 (List.mem_of_getElem? (i := 55) rfl) rfl
theorem fl_Ck_93 : Cond.fieldLink "StreamNodes$Checker" 93 "StreamNodes$Code" "begins" "[I" ∈ gG := gk2 (List.mem_of_getElem? (i := 56) rfl) rfl
theorem fl_Lk_159 : Cond.fieldLink "StreamNodes$Linker" 159 "StreamNodes$Code" "begins" "[I" ∈ gG := gk2 (List.mem_of_getElem? (i := 57) rfl) rfl
theorem fl_Nr_197 : Cond.fieldLink "StreamNodes$NodeReader" 197 "StreamNodes$Code" "begins" "[I" ∈ gG := gk2 (List.mem_of_getElem? (i := 58) rfl) rfl
theorem fl_Cd_28 : Cond.fieldLink "StreamNodes$Code" 28 "StreamNodes$Code" "from" "[I" ∈ gG := gk2 (List.mem_of_getElem? (i := 59) rfl) rfl
theorem fl_Ck_74 : Cond.fieldLink "StreamNodes$Checker" 74 "StreamNodes$Code" "from" "[I" ∈ gG := gk2 (List.mem_of_getElem? (i := 60) rfl) rfl
theorem fl_Lk_101 : Cond.fieldLink "StreamNodes$Linker" 101 "StreamNodes$Code" "from" "[I" ∈ gG := gk2 (List.mem_of_getElem? (i := 61) rfl) rfl
theorem fl_Nd_65 : Cond.fieldLink "StreamNodes$Nodes" 65 "StreamNodes$Code" "from" "[I" ∈ gG := gk2 (List.mem_of_getElem? (i := 62) rfl) rfl
theorem fl_Cd_31 : Cond.fieldLink "StreamNodes$Code" 31 "StreamNodes$Code" "to" "[I" ∈ gG := gk2 (List.mem_of_getElem? (i := 63) rfl) rfl
theorem fl_Ck_71 : Cond.fieldLink "StreamNodes$Checker" 71 "StreamNodes$Code" "to" "[I" ∈ gG := gk2 (List.mem_of_getElem? (i := 64) rfl) rfl
theorem fl_Lk_86 : Cond.fieldLink "StreamNodes$Linker" 86 "StreamNodes$Code" "to" "[I" ∈ gG := gk2 (List.mem_of_getElem? (i := 65) rfl) rfl
theorem fl_Cd_34 : Cond.fieldLink "StreamNodes$Code" 34 "StreamNodes$Code" "firstLeft" "[I" ∈ gG := gk2 (List.mem_of_getElem? (i := 66) rfl) rfl
theorem fl_Ck_87 : Cond.fieldLink "StreamNodes$Checker" 87 "StreamNodes$Code" "firstLeft" "[I" ∈ gG := gk2 (List.mem_of_getElem? (i := 67) rfl) rfl
theorem fl_Lk_140 : Cond.fieldLink "StreamNodes$Linker" 140 "StreamNodes$Code" "firstLeft" "[I" ∈ gG := gk2 (List.mem_of_getElem? (i := 68) rfl) rfl
theorem fl_Cd_37 : Cond.fieldLink "StreamNodes$Code" 37 "StreamNodes$Code" "lefts" "[I" ∈ gG := gk2 (List.mem_of_getElem? (i := 69) rfl) rfl
theorem fl_Ck_77 : Cond.fieldLink "StreamNodes$Checker" 77 "StreamNodes$Code" "lefts" "[I" ∈ gG := gk2 (List.mem_of_getElem? (i := 70) rfl) rfl
theorem fl_Lk_131 : Cond.fieldLink "StreamNodes$Linker" 131 "StreamNodes$Code" "lefts" "[I" ∈ gG := gk2 (List.mem_of_getElem? (i := 71) rfl) rfl
theorem fl_Cd_48 : Cond.fieldLink "StreamNodes$Code" 48 "StreamNodes$Code" "equations" "I" ∈ gG := gk2 (List.mem_of_getElem? (i := 72) rfl) rfl
theorem fl_Ck_57 : Cond.fieldLink "StreamNodes$Checker" 57 "StreamNodes$Code" "equations" "I" ∈ gG := gk2 (List.mem_of_getElem? (i := 73) rfl) rfl
theorem fl_Nr_104 : Cond.fieldLink "StreamNodes$NodeReader" 104 "StreamNodes$Code" "equations" "I" ∈ gG := gk2 (List.mem_of_getElem? (i := 74) rfl) rfl
theorem fl_Nd_61 : Cond.fieldLink "StreamNodes$Nodes" 61 "StreamNodes$Code" "equations" "I" ∈ gG := gk2 (List.mem_of_getElem? (i := 75) rfl) rfl
theorem fl_Cd_41 : Cond.fieldLink "StreamNodes$Code" 41 "StreamNodes$Code" "left" "[I" ∈ gG := gk2 (List.mem_of_getElem? (i := 76) rfl) rfl
theorem fl_Ck_84 : Cond.fieldLink "StreamNodes$Checker" 84 "StreamNodes$Code" "left" "[I" ∈ gG := gk2 (List.mem_of_getElem? (i := 77) rfl) rfl
theorem fl_Lk_137 : Cond.fieldLink "StreamNodes$Linker" 137 "StreamNodes$Code" "left" "[I" ∈ gG := gk2 (List.mem_of_getElem? (i := 78) rfl) rfl
theorem fl_Cd_51 : Cond.fieldLink "StreamNodes$Code" 51 "StreamNodes$Code" "allLefts" "I" ∈ gG := gk2 (List.mem_of_getElem? (i := 79) rfl) rfl
theorem nt_su_Cd : Cond.superclass "StreamNodes$Code" "java/lang/Object" ∈ tables_1 := gm2 (List.mem_of_getElem? (i := 106) rfl)
theorem cl_S_57 : Cond.classLink "StreamNodes" 57 "StreamNodes$NodeReader" ∈ gG := gk2 (List.mem_of_getElem? (i := 107) rfl) rfl
theorem ia_Nr : Cond.instantiable "StreamNodes$NodeReader" 5 ∈ gG := gk2 (List.mem_of_getElem? (i := 108) rfl) rfl
theorem ml_S_59 : Cond.methodLink "StreamNodes" 59 ⟨"StreamNodes$NodeReader", "<init>", "(LStreamNodes$Tokens;LStreamNodes$Nodes;LStreamNodes$Code;)V"⟩ ∈ gG := gk2 (List.mem_of_getElem? (i := 109) rfl) rfl
theorem im_Nr_init : Cond.instanceMethod ⟨"StreamNodes$NodeReader", "<init>", "(LStreamNodes$Tokens;LStreamNodes$Nodes;LStreamNodes$Code;)V"⟩ ∈ gG := gk2 (List.mem_of_getElem? (i := 110) rfl) rfl
theorem co_Nr_init : Cond.code ⟨"StreamNodes$NodeReader", "<init>", "(LStreamNodes$Tokens;LStreamNodes$Nodes;LStreamNodes$Code;)V"⟩ prog_6_method_1_code 4 none ∈ gG := gk2 (List.mem_of_getElem? (i := 111) rfl) rfl
theorem ml_Nr_3 : Cond.methodLink "StreamNodes$NodeReader" 3 ⟨"java/lang/Object", "<init>", "()V"⟩ ∈ gG := gk2 (List.mem_of_getElem? (i := 112) rfl) rfl
theorem cl_Nr_23 : Cond.classLink "StreamNodes$NodeReader" 23 "StreamNodes$ExpressionReader" ∈ gG := gk2 (List.mem_of_getElem? (i := 113) rfl) rfl
theorem ia_Er : Cond.instantiable "StreamNodes$ExpressionReader" 15 ∈ gG := gk2 (List.mem_of_getElem? (i := 114) rfl) rfl
theorem ml_Nr_25 : Cond.methodLink "StreamNodes$NodeReader" 25 ⟨"StreamNodes$ExpressionReader", "<init>", "(LStreamNodes$Tokens;LStreamNodes$Nodes;LStreamNodes$Code;)V"⟩ ∈ gG := gk2 (List.mem_of_getElem? (i := 115) rfl) rfl
theorem im_Er_init : Cond.instanceMethod ⟨"StreamNodes$ExpressionReader", "<init>", "(LStreamNodes$Tokens;LStreamNodes$Nodes;LStreamNodes$Code;)V"⟩ ∈ gG := gk2 (List.mem_of_getElem? (i := 116) rfl) rfl
theorem co_Er_init : Cond.code ⟨"StreamNodes$ExpressionReader", "<init>", "(LStreamNodes$Tokens;LStreamNodes$Nodes;LStreamNodes$Code;)V"⟩ prog_4_method_1_code 4 none ∈ gG := gk2 (List.mem_of_getElem? (i := 117) rfl) rfl
theorem ml_Er_3 : Cond.methodLink "StreamNodes$ExpressionReader" 3 ⟨"java/lang/Object", "<init>", "()V"⟩ ∈ gG := gk2 (List.mem_of_getElem? (i := 118) rfl) rfl
theorem fl_Er_27 : Cond.fieldLink "StreamNodes$ExpressionReader" 27 "StreamNodes$ExpressionReader" "tokens" "LStreamNodes$Tokens;" ∈ gG := gk2 (List.mem_of_getElem? (i := 119) rfl) rfl
theorem fl_Er_31 : Cond.fieldLink "StreamNodes$ExpressionReader" 31 "StreamNodes$ExpressionReader" "nodes" "LStreamNodes$Nodes;" ∈ gG := gk2 (List.mem_of_getElem? (i := 120) rfl) rfl
theorem fl_Er_35 : Cond.fieldLink "StreamNodes$ExpressionReader" 35 "StreamNodes$ExpressionReader" "code" "LStreamNodes$Code;" ∈ gG := gk2 (List.mem_of_getElem? (i := 121) rfl) rfl
theorem fl_Er_11 : Cond.fieldLink "StreamNodes$ExpressionReader" 11 "StreamNodes$ExpressionReader" "waiting" "[I" ∈ gG := gk2 (List.mem_of_getElem? (i := 122) rfl) rfl
theorem fl_Er_15 : Cond.fieldLink "StreamNodes$ExpressionReader" 15 "StreamNodes$ExpressionReader" "called" "[I" ∈ gG := gk2 (List.mem_of_getElem? (i := 123) rfl) rfl
theorem fl_Er_18 : Cond.fieldLink "StreamNodes$ExpressionReader" 18 "StreamNodes$ExpressionReader" "inputs" "[I" ∈ gG := gk2 (List.mem_of_getElem? (i := 124) rfl) rfl
theorem fl_Er_21 : Cond.fieldLink "StreamNodes$ExpressionReader" 21 "StreamNodes$ExpressionReader" "highest" "[I" ∈ gG := gk2 (List.mem_of_getElem? (i := 125) rfl) rfl
theorem fl_Er_24 : Cond.fieldLink "StreamNodes$ExpressionReader" 24 "StreamNodes$ExpressionReader" "height" "[I" ∈ gG := gk2 (List.mem_of_getElem? (i := 126) rfl) rfl
theorem fl_Er_39 : Cond.fieldLink "StreamNodes$ExpressionReader" 39 "StreamNodes$ExpressionReader" "waits" "I" ∈ gG := gk2 (List.mem_of_getElem? (i := 127) rfl) rfl
theorem fl_Er_43 : Cond.fieldLink "StreamNodes$ExpressionReader" 43 "StreamNodes$ExpressionReader" "operands" "I" ∈ gG := gk2 (List.mem_of_getElem? (i := 128) rfl) rfl
theorem fl_Er_46 : Cond.fieldLink "StreamNodes$ExpressionReader" 46 "StreamNodes$ExpressionReader" "depth" "I" ∈ gG := gk2 (List.mem_of_getElem? (i := 129) rfl) rfl
theorem fl_Er_49 : Cond.fieldLink "StreamNodes$ExpressionReader" 49 "StreamNodes$ExpressionReader" "many" "Z" ∈ gG := gk2 (List.mem_of_getElem? (i := 130) rfl) rfl
theorem fl_Er_53 : Cond.fieldLink "StreamNodes$ExpressionReader" 53 "StreamNodes$ExpressionReader" "operandDue" "Z" ∈ gG := gk2 (List.mem_of_getElem? (i := 131) rfl) rfl
theorem fl_Er_56 : Cond.fieldLink "StreamNodes$ExpressionReader" 56 "StreamNodes$ExpressionReader" "ifMayStand" "Z" ∈ gG := gk2 (List.mem_of_getElem? (i := 132) rfl) rfl
theorem fl_Er_59 : Cond.fieldLink "StreamNodes$ExpressionReader" 59 "StreamNodes$ExpressionReader" "complete" "Z" ∈ gG := gk2 (List.mem_of_getElem? (i := 133) rfl) rfl
theorem nt_su_Er : Cond.superclass "StreamNodes$ExpressionReader" "java/lang/Object" ∈ tables_1 := gm2 (List.mem_of_getElem? (i := 164) rfl)
theorem cl_Nr_32 : Cond.classLink "StreamNodes$NodeReader" 32 "StreamNodes$Checker" ∈ gG := gk2 (List.mem_of_getElem? (i := 165) rfl) rfl
theorem ia_Ck : Cond.instantiable "StreamNodes$Checker" 6 ∈ gG := gk2 (List.mem_of_getElem? (i := 166) rfl) rfl
theorem ml_Nr_34 : Cond.methodLink "StreamNodes$NodeReader" 34 ⟨"StreamNodes$Checker", "<init>", "(LStreamNodes$Tokens;LStreamNodes$Nodes;LStreamNodes$Code;)V"⟩ ∈ gG := gk2 (List.mem_of_getElem? (i := 167) rfl) rfl
theorem im_Ck_init : Cond.instanceMethod ⟨"StreamNodes$Checker", "<init>", "(LStreamNodes$Tokens;LStreamNodes$Nodes;LStreamNodes$Code;)V"⟩ ∈ gG := gk2 (List.mem_of_getElem? (i := 168) rfl) rfl
theorem co_Ck_init : Cond.code ⟨"StreamNodes$Checker", "<init>", "(LStreamNodes$Tokens;LStreamNodes$Nodes;LStreamNodes$Code;)V"⟩ prog_2_method_1_code 4 none ∈ gG := gk2 (List.mem_of_getElem? (i := 169) rfl) rfl
theorem ml_Ck_3 : Cond.methodLink "StreamNodes$Checker" 3 ⟨"java/lang/Object", "<init>", "()V"⟩ ∈ gG := gk2 (List.mem_of_getElem? (i := 170) rfl) rfl
theorem ct_Ck_9 : Cond.constant "StreamNodes$Checker" 9 32769 ∈ gG := gk2 (List.mem_of_getElem? (i := 171) rfl) rfl
theorem fl_Ck_16 : Cond.fieldLink "StreamNodes$Checker" 16 "StreamNodes$Checker" "tokens" "LStreamNodes$Tokens;" ∈ gG := gk2 (List.mem_of_getElem? (i := 172) rfl) rfl
theorem fl_Ck_20 : Cond.fieldLink "StreamNodes$Checker" 20 "StreamNodes$Checker" "nodes" "LStreamNodes$Nodes;" ∈ gG := gk2 (List.mem_of_getElem? (i := 173) rfl) rfl
theorem fl_Ck_24 : Cond.fieldLink "StreamNodes$Checker" 24 "StreamNodes$Checker" "code" "LStreamNodes$Code;" ∈ gG := gk2 (List.mem_of_getElem? (i := 174) rfl) rfl
theorem fl_Ck_10 : Cond.fieldLink "StreamNodes$Checker" 10 "StreamNodes$Checker" "stack" "[I" ∈ gG := gk2 (List.mem_of_getElem? (i := 175) rfl) rfl
theorem fl_Ck_68 : Cond.fieldLink "StreamNodes$Checker" 68 "StreamNodes$Checker" "top" "I" ∈ gG := gk2 (List.mem_of_getElem? (i := 176) rfl) rfl
theorem fl_Ck_37 : Cond.fieldLink "StreamNodes$Checker" 37 "StreamNodes$Checker" "first" "I" ∈ gG := gk2 (List.mem_of_getElem? (i := 177) rfl) rfl
theorem nt_su_Ck : Cond.superclass "StreamNodes$Checker" "java/lang/Object" ∈ tables_1 := gm2 (List.mem_of_getElem? (i := 190) rfl)
theorem fl_Nr_9 : Cond.fieldLink "StreamNodes$NodeReader" 9 "StreamNodes$NodeReader" "tokens" "LStreamNodes$Tokens;" ∈ gG := gk2 (List.mem_of_getElem? (i := 191) rfl) rfl
theorem fl_Nr_15 : Cond.fieldLink "StreamNodes$NodeReader" 15 "StreamNodes$NodeReader" "nodes" "LStreamNodes$Nodes;" ∈ gG := gk2 (List.mem_of_getElem? (i := 192) rfl) rfl
theorem fl_Nr_19 : Cond.fieldLink "StreamNodes$NodeReader" 19 "StreamNodes$NodeReader" "code" "LStreamNodes$Code;" ∈ gG := gk2 (List.mem_of_getElem? (i := 193) rfl) rfl
theorem fl_Nr_28 : Cond.fieldLink "StreamNodes$NodeReader" 28 "StreamNodes$NodeReader" "expressions" "LStreamNodes$ExpressionReader;" ∈ gG := gk2 (List.mem_of_getElem? (i := 194) rfl) rfl
theorem fl_Nr_35 : Cond.fieldLink "StreamNodes$NodeReader" 35 "StreamNodes$NodeReader" "checker" "LStreamNodes$Checker;" ∈ gG := gk2 (List.mem_of_getElem? (i := 195) rfl) rfl
theorem nt_su_Nr : Cond.superclass "StreamNodes$NodeReader" "java/lang/Object" ∈ tables_1 := gm2 (List.mem_of_getElem? (i := 206) rfl)
theorem cl_S_66 : Cond.classLink "StreamNodes" 66 "StreamNodes$Slots" ∈ gG := gk2 (List.mem_of_getElem? (i := 207) rfl) rfl
theorem ia_Sl : Cond.instantiable "StreamNodes$Slots" 12 ∈ gG := gk2 (List.mem_of_getElem? (i := 208) rfl) rfl
theorem im_Sl_init : Cond.instanceMethod ⟨"StreamNodes$Slots", "<init>", "()V"⟩ ∈ gG := gk2 (List.mem_of_getElem? (i := 210) rfl) rfl
theorem co_Sl_init : Cond.code ⟨"StreamNodes$Slots", "<init>", "()V"⟩ prog_10_method_1_code 1 none ∈ gG := gk2 (List.mem_of_getElem? (i := 211) rfl) rfl
theorem ml_Sl_3 : Cond.methodLink "StreamNodes$Slots" 3 ⟨"java/lang/Object", "<init>", "()V"⟩ ∈ gG := gk2 (List.mem_of_getElem? (i := 212) rfl) rfl
theorem fl_Sl_9 : Cond.fieldLink "StreamNodes$Slots" 9 "StreamNodes$Slots" "kind" "[I" ∈ gG := gk2 (List.mem_of_getElem? (i := 213) rfl) rfl
theorem fl_Pg_95 : Cond.fieldLink "StreamNodes$Program" 95 "StreamNodes$Slots" "kind" "[I" ∈ gG := gk2 (List.mem_of_getElem? (i := 214) rfl) rfl
theorem fl_Sl_15 : Cond.fieldLink "StreamNodes$Slots" 15 "StreamNodes$Slots" "a" "[I" ∈ gG := gk2 (List.mem_of_getElem? (i := 215) rfl) rfl
theorem fl_Pg_98 : Cond.fieldLink "StreamNodes$Program" 98 "StreamNodes$Slots" "a" "[I" ∈ gG := gk2 (List.mem_of_getElem? (i := 216) rfl) rfl
theorem fl_Lk_134 : Cond.fieldLink "StreamNodes$Linker" 134 "StreamNodes$Slots" "a" "[I" ∈ gG := gk2 (List.mem_of_getElem? (i := 217) rfl) rfl
theorem fl_Sl_18 : Cond.fieldLink "StreamNodes$Slots" 18 "StreamNodes$Slots" "b" "[I" ∈ gG := gk2 (List.mem_of_getElem? (i := 218) rfl) rfl
theorem fl_Pg_112 : Cond.fieldLink "StreamNodes$Program" 112 "StreamNodes$Slots" "b" "[I" ∈ gG := gk2 (List.mem_of_getElem? (i := 219) rfl) rfl
theorem fl_Lk_115 : Cond.fieldLink "StreamNodes$Linker" 115 "StreamNodes$Slots" "b" "[I" ∈ gG := gk2 (List.mem_of_getElem? (i := 220) rfl) rfl
theorem fl_Sl_21 : Cond.fieldLink "StreamNodes$Slots" 21 "StreamNodes$Slots" "c" "[I" ∈ gG := gk2 (List.mem_of_getElem? (i := 221) rfl) rfl
theorem fl_Pg_115 : Cond.fieldLink "StreamNodes$Program" 115 "StreamNodes$Slots" "c" "[I" ∈ gG := gk2 (List.mem_of_getElem? (i := 222) rfl) rfl
theorem fl_Lk_171 : Cond.fieldLink "StreamNodes$Linker" 171 "StreamNodes$Slots" "c" "[I" ∈ gG := gk2 (List.mem_of_getElem? (i := 223) rfl) rfl
theorem fl_Sl_24 : Cond.fieldLink "StreamNodes$Slots" 24 "StreamNodes$Slots" "item" "[I" ∈ gG := gk2 (List.mem_of_getElem? (i := 224) rfl) rfl
theorem fl_Pg_101 : Cond.fieldLink "StreamNodes$Program" 101 "StreamNodes$Slots" "item" "[I" ∈ gG := gk2 (List.mem_of_getElem? (i := 225) rfl) rfl
theorem fl_Od_37 : Cond.fieldLink "StreamNodes$Order" 37 "StreamNodes$Slots" "size" "I" ∈ gG := gk2 (List.mem_of_getElem? (i := 226) rfl) rfl
theorem fl_Sl_43 : Cond.fieldLink "StreamNodes$Slots" 43 "StreamNodes$Slots" "size" "I" ∈ gG := gk2 (List.mem_of_getElem? (i := 227) rfl) rfl
theorem fl_Sl_27 : Cond.fieldLink "StreamNodes$Slots" 27 "StreamNodes$Slots" "clock" "[I" ∈ gG := gk2 (List.mem_of_getElem? (i := 228) rfl) rfl
theorem fl_Lk_110 : Cond.fieldLink "StreamNodes$Linker" 110 "StreamNodes$Slots" "clock" "[I" ∈ gG := gk2 (List.mem_of_getElem? (i := 229) rfl) rfl
theorem fl_Pg_127 : Cond.fieldLink "StreamNodes$Program" 127 "StreamNodes$Slots" "clock" "[I" ∈ gG := gk2 (List.mem_of_getElem? (i := 230) rfl) rfl
theorem fl_Sl_30 : Cond.fieldLink "StreamNodes$Slots" 30 "StreamNodes$Slots" "place" "[I" ∈ gG := gk2 (List.mem_of_getElem? (i := 231) rfl) rfl
theorem fl_Lk_122 : Cond.fieldLink "StreamNodes$Linker" 122 "StreamNodes$Slots" "place" "[I" ∈ gG := gk2 (List.mem_of_getElem? (i := 232) rfl) rfl
theorem fl_S_241 : Cond.fieldLink "StreamNodes" 241 "StreamNodes$Slots" "place" "[I" ∈ gG := gk2 (List.mem_of_getElem? (i := 233) rfl) rfl
theorem fl_Sl_39 : Cond.fieldLink "StreamNodes$Slots" 39 "StreamNodes$Slots" "variables" "I" ∈ gG := gk2 (List.mem_of_getElem? (i := 234) rfl) rfl
theorem fl_S_164 : Cond.fieldLink "StreamNodes" 164 "StreamNodes$Slots" "variables" "I" ∈ gG := gk2 (List.mem_of_getElem? (i := 235) rfl) rfl
theorem fl_Pg_118 : Cond.fieldLink "StreamNodes$Program" 118 "StreamNodes$Slots" "variables" "I" ∈ gG := gk2 (List.mem_of_getElem? (i := 236) rfl) rfl
theorem fl_Sl_33 : Cond.fieldLink "StreamNodes$Slots" 33 "StreamNodes$Slots" "cellFrom" "[I" ∈ gG := gk2 (List.mem_of_getElem? (i := 237) rfl) rfl
theorem fl_Pg_75 : Cond.fieldLink "StreamNodes$Program" 75 "StreamNodes$Slots" "cellFrom" "[I" ∈ gG := gk2 (List.mem_of_getElem? (i := 238) rfl) rfl
theorem fl_Sl_36 : Cond.fieldLink "StreamNodes$Slots" 36 "StreamNodes$Slots" "cellClock" "[I" ∈ gG := gk2 (List.mem_of_getElem? (i := 239) rfl) rfl
theorem fl_Pg_78 : Cond.fieldLink "StreamNodes$Program" 78 "StreamNodes$Slots" "cellClock" "[I" ∈ gG := gk3 (List.mem_of_getElem? (i := 0) rfl) rfl
theorem fl_Sl_46 : Cond.fieldLink "StreamNodes$Slots" 46 "StreamNodes$Slots" "cells" "I" ∈ gG := gk3 (List.mem_of_getElem? (i := 1) rfl) rfl
theorem fl_Pg_70 : Cond.fieldLink "StreamNodes$Program" 70 "StreamNodes$Slots" "cells" "I" ∈ gG := gk3 (List.mem_of_getElem? (i := 2) rfl) rfl
theorem fl_Lk_168 : Cond.fieldLink "StreamNodes$Linker" 168 "StreamNodes$Slots" "cells" "I" ∈ gG := gk3 (List.mem_of_getElem? (i := 3) rfl) rfl
theorem fl_S_220 : Cond.fieldLink "StreamNodes" 220 "StreamNodes$Slots" "cells" "I" ∈ gG := gk3 (List.mem_of_getElem? (i := 4) rfl) rfl
theorem nt_su_Sl : Cond.superclass "StreamNodes$Slots" "java/lang/Object" ∈ tables_1 := gm3 (List.mem_of_getElem? (i := 29) rfl)
theorem cl_S_73 : Cond.classLink "StreamNodes" 73 "StreamNodes$Linker" ∈ gG := gk3 (List.mem_of_getElem? (i := 30) rfl) rfl
theorem ia_Lk : Cond.instantiable "StreamNodes$Linker" 13 ∈ gG := gk3 (List.mem_of_getElem? (i := 31) rfl) rfl
theorem ml_S_75 : Cond.methodLink "StreamNodes" 75 ⟨"StreamNodes$Linker", "<init>", "(LStreamNodes$Nodes;LStreamNodes$Code;LStreamNodes$Slots;)V"⟩ ∈ gG := gk3 (List.mem_of_getElem? (i := 32) rfl) rfl
theorem im_Lk_init : Cond.instanceMethod ⟨"StreamNodes$Linker", "<init>", "(LStreamNodes$Nodes;LStreamNodes$Code;LStreamNodes$Slots;)V"⟩ ∈ gG := gk3 (List.mem_of_getElem? (i := 33) rfl) rfl
theorem co_Lk_init : Cond.code ⟨"StreamNodes$Linker", "<init>", "(LStreamNodes$Nodes;LStreamNodes$Code;LStreamNodes$Slots;)V"⟩ prog_5_method_1_code 4 none ∈ gG := gk3 (List.mem_of_getElem? (i := 34) rfl) rfl
theorem ml_Lk_3 : Cond.methodLink "StreamNodes$Linker" 3 ⟨"java/lang/Object", "<init>", "()V"⟩ ∈ gG := gk3 (List.mem_of_getElem? (i := 35) rfl) rfl
theorem fl_Lk_30 : Cond.fieldLink "StreamNodes$Linker" 30 "StreamNodes$Linker" "nodes" "LStreamNodes$Nodes;" ∈ gG := gk3 (List.mem_of_getElem? (i := 36) rfl) rfl
theorem fl_Lk_34 : Cond.fieldLink "StreamNodes$Linker" 34 "StreamNodes$Linker" "code" "LStreamNodes$Code;" ∈ gG := gk3 (List.mem_of_getElem? (i := 37) rfl) rfl
theorem fl_Lk_38 : Cond.fieldLink "StreamNodes$Linker" 38 "StreamNodes$Linker" "slots" "LStreamNodes$Slots;" ∈ gG := gk3 (List.mem_of_getElem? (i := 38) rfl) rfl
theorem fl_Lk_9 : Cond.fieldLink "StreamNodes$Linker" 9 "StreamNodes$Linker" "node" "[I" ∈ gG := gk3 (List.mem_of_getElem? (i := 39) rfl) rfl
theorem fl_Lk_15 : Cond.fieldLink "StreamNodes$Linker" 15 "StreamNodes$Linker" "base" "[I" ∈ gG := gk3 (List.mem_of_getElem? (i := 40) rfl) rfl
theorem fl_Lk_18 : Cond.fieldLink "StreamNodes$Linker" 18 "StreamNodes$Linker" "clock" "[I" ∈ gG := gk3 (List.mem_of_getElem? (i := 41) rfl) rfl
theorem fl_Lk_21 : Cond.fieldLink "StreamNodes$Linker" 21 "StreamNodes$Linker" "equation" "[I" ∈ gG := gk3 (List.mem_of_getElem? (i := 42) rfl) rfl
theorem fl_Lk_24 : Cond.fieldLink "StreamNodes$Linker" 24 "StreamNodes$Linker" "part" "[I" ∈ gG := gk3 (List.mem_of_getElem? (i := 43) rfl) rfl
theorem fl_Lk_56 : Cond.fieldLink "StreamNodes$Linker" 56 "StreamNodes$Linker" "open" "I" ∈ gG := gk3 (List.mem_of_getElem? (i := 44) rfl) rfl
theorem fl_Lk_27 : Cond.fieldLink "StreamNodes$Linker" 27 "StreamNodes$Linker" "stack" "[I" ∈ gG := gk3 (List.mem_of_getElem? (i := 45) rfl) rfl
theorem fl_Lk_60 : Cond.fieldLink "StreamNodes$Linker" 60 "StreamNodes$Linker" "top" "I" ∈ gG := gk3 (List.mem_of_getElem? (i := 46) rfl) rfl
theorem fl_Lk_63 : Cond.fieldLink "StreamNodes$Linker" 63 "StreamNodes$Linker" "variables" "I" ∈ gG := gk3 (List.mem_of_getElem? (i := 47) rfl) rfl
theorem fl_Lk_70 : Cond.fieldLink "StreamNodes$Linker" 70 "StreamNodes$Linker" "one" "I" ∈ gG := gk3 (List.mem_of_getElem? (i := 48) rfl) rfl
theorem nt_su_Lk : Cond.superclass "StreamNodes$Linker" "java/lang/Object" ∈ tables_1 := gm3 (List.mem_of_getElem? (i := 75) rfl)
theorem cl_S_82 : Cond.classLink "StreamNodes" 82 "StreamNodes$Order" ∈ gG := gk3 (List.mem_of_getElem? (i := 76) rfl) rfl
theorem ia_Od : Cond.instantiable "StreamNodes$Order" 14 ∈ gG := gk3 (List.mem_of_getElem? (i := 77) rfl) rfl
theorem ml_S_84 : Cond.methodLink "StreamNodes" 84 ⟨"StreamNodes$Order", "<init>", "(LStreamNodes$Slots;)V"⟩ ∈ gG := gk3 (List.mem_of_getElem? (i := 78) rfl) rfl
theorem im_Od_init : Cond.instanceMethod ⟨"StreamNodes$Order", "<init>", "(LStreamNodes$Slots;)V"⟩ ∈ gG := gk3 (List.mem_of_getElem? (i := 79) rfl) rfl
theorem co_Od_init : Cond.code ⟨"StreamNodes$Order", "<init>", "(LStreamNodes$Slots;)V"⟩ prog_8_method_1_code 2 none ∈ gG := gk3 (List.mem_of_getElem? (i := 80) rfl) rfl
theorem ml_Od_3 : Cond.methodLink "StreamNodes$Order" 3 ⟨"java/lang/Object", "<init>", "()V"⟩ ∈ gG := gk3 (List.mem_of_getElem? (i := 81) rfl) rfl
theorem fl_Od_33 : Cond.fieldLink "StreamNodes$Order" 33 "StreamNodes$Order" "slots" "LStreamNodes$Slots;" ∈ gG := gk3 (List.mem_of_getElem? (i := 82) rfl) rfl
theorem fl_Od_9 : Cond.fieldLink "StreamNodes$Order" 9 "StreamNodes$Order" "number" "[I" ∈ gG := gk3 (List.mem_of_getElem? (i := 83) rfl) rfl
theorem fl_Od_15 : Cond.fieldLink "StreamNodes$Order" 15 "StreamNodes$Order" "low" "[I" ∈ gG := gk3 (List.mem_of_getElem? (i := 84) rfl) rfl
theorem fl_Od_18 : Cond.fieldLink "StreamNodes$Order" 18 "StreamNodes$Order" "side" "[I" ∈ gG := gk3 (List.mem_of_getElem? (i := 85) rfl) rfl
theorem fl_Od_21 : Cond.fieldLink "StreamNodes$Order" 21 "StreamNodes$Order" "trail" "[I" ∈ gG := gk3 (List.mem_of_getElem? (i := 86) rfl) rfl
theorem fl_Od_24 : Cond.fieldLink "StreamNodes$Order" 24 "StreamNodes$Order" "path" "[I" ∈ gG := gk3 (List.mem_of_getElem? (i := 87) rfl) rfl
theorem fl_Od_27 : Cond.fieldLink "StreamNodes$Order" 27 "StreamNodes$Order" "seen" "[I" ∈ gG := gk3 (List.mem_of_getElem? (i := 88) rfl) rfl
theorem fl_Od_30 : Cond.fieldLink "StreamNodes$Order" 30 "StreamNodes$Order" "sorted" "[I" ∈ gG := gk3 (List.mem_of_getElem? (i := 89) rfl) rfl
theorem fl_Pg_92 : Cond.fieldLink "StreamNodes$Program" 92 "StreamNodes$Order" "sorted" "[I" ∈ gG := gk3 (List.mem_of_getElem? (i := 90) rfl) rfl
theorem fl_Od_49 : Cond.fieldLink "StreamNodes$Order" 49 "StreamNodes$Order" "found" "I" ∈ gG := gk3 (List.mem_of_getElem? (i := 91) rfl) rfl
theorem fl_Od_52 : Cond.fieldLink "StreamNodes$Order" 52 "StreamNodes$Order" "trails" "I" ∈ gG := gk3 (List.mem_of_getElem? (i := 92) rfl) rfl
theorem fl_Od_55 : Cond.fieldLink "StreamNodes$Order" 55 "StreamNodes$Order" "paths" "I" ∈ gG := gk3 (List.mem_of_getElem? (i := 93) rfl) rfl
theorem fl_Od_58 : Cond.fieldLink "StreamNodes$Order" 58 "StreamNodes$Order" "sortedSize" "I" ∈ gG := gk3 (List.mem_of_getElem? (i := 94) rfl) rfl
theorem fl_Pg_87 : Cond.fieldLink "StreamNodes$Program" 87 "StreamNodes$Order" "sortedSize" "I" ∈ gG := gk3 (List.mem_of_getElem? (i := 95) rfl) rfl
theorem fl_Od_61 : Cond.fieldLink "StreamNodes$Order" 61 "StreamNodes$Order" "asked" "I" ∈ gG := gk3 (List.mem_of_getElem? (i := 96) rfl) rfl
theorem fl_Od_64 : Cond.fieldLink "StreamNodes$Order" 64 "StreamNodes$Order" "ownCause" "I" ∈ gG := gk3 (List.mem_of_getElem? (i := 97) rfl) rfl
theorem fl_S_238 : Cond.fieldLink "StreamNodes" 238 "StreamNodes$Order" "ownCause" "I" ∈ gG := gk3 (List.mem_of_getElem? (i := 98) rfl) rfl
theorem nt_su_Od : Cond.superclass "StreamNodes$Order" "java/lang/Object" ∈ tables_1 := gm3 (List.mem_of_getElem? (i := 127) rfl)
theorem cl_S_91 : Cond.classLink "StreamNodes" 91 "StreamNodes$Program" ∈ gG := gk3 (List.mem_of_getElem? (i := 128) rfl) rfl
theorem ia_Pg : Cond.instantiable "StreamNodes$Program" 18 ∈ gG := gk3 (List.mem_of_getElem? (i := 129) rfl) rfl
theorem ml_S_93 : Cond.methodLink "StreamNodes" 93 ⟨"StreamNodes$Program", "<init>", "(LStreamNodes$Slots;LStreamNodes$Order;)V"⟩ ∈ gG := gk3 (List.mem_of_getElem? (i := 130) rfl) rfl
theorem im_Pg_init : Cond.instanceMethod ⟨"StreamNodes$Program", "<init>", "(LStreamNodes$Slots;LStreamNodes$Order;)V"⟩ ∈ gG := gk3 (List.mem_of_getElem? (i := 131) rfl) rfl
theorem co_Pg_init : Cond.code ⟨"StreamNodes$Program", "<init>", "(LStreamNodes$Slots;LStreamNodes$Order;)V"⟩ prog_9_method_1_code 3 none ∈ gG := gk3 (List.mem_of_getElem? (i := 132) rfl) rfl
theorem ml_Pg_3 : Cond.methodLink "StreamNodes$Program" 3 ⟨"java/lang/Object", "<init>", "()V"⟩ ∈ gG := gk3 (List.mem_of_getElem? (i := 133) rfl) rfl
theorem fl_Pg_49 : Cond.fieldLink "StreamNodes$Program" 49 "StreamNodes$Program" "slots" "LStreamNodes$Slots;" ∈ gG := gk3 (List.mem_of_getElem? (i := 134) rfl) rfl
theorem fl_Pg_53 : Cond.fieldLink "StreamNodes$Program" 53 "StreamNodes$Program" "order" "LStreamNodes$Order;" ∈ gG := gk3 (List.mem_of_getElem? (i := 135) rfl) rfl
theorem fl_Pg_9 : Cond.fieldLink "StreamNodes$Program" 9 "StreamNodes$Program" "shown" "[J" ∈ gG := gk3 (List.mem_of_getElem? (i := 136) rfl) rfl
theorem fl_S_186 : Cond.fieldLink "StreamNodes" 186 "StreamNodes$Program" "shown" "[J" ∈ gG := gk3 (List.mem_of_getElem? (i := 137) rfl) rfl
theorem fl_Pg_15 : Cond.fieldLink "StreamNodes$Program" 15 "StreamNodes$Program" "keptShown" "[J" ∈ gG := gk3 (List.mem_of_getElem? (i := 138) rfl) rfl
theorem fl_Pg_57 : Cond.fieldLink "StreamNodes$Program" 57 "StreamNodes$Program" "ins" "I" ∈ gG := gk3 (List.mem_of_getElem? (i := 139) rfl) rfl
theorem fl_Pg_61 : Cond.fieldLink "StreamNodes$Program" 61 "StreamNodes$Program" "vars" "I" ∈ gG := gk3 (List.mem_of_getElem? (i := 140) rfl) rfl
theorem fl_Pg_18 : Cond.fieldLink "StreamNodes$Program" 18 "StreamNodes$Program" "made" "[I" ∈ gG := gk3 (List.mem_of_getElem? (i := 141) rfl) rfl
theorem fl_Pg_22 : Cond.fieldLink "StreamNodes$Program" 22 "StreamNodes$Program" "values" "[I" ∈ gG := gk3 (List.mem_of_getElem? (i := 142) rfl) rfl
theorem fl_Pg_25 : Cond.fieldLink "StreamNodes$Program" 25 "StreamNodes$Program" "steps" "[I" ∈ gG := gk3 (List.mem_of_getElem? (i := 143) rfl) rfl
theorem fl_Pg_84 : Cond.fieldLink "StreamNodes$Program" 84 "StreamNodes$Program" "stepsUsed" "I" ∈ gG := gk3 (List.mem_of_getElem? (i := 144) rfl) rfl
theorem fl_Pg_28 : Cond.fieldLink "StreamNodes$Program" 28 "StreamNodes$Program" "cell" "[I" ∈ gG := gk3 (List.mem_of_getElem? (i := 145) rfl) rfl
theorem fl_Pg_31 : Cond.fieldLink "StreamNodes$Program" 31 "StreamNodes$Program" "keptCell" "[I" ∈ gG := gk3 (List.mem_of_getElem? (i := 146) rfl) rfl
theorem fl_Pg_34 : Cond.fieldLink "StreamNodes$Program" 34 "StreamNodes$Program" "clockNumber" "[I" ∈ gG := gk3 (List.mem_of_getElem? (i := 147) rfl) rfl
theorem fl_Pg_37 : Cond.fieldLink "StreamNodes$Program" 37 "StreamNodes$Program" "clockOuter" "[I" ∈ gG := gk3 (List.mem_of_getElem? (i := 148) rfl) rfl
theorem fl_Pg_40 : Cond.fieldLink "StreamNodes$Program" 40 "StreamNodes$Program" "clockC" "[I" ∈ gG := gk3 (List.mem_of_getElem? (i := 149) rfl) rfl
theorem fl_Pg_43 : Cond.fieldLink "StreamNodes$Program" 43 "StreamNodes$Program" "clockSo" "[I" ∈ gG := gk3 (List.mem_of_getElem? (i := 150) rfl) rfl
theorem fl_Pg_46 : Cond.fieldLink "StreamNodes$Program" 46 "StreamNodes$Program" "clockOn" "[I" ∈ gG := gk3 (List.mem_of_getElem? (i := 151) rfl) rfl
theorem fl_Pg_130 : Cond.fieldLink "StreamNodes$Program" 130 "StreamNodes$Program" "clocks" "I" ∈ gG := gk3 (List.mem_of_getElem? (i := 152) rfl) rfl
theorem nt_su_Pg : Cond.superclass "StreamNodes$Program" "java/lang/Object" ∈ tables_1 := gm3 (List.mem_of_getElem? (i := 189) rfl)
theorem ac_long : Cond.arrayClass .long ∈ gG := gk3 (List.mem_of_getElem? (i := 190) rfl) rfl
theorem fl_S_39 : Cond.fieldLink "StreamNodes" 39 "StreamNodes" "tokens" "LStreamNodes$Tokens;" ∈ gG := gk3 (List.mem_of_getElem? (i := 191) rfl) rfl
theorem fl_S_46 : Cond.fieldLink "StreamNodes" 46 "StreamNodes" "nodes" "LStreamNodes$Nodes;" ∈ gG := gk3 (List.mem_of_getElem? (i := 192) rfl) rfl
theorem fl_S_53 : Cond.fieldLink "StreamNodes" 53 "StreamNodes" "code" "LStreamNodes$Code;" ∈ gG := gk3 (List.mem_of_getElem? (i := 193) rfl) rfl
theorem fl_S_62 : Cond.fieldLink "StreamNodes" 62 "StreamNodes" "reader" "LStreamNodes$NodeReader;" ∈ gG := gk3 (List.mem_of_getElem? (i := 194) rfl) rfl
theorem fl_S_69 : Cond.fieldLink "StreamNodes" 69 "StreamNodes" "slots" "LStreamNodes$Slots;" ∈ gG := gk3 (List.mem_of_getElem? (i := 195) rfl) rfl
theorem fl_S_78 : Cond.fieldLink "StreamNodes" 78 "StreamNodes" "linker" "LStreamNodes$Linker;" ∈ gG := gk3 (List.mem_of_getElem? (i := 196) rfl) rfl
theorem fl_S_87 : Cond.fieldLink "StreamNodes" 87 "StreamNodes" "order" "LStreamNodes$Order;" ∈ gG := gk3 (List.mem_of_getElem? (i := 197) rfl) rfl
theorem fl_S_96 : Cond.fieldLink "StreamNodes" 96 "StreamNodes" "program" "LStreamNodes$Program;" ∈ gG := gk3 (List.mem_of_getElem? (i := 198) rfl) rfl
theorem fl_S_9 : Cond.fieldLink "StreamNodes" 9 "StreamNodes" "given" "[I" ∈ gG := gk3 (List.mem_of_getElem? (i := 199) rfl) rfl
theorem fl_S_22 : Cond.fieldLink "StreamNodes" 22 "StreamNodes" "tape" "[B" ∈ gG := gk3 (List.mem_of_getElem? (i := 200) rfl) rfl
theorem fl_S_100 : Cond.fieldLink "StreamNodes" 100 "StreamNodes" "tapeLength" "I" ∈ gG := gk3 (List.mem_of_getElem? (i := 201) rfl) rfl
theorem fl_S_226 : Cond.fieldLink "StreamNodes" 226 "StreamNodes" "allParts" "I" ∈ gG := gk3 (List.mem_of_getElem? (i := 202) rfl) rfl
theorem fl_S_26 : Cond.fieldLink "StreamNodes" 26 "StreamNodes" "main" "I" ∈ gG := gk3 (List.mem_of_getElem? (i := 203) rfl) rfl
theorem fl_S_113 : Cond.fieldLink "StreamNodes" 113 "StreamNodes" "instants" "I" ∈ gG := gk3 (List.mem_of_getElem? (i := 204) rfl) rfl
theorem fl_S_116 : Cond.fieldLink "StreamNodes" 116 "StreamNodes" "keptInstants" "I" ∈ gG := gk3 (List.mem_of_getElem? (i := 205) rfl) rfl
theorem nt_su_S : Cond.superclass "StreamNodes" "java/lang/Object" ∈ tables_1 := gm3 (List.mem_of_getElem? (i := 236) rfl)
theorem ml_L_68 : Cond.methodLink "StreamNodesLaw" 68 ⟨"StreamNodes", "read", "()I"⟩ ∈ gG := gk3 (List.mem_of_getElem? (i := 237) rfl) rfl
theorem im_S_read : Cond.instanceMethod ⟨"StreamNodes", "read", "()I"⟩ ∈ gG := gk3 (List.mem_of_getElem? (i := 238) rfl) rfl
theorem se_S_read : Cond.selects "StreamNodes" ⟨"StreamNodes", "read", "()I"⟩ ⟨"StreamNodes", "read", "()I"⟩ ∈ gG := gk3 (List.mem_of_getElem? (i := 239) rfl) rfl
theorem co_S_read : Cond.code ⟨"StreamNodes", "read", "()I"⟩ prog_1_method_4_code 3 (some .int) ∈ gG := gk4 (List.mem_of_getElem? (i := 0) rfl) rfl
theorem ml_S_119 : Cond.methodLink "StreamNodes" 119 ⟨"StreamNodes$Tokens", "scan", "(I)V"⟩ ∈ gG := gk4 (List.mem_of_getElem? (i := 1) rfl) rfl
theorem im_Tk_scan : Cond.instanceMethod ⟨"StreamNodes$Tokens", "scan", "(I)V"⟩ ∈ gG := gk4 (List.mem_of_getElem? (i := 2) rfl) rfl
theorem se_Tk_scan : Cond.selects "StreamNodes$Tokens" ⟨"StreamNodes$Tokens", "scan", "(I)V"⟩ ⟨"StreamNodes$Tokens", "scan", "(I)V"⟩ ∈ gG := gk4 (List.mem_of_getElem? (i := 3) rfl) rfl
theorem co_Tk_scan : Cond.code ⟨"StreamNodes$Tokens", "scan", "(I)V"⟩ prog_11_method_2_code 4 none ∈ gG := gk4 (List.mem_of_getElem? (i := 4) rfl) rfl
theorem ml_Tk_35 : Cond.methodLink "StreamNodes$Tokens" 35 ⟨"StreamNodes$Words", "begin", "()V"⟩ ∈ gG := gk4 (List.mem_of_getElem? (i := 5) rfl) rfl
theorem im_Wd_begin : Cond.instanceMethod ⟨"StreamNodes$Words", "begin", "()V"⟩ ∈ gG := gk4 (List.mem_of_getElem? (i := 6) rfl) rfl
theorem se_Wd_begin : Cond.selects "StreamNodes$Words" ⟨"StreamNodes$Words", "begin", "()V"⟩ ⟨"StreamNodes$Words", "begin", "()V"⟩ ∈ gG := gk4 (List.mem_of_getElem? (i := 7) rfl) rfl
theorem co_Wd_begin : Cond.code ⟨"StreamNodes$Words", "begin", "()V"⟩ prog_12_method_2_code 3 none ∈ gG := gk4 (List.mem_of_getElem? (i := 8) rfl) rfl
theorem ml_Wd_37 : Cond.methodLink "StreamNodes$Words" 37 ⟨"java/util/Arrays", "fill", "([II)V"⟩ ∈ gG := gk4 (List.mem_of_getElem? (i := 9) rfl) rfl
theorem sm_java_util_Arrays_fill_0 : Cond.static ⟨"java/util/Arrays", "fill", "([II)V"⟩ ∈ gG := gk4 (List.mem_of_getElem? (i := 10) rfl) rfl
theorem co_java_util_Arrays_fill_0 : Cond.code ⟨"java/util/Arrays", "fill", "([II)V"⟩ prog_26_method_103_code 4 none ∈ gG := gk4 (List.mem_of_getElem? (i := 11) rfl) rfl
theorem ct_Wd_47 : Cond.constant "StreamNodes$Words" 47 65536 ∈ gG := gk4 (List.mem_of_getElem? (i := 12) rfl) rfl
theorem ml_Wd_48 : Cond.methodLink "StreamNodes$Words" 48 ⟨"StreamNodes$Words", "find", "(II)I"⟩ ∈ gG := gk4 (List.mem_of_getElem? (i := 13) rfl) rfl
theorem im_Wd_find : Cond.instanceMethod ⟨"StreamNodes$Words", "find", "(II)I"⟩ ∈ gG := gk4 (List.mem_of_getElem? (i := 14) rfl) rfl
theorem se_Wd_find : Cond.selects "StreamNodes$Words" ⟨"StreamNodes$Words", "find", "(II)I"⟩ ⟨"StreamNodes$Words", "find", "(II)I"⟩ ∈ gG := gk4 (List.mem_of_getElem? (i := 15) rfl) rfl
theorem co_Wd_find : Cond.code ⟨"StreamNodes$Words", "find", "(II)I"⟩ prog_12_method_3_code 7 (some .int) ∈ gG := gk4 (List.mem_of_getElem? (i := 16) rfl) rfl
theorem ml_Wd_52 : Cond.methodLink "StreamNodes$Words" 52 ⟨"StreamNodes$Words", "isAt", "(II)Z"⟩ ∈ gG := gk4 (List.mem_of_getElem? (i := 17) rfl) rfl
theorem im_Wd_isAt : Cond.instanceMethod ⟨"StreamNodes$Words", "isAt", "(II)Z"⟩ ∈ gG := gk4 (List.mem_of_getElem? (i := 19) rfl) rfl
theorem co_Wd_isAt : Cond.code ⟨"StreamNodes$Words", "isAt", "(II)Z"⟩ prog_12_method_4_code 5 (some .boolean) ∈ gG := gk4 (List.mem_of_getElem? (i := 20) rfl) rfl
theorem ml_Wd_56 : Cond.methodLink "StreamNodes$Words" 56 ⟨"StreamNodes$Words", "add", "(III)I"⟩ ∈ gG := gk4 (List.mem_of_getElem? (i := 21) rfl) rfl
theorem im_Wd_add : Cond.instanceMethod ⟨"StreamNodes$Words", "add", "(III)I"⟩ ∈ gG := gk4 (List.mem_of_getElem? (i := 23) rfl) rfl
theorem co_Wd_add : Cond.code ⟨"StreamNodes$Words", "add", "(III)I"⟩ prog_12_method_5_code 5 (some .int) ∈ gG := gk4 (List.mem_of_getElem? (i := 24) rfl) rfl
theorem ml_Tk_51 : Cond.methodLink "StreamNodes$Tokens" 51 ⟨"StreamNodes$Tokens", "scanAt", "(II)I"⟩ ∈ gG := gk4 (List.mem_of_getElem? (i := 25) rfl) rfl
theorem im_Tk_scanAt : Cond.instanceMethod ⟨"StreamNodes$Tokens", "scanAt", "(II)I"⟩ ∈ gG := gk4 (List.mem_of_getElem? (i := 27) rfl) rfl
theorem co_Tk_scanAt : Cond.code ⟨"StreamNodes$Tokens", "scanAt", "(II)I"⟩ prog_11_method_11_code 5 (some .int) ∈ gG := gk4 (List.mem_of_getElem? (i := 28) rfl) rfl
theorem ml_Tk_66 : Cond.methodLink "StreamNodes$Tokens" 66 ⟨"StreamNodes$Tokens", "isLetter", "(I)Z"⟩ ∈ gG := gk4 (List.mem_of_getElem? (i := 29) rfl) rfl
theorem sm_Tk_isLetter : Cond.static ⟨"StreamNodes$Tokens", "isLetter", "(I)Z"⟩ ∈ gG := gk4 (List.mem_of_getElem? (i := 30) rfl) rfl
theorem co_Tk_isLetter : Cond.code ⟨"StreamNodes$Tokens", "isLetter", "(I)Z"⟩ prog_11_method_18_code 1 (some .boolean) ∈ gG := gk4 (List.mem_of_getElem? (i := 31) rfl) rfl
theorem ml_Tk_69 : Cond.methodLink "StreamNodes$Tokens" 69 ⟨"StreamNodes$Tokens", "scanWord", "(II)I"⟩ ∈ gG := gk4 (List.mem_of_getElem? (i := 32) rfl) rfl
theorem im_Tk_scanWord : Cond.instanceMethod ⟨"StreamNodes$Tokens", "scanWord", "(II)I"⟩ ∈ gG := gk4 (List.mem_of_getElem? (i := 34) rfl) rfl
theorem co_Tk_scanWord : Cond.code ⟨"StreamNodes$Tokens", "scanWord", "(II)I"⟩ prog_11_method_12_code 5 (some .int) ∈ gG := gk4 (List.mem_of_getElem? (i := 35) rfl) rfl
theorem ml_Tk_72 : Cond.methodLink "StreamNodes$Tokens" 72 ⟨"StreamNodes$Tokens", "isDigit", "(I)Z"⟩ ∈ gG := gk4 (List.mem_of_getElem? (i := 36) rfl) rfl
theorem sm_Tk_isDigit : Cond.static ⟨"StreamNodes$Tokens", "isDigit", "(I)Z"⟩ ∈ gG := gk4 (List.mem_of_getElem? (i := 37) rfl) rfl
theorem co_Tk_isDigit : Cond.code ⟨"StreamNodes$Tokens", "isDigit", "(I)Z"⟩ prog_11_method_19_code 1 (some .boolean) ∈ gG := gk4 (List.mem_of_getElem? (i := 38) rfl) rfl
theorem ml_Tk_85 : Cond.methodLink "StreamNodes$Tokens" 85 ⟨"StreamNodes$Words", "find", "(II)I"⟩ ∈ gG := gk4 (List.mem_of_getElem? (i := 39) rfl) rfl
theorem ml_Tk_88 : Cond.methodLink "StreamNodes$Tokens" 88 ⟨"StreamNodes$Tokens", "addBad", "(II)I"⟩ ∈ gG := gk4 (List.mem_of_getElem? (i := 40) rfl) rfl
theorem im_Tk_addBad : Cond.instanceMethod ⟨"StreamNodes$Tokens", "addBad", "(II)I"⟩ ∈ gG := gk4 (List.mem_of_getElem? (i := 42) rfl) rfl
theorem co_Tk_addBad : Cond.code ⟨"StreamNodes$Tokens", "addBad", "(II)I"⟩ prog_11_method_15_code 3 (some .int) ∈ gG := gk4 (List.mem_of_getElem? (i := 43) rfl) rfl
theorem ml_Tk_55 : Cond.methodLink "StreamNodes$Tokens" 55 ⟨"StreamNodes$Tokens", "add", "(III)V"⟩ ∈ gG := gk4 (List.mem_of_getElem? (i := 44) rfl) rfl
theorem im_Tk_add : Cond.instanceMethod ⟨"StreamNodes$Tokens", "add", "(III)V"⟩ ∈ gG := gk4 (List.mem_of_getElem? (i := 46) rfl) rfl
theorem co_Tk_add : Cond.code ⟨"StreamNodes$Tokens", "add", "(III)V"⟩ prog_11_method_16_code 4 none ∈ gG := gk4 (List.mem_of_getElem? (i := 47) rfl) rfl
theorem ml_Tk_75 : Cond.methodLink "StreamNodes$Tokens" 75 ⟨"StreamNodes$Tokens", "scanNumber", "(II)I"⟩ ∈ gG := gk4 (List.mem_of_getElem? (i := 48) rfl) rfl
theorem im_Tk_scanNumber : Cond.instanceMethod ⟨"StreamNodes$Tokens", "scanNumber", "(II)I"⟩ ∈ gG := gk4 (List.mem_of_getElem? (i := 50) rfl) rfl
theorem co_Tk_scanNumber : Cond.code ⟨"StreamNodes$Tokens", "scanNumber", "(II)I"⟩ prog_11_method_13_code 5 (some .int) ∈ gG := gk4 (List.mem_of_getElem? (i := 51) rfl) rfl
theorem ml_Tk_78 : Cond.methodLink "StreamNodes$Tokens" 78 ⟨"StreamNodes$Tokens", "lineEnd", "(II)I"⟩ ∈ gG := gk4 (List.mem_of_getElem? (i := 52) rfl) rfl
theorem im_Tk_lineEnd : Cond.instanceMethod ⟨"StreamNodes$Tokens", "lineEnd", "(II)I"⟩ ∈ gG := gk4 (List.mem_of_getElem? (i := 54) rfl) rfl
theorem co_Tk_lineEnd : Cond.code ⟨"StreamNodes$Tokens", "lineEnd", "(II)I"⟩ prog_11_method_17_code 4 (some .int) ∈ gG := gk4 (List.mem_of_getElem? (i := 55) rfl) rfl
theorem ml_Tk_81 : Cond.methodLink "StreamNodes$Tokens" 81 ⟨"StreamNodes$Tokens", "scanSign", "(IIII)I"⟩ ∈ gG := gk4 (List.mem_of_getElem? (i := 56) rfl) rfl
theorem im_Tk_scanSign : Cond.instanceMethod ⟨"StreamNodes$Tokens", "scanSign", "(IIII)I"⟩ ∈ gG := gk4 (List.mem_of_getElem? (i := 58) rfl) rfl
theorem co_Tk_scanSign : Cond.code ⟨"StreamNodes$Tokens", "scanSign", "(IIII)I"⟩ prog_11_method_14_code 7 (some .int) ∈ gG := gk4 (List.mem_of_getElem? (i := 59) rfl) rfl
theorem ml_Tk_91 : Cond.methodLink "StreamNodes$Tokens" 91 ⟨"StreamNodes$Tokens", "signOfTwo", "(II)I"⟩ ∈ gG := gk4 (List.mem_of_getElem? (i := 60) rfl) rfl
theorem sm_Tk_signOfTwo : Cond.static ⟨"StreamNodes$Tokens", "signOfTwo", "(II)I"⟩ ∈ gG := gk4 (List.mem_of_getElem? (i := 61) rfl) rfl
theorem co_Tk_signOfTwo : Cond.code ⟨"StreamNodes$Tokens", "signOfTwo", "(II)I"⟩ prog_11_method_20_code 2 (some .int) ∈ gG := gk4 (List.mem_of_getElem? (i := 62) rfl) rfl
theorem ml_Tk_94 : Cond.methodLink "StreamNodes$Tokens" 94 ⟨"StreamNodes$Tokens", "signOfOne", "(I)I"⟩ ∈ gG := gk4 (List.mem_of_getElem? (i := 63) rfl) rfl
theorem sm_Tk_signOfOne : Cond.static ⟨"StreamNodes$Tokens", "signOfOne", "(I)I"⟩ ∈ gG := gk4 (List.mem_of_getElem? (i := 64) rfl) rfl
theorem co_Tk_signOfOne : Cond.code ⟨"StreamNodes$Tokens", "signOfOne", "(I)I"⟩ prog_11_method_21_code 1 (some .int) ∈ gG := gk4 (List.mem_of_getElem? (i := 65) rfl) rfl
theorem ml_S_122 : Cond.methodLink "StreamNodes" 122 ⟨"StreamNodes$Nodes", "begin", "()V"⟩ ∈ gG := gk4 (List.mem_of_getElem? (i := 66) rfl) rfl
theorem im_Nd_begin : Cond.instanceMethod ⟨"StreamNodes$Nodes", "begin", "()V"⟩ ∈ gG := gk4 (List.mem_of_getElem? (i := 67) rfl) rfl
theorem se_Nd_begin : Cond.selects "StreamNodes$Nodes" ⟨"StreamNodes$Nodes", "begin", "()V"⟩ ⟨"StreamNodes$Nodes", "begin", "()V"⟩ ∈ gG := gk4 (List.mem_of_getElem? (i := 68) rfl) rfl
theorem co_Nd_begin : Cond.code ⟨"StreamNodes$Nodes", "begin", "()V"⟩ prog_7_method_2_code 1 none ∈ gG := gk4 (List.mem_of_getElem? (i := 69) rfl) rfl
theorem ml_S_125 : Cond.methodLink "StreamNodes" 125 ⟨"StreamNodes$Code", "begin", "()V"⟩ ∈ gG := gk4 (List.mem_of_getElem? (i := 70) rfl) rfl
theorem im_Cd_begin : Cond.instanceMethod ⟨"StreamNodes$Code", "begin", "()V"⟩ ∈ gG := gk4 (List.mem_of_getElem? (i := 71) rfl) rfl
theorem se_Cd_begin : Cond.selects "StreamNodes$Code" ⟨"StreamNodes$Code", "begin", "()V"⟩ ⟨"StreamNodes$Code", "begin", "()V"⟩ ∈ gG := gk4 (List.mem_of_getElem? (i := 72) rfl) rfl
theorem co_Cd_begin : Cond.code ⟨"StreamNodes$Code", "begin", "()V"⟩ prog_3_method_2_code 1 none ∈ gG := gk4 (List.mem_of_getElem? (i := 73) rfl) rfl
theorem ml_S_126 : Cond.methodLink "StreamNodes" 126 ⟨"StreamNodes$NodeReader", "readHead", "()Z"⟩ ∈ gG := gk4 (List.mem_of_getElem? (i := 74) rfl) rfl
theorem im_Nr_readHead : Cond.instanceMethod ⟨"StreamNodes$NodeReader", "readHead", "()Z"⟩ ∈ gG := gk4 (List.mem_of_getElem? (i := 75) rfl) rfl
theorem se_Nr_readHead : Cond.selects "StreamNodes$NodeReader" ⟨"StreamNodes$NodeReader", "readHead", "()Z"⟩ ⟨"StreamNodes$NodeReader", "readHead", "()Z"⟩ ∈ gG := gk4 (List.mem_of_getElem? (i := 76) rfl) rfl
theorem co_Nr_readHead : Cond.code ⟨"StreamNodes$NodeReader", "readHead", "()Z"⟩ prog_6_method_2_code 1 (some .boolean) ∈ gG := gk4 (List.mem_of_getElem? (i := 77) rfl) rfl
theorem ml_Nr_39 : Cond.methodLink "StreamNodes$NodeReader" 39 ⟨"StreamNodes$Tokens", "kindNow", "()I"⟩ ∈ gG := gk4 (List.mem_of_getElem? (i := 78) rfl) rfl
theorem im_Tk_kindNow : Cond.instanceMethod ⟨"StreamNodes$Tokens", "kindNow", "()I"⟩ ∈ gG := gk4 (List.mem_of_getElem? (i := 79) rfl) rfl
theorem se_Tk_kindNow : Cond.selects "StreamNodes$Tokens" ⟨"StreamNodes$Tokens", "kindNow", "()I"⟩ ⟨"StreamNodes$Tokens", "kindNow", "()I"⟩ ∈ gG := gk4 (List.mem_of_getElem? (i := 80) rfl) rfl
theorem co_Tk_kindNow : Cond.code ⟨"StreamNodes$Tokens", "kindNow", "()I"⟩ prog_11_method_3_code 1 (some .int) ∈ gG := gk4 (List.mem_of_getElem? (i := 81) rfl) rfl
theorem ml_Nr_51 : Cond.methodLink "StreamNodes$NodeReader" 51 ⟨"StreamNodes$Tokens", "fail", "(I)Z"⟩ ∈ gG := gk4 (List.mem_of_getElem? (i := 82) rfl) rfl
theorem im_Tk_fail : Cond.instanceMethod ⟨"StreamNodes$Tokens", "fail", "(I)Z"⟩ ∈ gG := gk4 (List.mem_of_getElem? (i := 83) rfl) rfl
theorem se_Tk_fail : Cond.selects "StreamNodes$Tokens" ⟨"StreamNodes$Tokens", "fail", "(I)Z"⟩ ⟨"StreamNodes$Tokens", "fail", "(I)Z"⟩ ∈ gG := gk4 (List.mem_of_getElem? (i := 84) rfl) rfl
theorem co_Tk_fail : Cond.code ⟨"StreamNodes$Tokens", "fail", "(I)Z"⟩ prog_11_method_9_code 2 (some .boolean) ∈ gG := gk4 (List.mem_of_getElem? (i := 85) rfl) rfl
theorem ml_Nr_55 : Cond.methodLink "StreamNodes$NodeReader" 55 ⟨"StreamNodes$Tokens", "expect", "(I)Z"⟩ ∈ gG := gk4 (List.mem_of_getElem? (i := 86) rfl) rfl
theorem im_Tk_expect : Cond.instanceMethod ⟨"StreamNodes$Tokens", "expect", "(I)Z"⟩ ∈ gG := gk4 (List.mem_of_getElem? (i := 87) rfl) rfl
theorem se_Tk_expect : Cond.selects "StreamNodes$Tokens" ⟨"StreamNodes$Tokens", "expect", "(I)Z"⟩ ⟨"StreamNodes$Tokens", "expect", "(I)Z"⟩ ∈ gG := gk4 (List.mem_of_getElem? (i := 88) rfl) rfl
theorem co_Tk_expect : Cond.code ⟨"StreamNodes$Tokens", "expect", "(I)Z"⟩ prog_11_method_8_code 2 (some .boolean) ∈ gG := gk4 (List.mem_of_getElem? (i := 89) rfl) rfl
theorem ml_Tk_59 : Cond.methodLink "StreamNodes$Tokens" 59 ⟨"StreamNodes$Tokens", "fail", "(I)Z"⟩ ∈ gG := gk4 (List.mem_of_getElem? (i := 90) rfl) rfl
theorem ml_Tk_63 : Cond.methodLink "StreamNodes$Tokens" 63 ⟨"StreamNodes$Tokens", "step", "()V"⟩ ∈ gG := gk4 (List.mem_of_getElem? (i := 91) rfl) rfl
theorem im_Tk_step : Cond.instanceMethod ⟨"StreamNodes$Tokens", "step", "()V"⟩ ∈ gG := gk4 (List.mem_of_getElem? (i := 92) rfl) rfl
theorem se_Tk_step : Cond.selects "StreamNodes$Tokens" ⟨"StreamNodes$Tokens", "step", "()V"⟩ ⟨"StreamNodes$Tokens", "step", "()V"⟩ ∈ gG := gk4 (List.mem_of_getElem? (i := 93) rfl) rfl
theorem co_Tk_step : Cond.code ⟨"StreamNodes$Tokens", "step", "()V"⟩ prog_11_method_7_code 1 none ∈ gG := gk4 (List.mem_of_getElem? (i := 94) rfl) rfl
theorem ml_Nr_58 : Cond.methodLink "StreamNodes$NodeReader" 58 ⟨"StreamNodes$NodeReader", "readNodeName", "()Z"⟩ ∈ gG := gk4 (List.mem_of_getElem? (i := 95) rfl) rfl
theorem im_Nr_readNodeName : Cond.instanceMethod ⟨"StreamNodes$NodeReader", "readNodeName", "()Z"⟩ ∈ gG := gk4 (List.mem_of_getElem? (i := 97) rfl) rfl
theorem co_Nr_readNodeName : Cond.code ⟨"StreamNodes$NodeReader", "readNodeName", "()Z"⟩ prog_6_method_5_code 2 (some .boolean) ∈ gG := gk4 (List.mem_of_getElem? (i := 98) rfl) rfl
theorem ml_Nr_101 : Cond.methodLink "StreamNodes$NodeReader" 101 ⟨"StreamNodes$Tokens", "itemNow", "()I"⟩ ∈ gG := gk4 (List.mem_of_getElem? (i := 99) rfl) rfl
theorem im_Tk_itemNow : Cond.instanceMethod ⟨"StreamNodes$Tokens", "itemNow", "()I"⟩ ∈ gG := gk4 (List.mem_of_getElem? (i := 100) rfl) rfl
theorem se_Tk_itemNow : Cond.selects "StreamNodes$Tokens" ⟨"StreamNodes$Tokens", "itemNow", "()I"⟩ ⟨"StreamNodes$Tokens", "itemNow", "()I"⟩ ∈ gG := gk4 (List.mem_of_getElem? (i := 101) rfl) rfl
theorem co_Tk_itemNow : Cond.code ⟨"StreamNodes$Tokens", "itemNow", "()I"⟩ prog_11_method_5_code 1 (some .int) ∈ gG := gk4 (List.mem_of_getElem? (i := 102) rfl) rfl
theorem ml_Nr_109 : Cond.methodLink "StreamNodes$NodeReader" 109 ⟨"StreamNodes$Nodes", "open", "(II)V"⟩ ∈ gG := gk4 (List.mem_of_getElem? (i := 103) rfl) rfl
theorem im_Nd_open : Cond.instanceMethod ⟨"StreamNodes$Nodes", "open", "(II)V"⟩ ∈ gG := gk4 (List.mem_of_getElem? (i := 104) rfl) rfl
theorem se_Nd_open : Cond.selects "StreamNodes$Nodes" ⟨"StreamNodes$Nodes", "open", "(II)V"⟩ ⟨"StreamNodes$Nodes", "open", "(II)V"⟩ ∈ gG := gk4 (List.mem_of_getElem? (i := 105) rfl) rfl
theorem co_Nd_open : Cond.code ⟨"StreamNodes$Nodes", "open", "(II)V"⟩ prog_7_method_3_code 3 none ∈ gG := gk4 (List.mem_of_getElem? (i := 106) rfl) rfl
theorem ml_Nr_98 : Cond.methodLink "StreamNodes$NodeReader" 98 ⟨"StreamNodes$Tokens", "step", "()V"⟩ ∈ gG := gk4 (List.mem_of_getElem? (i := 107) rfl) rfl
theorem ml_Nr_62 : Cond.methodLink "StreamNodes$NodeReader" 62 ⟨"StreamNodes$NodeReader", "readInputs", "()Z"⟩ ∈ gG := gk4 (List.mem_of_getElem? (i := 108) rfl) rfl
theorem im_Nr_readInputs : Cond.instanceMethod ⟨"StreamNodes$NodeReader", "readInputs", "()Z"⟩ ∈ gG := gk4 (List.mem_of_getElem? (i := 110) rfl) rfl
theorem co_Nr_readInputs : Cond.code ⟨"StreamNodes$NodeReader", "readInputs", "()Z"⟩ prog_6_method_6_code 2 (some .boolean) ∈ gG := gk4 (List.mem_of_getElem? (i := 111) rfl) rfl
theorem ml_Nr_113 : Cond.methodLink "StreamNodes$NodeReader" 113 ⟨"StreamNodes$NodeReader", "readGroups", "()Z"⟩ ∈ gG := gk4 (List.mem_of_getElem? (i := 112) rfl) rfl
theorem im_Nr_readGroups : Cond.instanceMethod ⟨"StreamNodes$NodeReader", "readGroups", "()Z"⟩ ∈ gG := gk4 (List.mem_of_getElem? (i := 114) rfl) rfl
theorem co_Nr_readGroups : Cond.code ⟨"StreamNodes$NodeReader", "readGroups", "()Z"⟩ prog_6_method_8_code 3 (some .boolean) ∈ gG := gk4 (List.mem_of_getElem? (i := 115) rfl) rfl
theorem ml_Nr_125 : Cond.methodLink "StreamNodes$NodeReader" 125 ⟨"StreamNodes$NodeReader", "readGroup", "()Z"⟩ ∈ gG := gk4 (List.mem_of_getElem? (i := 116) rfl) rfl
theorem im_Nr_readGroup : Cond.instanceMethod ⟨"StreamNodes$NodeReader", "readGroup", "()Z"⟩ ∈ gG := gk4 (List.mem_of_getElem? (i := 118) rfl) rfl
theorem co_Nr_readGroup : Cond.code ⟨"StreamNodes$NodeReader", "readGroup", "()Z"⟩ prog_6_method_11_code 4 (some .boolean) ∈ gG := gk4 (List.mem_of_getElem? (i := 119) rfl) rfl
theorem ml_Nr_137 : Cond.methodLink "StreamNodes$NodeReader" 137 ⟨"StreamNodes$NodeReader", "readNewName", "()Z"⟩ ∈ gG := gk4 (List.mem_of_getElem? (i := 120) rfl) rfl
theorem im_Nr_readNewName : Cond.instanceMethod ⟨"StreamNodes$NodeReader", "readNewName", "()Z"⟩ ∈ gG := gk4 (List.mem_of_getElem? (i := 122) rfl) rfl
theorem co_Nr_readNewName : Cond.code ⟨"StreamNodes$NodeReader", "readNewName", "()Z"⟩ prog_6_method_12_code 2 (some .boolean) ∈ gG := gk4 (List.mem_of_getElem? (i := 123) rfl) rfl
theorem ml_Nr_149 : Cond.methodLink "StreamNodes$NodeReader" 149 ⟨"StreamNodes$Nodes", "declare", "()I"⟩ ∈ gG := gk4 (List.mem_of_getElem? (i := 124) rfl) rfl
theorem im_Nd_declare : Cond.instanceMethod ⟨"StreamNodes$Nodes", "declare", "()I"⟩ ∈ gG := gk4 (List.mem_of_getElem? (i := 125) rfl) rfl
theorem se_Nd_declare : Cond.selects "StreamNodes$Nodes" ⟨"StreamNodes$Nodes", "declare", "()I"⟩ ⟨"StreamNodes$Nodes", "declare", "()I"⟩ ∈ gG := gk4 (List.mem_of_getElem? (i := 126) rfl) rfl
theorem co_Nd_declare : Cond.code ⟨"StreamNodes$Nodes", "declare", "()I"⟩ prog_7_method_4_code 1 (some .int) ∈ gG := gk4 (List.mem_of_getElem? (i := 127) rfl) rfl
theorem ml_Nr_140 : Cond.methodLink "StreamNodes$NodeReader" 140 ⟨"StreamNodes$NodeReader", "readType", "(I)Z"⟩ ∈ gG := gk4 (List.mem_of_getElem? (i := 128) rfl) rfl
theorem im_Nr_readType : Cond.instanceMethod ⟨"StreamNodes$NodeReader", "readType", "(I)Z"⟩ ∈ gG := gk4 (List.mem_of_getElem? (i := 130) rfl) rfl
theorem co_Nr_readType : Cond.code ⟨"StreamNodes$NodeReader", "readType", "(I)Z"⟩ prog_6_method_13_code 4 (some .boolean) ∈ gG := gk4 (List.mem_of_getElem? (i := 131) rfl) rfl
theorem ml_Nr_65 : Cond.methodLink "StreamNodes$NodeReader" 65 ⟨"StreamNodes$NodeReader", "readOutputs", "()Z"⟩ ∈ gG := gk4 (List.mem_of_getElem? (i := 132) rfl) rfl
theorem im_Nr_readOutputs : Cond.instanceMethod ⟨"StreamNodes$NodeReader", "readOutputs", "()Z"⟩ ∈ gG := gk4 (List.mem_of_getElem? (i := 134) rfl) rfl
theorem co_Nr_readOutputs : Cond.code ⟨"StreamNodes$NodeReader", "readOutputs", "()Z"⟩ prog_6_method_7_code 2 (some .boolean) ∈ gG := gk4 (List.mem_of_getElem? (i := 135) rfl) rfl
theorem ml_S_130 : Cond.methodLink "StreamNodes" 130 ⟨"StreamNodes$NodeReader", "readBody", "()Z"⟩ ∈ gG := gk4 (List.mem_of_getElem? (i := 136) rfl) rfl
theorem im_Nr_readBody : Cond.instanceMethod ⟨"StreamNodes$NodeReader", "readBody", "()Z"⟩ ∈ gG := gk4 (List.mem_of_getElem? (i := 137) rfl) rfl
theorem se_Nr_readBody : Cond.selects "StreamNodes$NodeReader" ⟨"StreamNodes$NodeReader", "readBody", "()Z"⟩ ⟨"StreamNodes$NodeReader", "readBody", "()Z"⟩ ∈ gG := gk4 (List.mem_of_getElem? (i := 138) rfl) rfl
theorem co_Nr_readBody : Cond.code ⟨"StreamNodes$NodeReader", "readBody", "()Z"⟩ prog_6_method_3_code 3 (some .boolean) ∈ gG := gk4 (List.mem_of_getElem? (i := 139) rfl) rfl
theorem ml_Nr_68 : Cond.methodLink "StreamNodes$NodeReader" 68 ⟨"StreamNodes$NodeReader", "readVars", "()Z"⟩ ∈ gG := gk4 (List.mem_of_getElem? (i := 140) rfl) rfl
theorem im_Nr_readVars : Cond.instanceMethod ⟨"StreamNodes$NodeReader", "readVars", "()Z"⟩ ∈ gG := gk4 (List.mem_of_getElem? (i := 142) rfl) rfl
theorem co_Nr_readVars : Cond.code ⟨"StreamNodes$NodeReader", "readVars", "()Z"⟩ prog_6_method_9_code 3 (some .boolean) ∈ gG := gk4 (List.mem_of_getElem? (i := 143) rfl) rfl
theorem ml_Nr_128 : Cond.methodLink "StreamNodes$NodeReader" 128 ⟨"StreamNodes$NodeReader", "readVarGroup", "()Z"⟩ ∈ gG := gk4 (List.mem_of_getElem? (i := 144) rfl) rfl
theorem im_Nr_readVarGroup : Cond.instanceMethod ⟨"StreamNodes$NodeReader", "readVarGroup", "()Z"⟩ ∈ gG := gk4 (List.mem_of_getElem? (i := 146) rfl) rfl
theorem co_Nr_readVarGroup : Cond.code ⟨"StreamNodes$NodeReader", "readVarGroup", "()Z"⟩ prog_6_method_10_code 2 (some .boolean) ∈ gG := gk4 (List.mem_of_getElem? (i := 147) rfl) rfl
theorem ml_Nr_131 : Cond.methodLink "StreamNodes$NodeReader" 131 ⟨"StreamNodes$NodeReader", "readGroupClock", "(I)Z"⟩ ∈ gG := gk4 (List.mem_of_getElem? (i := 148) rfl) rfl
theorem im_Nr_readGroupClock : Cond.instanceMethod ⟨"StreamNodes$NodeReader", "readGroupClock", "(I)Z"⟩ ∈ gG := gk4 (List.mem_of_getElem? (i := 150) rfl) rfl
theorem co_Nr_readGroupClock : Cond.code ⟨"StreamNodes$NodeReader", "readGroupClock", "(I)Z"⟩ prog_6_method_14_code 5 (some .boolean) ∈ gG := gk4 (List.mem_of_getElem? (i := 151) rfl) rfl
theorem ml_Nr_155 : Cond.methodLink "StreamNodes$NodeReader" 155 ⟨"StreamNodes$ExpressionReader", "readClock", "(I)I"⟩ ∈ gG := gk4 (List.mem_of_getElem? (i := 152) rfl) rfl
theorem im_Er_readClock : Cond.instanceMethod ⟨"StreamNodes$ExpressionReader", "readClock", "(I)I"⟩ ∈ gG := gk4 (List.mem_of_getElem? (i := 153) rfl) rfl
theorem se_Er_readClock : Cond.selects "StreamNodes$ExpressionReader" ⟨"StreamNodes$ExpressionReader", "readClock", "(I)I"⟩ ⟨"StreamNodes$ExpressionReader", "readClock", "(I)I"⟩ ∈ gG := gk4 (List.mem_of_getElem? (i := 154) rfl) rfl
theorem co_Er_readClock : Cond.code ⟨"StreamNodes$ExpressionReader", "readClock", "(I)I"⟩ prog_4_method_4_code 5 (some .int) ∈ gG := gk4 (List.mem_of_getElem? (i := 155) rfl) rfl
theorem ml_Er_98 : Cond.methodLink "StreamNodes$ExpressionReader" 98 ⟨"StreamNodes$Tokens", "step", "()V"⟩ ∈ gG := gk4 (List.mem_of_getElem? (i := 156) rfl) rfl
theorem ml_Er_101 : Cond.methodLink "StreamNodes$ExpressionReader" 101 ⟨"StreamNodes$Tokens", "kindNow", "()I"⟩ ∈ gG := gk4 (List.mem_of_getElem? (i := 157) rfl) rfl
theorem ml_Er_105 : Cond.methodLink "StreamNodes$ExpressionReader" 105 ⟨"StreamNodes$Tokens", "fail", "(I)Z"⟩ ∈ gG := gk4 (List.mem_of_getElem? (i := 158) rfl) rfl
theorem ml_Er_109 : Cond.methodLink "StreamNodes$ExpressionReader" 109 ⟨"StreamNodes$ExpressionReader", "variableNow", "()I"⟩ ∈ gG := gk4 (List.mem_of_getElem? (i := 159) rfl) rfl
theorem im_Er_variableNow : Cond.instanceMethod ⟨"StreamNodes$ExpressionReader", "variableNow", "()I"⟩ ∈ gG := gk4 (List.mem_of_getElem? (i := 160) rfl) rfl
theorem se_Er_variableNow : Cond.selects "StreamNodes$ExpressionReader" ⟨"StreamNodes$ExpressionReader", "variableNow", "()I"⟩ ⟨"StreamNodes$ExpressionReader", "variableNow", "()I"⟩ ∈ gG := gk4 (List.mem_of_getElem? (i := 161) rfl) rfl
theorem co_Er_variableNow : Cond.code ⟨"StreamNodes$ExpressionReader", "variableNow", "()I"⟩ prog_4_method_3_code 2 (some .int) ∈ gG := gk4 (List.mem_of_getElem? (i := 162) rfl) rfl
theorem ml_Nr_71 : Cond.methodLink "StreamNodes$NodeReader" 71 ⟨"StreamNodes$NodeReader", "readEquation", "()Z"⟩ ∈ gG := gk4 (List.mem_of_getElem? (i := 163) rfl) rfl
theorem im_Nr_readEquation : Cond.instanceMethod ⟨"StreamNodes$NodeReader", "readEquation", "()Z"⟩ ∈ gG := gk4 (List.mem_of_getElem? (i := 165) rfl) rfl
theorem co_Nr_readEquation : Cond.code ⟨"StreamNodes$NodeReader", "readEquation", "()Z"⟩ prog_6_method_15_code 3 (some .boolean) ∈ gG := gk4 (List.mem_of_getElem? (i := 166) rfl) rfl
theorem ml_Nr_168 : Cond.methodLink "StreamNodes$NodeReader" 168 ⟨"StreamNodes$Tokens", "placeNow", "()I"⟩ ∈ gG := gk4 (List.mem_of_getElem? (i := 167) rfl) rfl
theorem im_Tk_placeNow : Cond.instanceMethod ⟨"StreamNodes$Tokens", "placeNow", "()I"⟩ ∈ gG := gk4 (List.mem_of_getElem? (i := 168) rfl) rfl
theorem se_Tk_placeNow : Cond.selects "StreamNodes$Tokens" ⟨"StreamNodes$Tokens", "placeNow", "()I"⟩ ⟨"StreamNodes$Tokens", "placeNow", "()I"⟩ ∈ gG := gk4 (List.mem_of_getElem? (i := 169) rfl) rfl
theorem co_Tk_placeNow : Cond.code ⟨"StreamNodes$Tokens", "placeNow", "()I"⟩ prog_11_method_6_code 1 (some .int) ∈ gG := gk4 (List.mem_of_getElem? (i := 170) rfl) rfl
theorem ml_Nr_171 : Cond.methodLink "StreamNodes$NodeReader" 171 ⟨"StreamNodes$Code", "openEquation", "(I)V"⟩ ∈ gG := gk4 (List.mem_of_getElem? (i := 171) rfl) rfl
theorem im_Cd_openEquation : Cond.instanceMethod ⟨"StreamNodes$Code", "openEquation", "(I)V"⟩ ∈ gG := gk4 (List.mem_of_getElem? (i := 172) rfl) rfl
theorem se_Cd_openEquation : Cond.selects "StreamNodes$Code" ⟨"StreamNodes$Code", "openEquation", "(I)V"⟩ ⟨"StreamNodes$Code", "openEquation", "(I)V"⟩ ∈ gG := gk4 (List.mem_of_getElem? (i := 173) rfl) rfl
theorem co_Cd_openEquation : Cond.code ⟨"StreamNodes$Code", "openEquation", "(I)V"⟩ prog_3_method_4_code 2 none ∈ gG := gk4 (List.mem_of_getElem? (i := 174) rfl) rfl
theorem ml_Nr_175 : Cond.methodLink "StreamNodes$NodeReader" 175 ⟨"StreamNodes$NodeReader", "readLefts", "()Z"⟩ ∈ gG := gk4 (List.mem_of_getElem? (i := 175) rfl) rfl
theorem im_Nr_readLefts : Cond.instanceMethod ⟨"StreamNodes$NodeReader", "readLefts", "()Z"⟩ ∈ gG := gk4 (List.mem_of_getElem? (i := 177) rfl) rfl
theorem co_Nr_readLefts : Cond.code ⟨"StreamNodes$NodeReader", "readLefts", "()Z"⟩ prog_6_method_16_code 3 (some .boolean) ∈ gG := gk4 (List.mem_of_getElem? (i := 178) rfl) rfl
theorem ml_Nr_178 : Cond.methodLink "StreamNodes$NodeReader" 178 ⟨"StreamNodes$NodeReader", "readLeft", "()Z"⟩ ∈ gG := gk4 (List.mem_of_getElem? (i := 179) rfl) rfl
theorem im_Nr_readLeft : Cond.instanceMethod ⟨"StreamNodes$NodeReader", "readLeft", "()Z"⟩ ∈ gG := gk4 (List.mem_of_getElem? (i := 181) rfl) rfl
theorem co_Nr_readLeft : Cond.code ⟨"StreamNodes$NodeReader", "readLeft", "()Z"⟩ prog_6_method_17_code 3 (some .boolean) ∈ gG := gk4 (List.mem_of_getElem? (i := 182) rfl) rfl
theorem ml_Nr_188 : Cond.methodLink "StreamNodes$NodeReader" 188 ⟨"StreamNodes$ExpressionReader", "variableNow", "()I"⟩ ∈ gG := gk4 (List.mem_of_getElem? (i := 183) rfl) rfl
theorem ml_Nr_200 : Cond.methodLink "StreamNodes$NodeReader" 200 ⟨"StreamNodes$Code", "addLeft", "(I)V"⟩ ∈ gG := gk4 (List.mem_of_getElem? (i := 184) rfl) rfl
theorem im_Cd_addLeft : Cond.instanceMethod ⟨"StreamNodes$Code", "addLeft", "(I)V"⟩ ∈ gG := gk4 (List.mem_of_getElem? (i := 185) rfl) rfl
theorem se_Cd_addLeft : Cond.selects "StreamNodes$Code" ⟨"StreamNodes$Code", "addLeft", "(I)V"⟩ ⟨"StreamNodes$Code", "addLeft", "(I)V"⟩ ∈ gG := gk4 (List.mem_of_getElem? (i := 186) rfl) rfl
theorem co_Cd_addLeft : Cond.code ⟨"StreamNodes$Code", "addLeft", "(I)V"⟩ prog_3_method_5_code 2 none ∈ gG := gk4 (List.mem_of_getElem? (i := 187) rfl) rfl
theorem ml_Nr_181 : Cond.methodLink "StreamNodes$NodeReader" 181 ⟨"StreamNodes$ExpressionReader", "readRightSide", "(Z)Z"⟩ ∈ gG := gk4 (List.mem_of_getElem? (i := 188) rfl) rfl
theorem im_Er_readRightSide : Cond.instanceMethod ⟨"StreamNodes$ExpressionReader", "readRightSide", "(Z)Z"⟩ ∈ gG := gk4 (List.mem_of_getElem? (i := 189) rfl) rfl
theorem se_Er_readRightSide : Cond.selects "StreamNodes$ExpressionReader" ⟨"StreamNodes$ExpressionReader", "readRightSide", "(Z)Z"⟩ ⟨"StreamNodes$ExpressionReader", "readRightSide", "(Z)Z"⟩ ∈ gG := gk4 (List.mem_of_getElem? (i := 190) rfl) rfl
theorem co_Er_readRightSide : Cond.code ⟨"StreamNodes$ExpressionReader", "readRightSide", "(Z)Z"⟩ prog_4_method_2_code 4 (some .boolean) ∈ gG := gk4 (List.mem_of_getElem? (i := 191) rfl) rfl
theorem ml_Er_62 : Cond.methodLink "StreamNodes$ExpressionReader" 62 ⟨"StreamNodes$ExpressionReader", "readCalled", "()Z"⟩ ∈ gG := gk4 (List.mem_of_getElem? (i := 192) rfl) rfl
theorem im_Er_readCalled : Cond.instanceMethod ⟨"StreamNodes$ExpressionReader", "readCalled", "()Z"⟩ ∈ gG := gk4 (List.mem_of_getElem? (i := 194) rfl) rfl
theorem co_Er_readCalled : Cond.code ⟨"StreamNodes$ExpressionReader", "readCalled", "()Z"⟩ prog_4_method_8_code 2 (some .boolean) ∈ gG := gk4 (List.mem_of_getElem? (i := 195) rfl) rfl
theorem ml_Er_121 : Cond.methodLink "StreamNodes$ExpressionReader" 121 ⟨"StreamNodes$Tokens", "itemNow", "()I"⟩ ∈ gG := gk4 (List.mem_of_getElem? (i := 196) rfl) rfl
theorem ml_Er_134 : Cond.methodLink "StreamNodes$ExpressionReader" 134 ⟨"StreamNodes$ExpressionReader", "push", "(IZ)Z"⟩ ∈ gG := gk4 (List.mem_of_getElem? (i := 197) rfl) rfl
theorem im_Er_push : Cond.instanceMethod ⟨"StreamNodes$ExpressionReader", "push", "(IZ)Z"⟩ ∈ gG := gk4 (List.mem_of_getElem? (i := 199) rfl) rfl
theorem co_Er_push : Cond.code ⟨"StreamNodes$ExpressionReader", "push", "(IZ)Z"⟩ prog_4_method_9_code 3 (some .boolean) ∈ gG := gk4 (List.mem_of_getElem? (i := 200) rfl) rfl
theorem sm_S_nesting : Cond.static ⟨"StreamNodes", "nesting", "(I)I"⟩ ∈ gG := gk4 (List.mem_of_getElem? (i := 202) rfl) rfl
theorem co_S_nesting : Cond.code ⟨"StreamNodes", "nesting", "(I)I"⟩ prog_1_method_21_code 1 (some .int) ∈ gG := gk4 (List.mem_of_getElem? (i := 203) rfl) rfl
theorem ml_Er_71 : Cond.methodLink "StreamNodes$ExpressionReader" 71 ⟨"StreamNodes$ExpressionReader", "readOperand", "()Z"⟩ ∈ gG := gk4 (List.mem_of_getElem? (i := 204) rfl) rfl
theorem im_Er_readOperand : Cond.instanceMethod ⟨"StreamNodes$ExpressionReader", "readOperand", "()Z"⟩ ∈ gG := gk4 (List.mem_of_getElem? (i := 206) rfl) rfl
theorem co_Er_readOperand : Cond.code ⟨"StreamNodes$ExpressionReader", "readOperand", "()Z"⟩ prog_4_method_5_code 2 (some .boolean) ∈ gG := gk4 (List.mem_of_getElem? (i := 207) rfl) rfl
theorem ml_Er_124 : Cond.methodLink "StreamNodes$ExpressionReader" 124 ⟨"StreamNodes$ExpressionReader", "takeAtom", "(II)Z"⟩ ∈ gG := gk4 (List.mem_of_getElem? (i := 208) rfl) rfl
theorem im_Er_takeAtom : Cond.instanceMethod ⟨"StreamNodes$ExpressionReader", "takeAtom", "(II)Z"⟩ ∈ gG := gk4 (List.mem_of_getElem? (i := 210) rfl) rfl
theorem co_Er_takeAtom : Cond.code ⟨"StreamNodes$ExpressionReader", "takeAtom", "(II)Z"⟩ prog_4_method_7_code 3 (some .boolean) ∈ gG := gk4 (List.mem_of_getElem? (i := 211) rfl) rfl
theorem ml_Er_138 : Cond.methodLink "StreamNodes$ExpressionReader" 138 ⟨"StreamNodes$Code", "add", "(III)V"⟩ ∈ gG := gk4 (List.mem_of_getElem? (i := 212) rfl) rfl
theorem im_Cd_add : Cond.instanceMethod ⟨"StreamNodes$Code", "add", "(III)V"⟩ ∈ gG := gk4 (List.mem_of_getElem? (i := 213) rfl) rfl
theorem se_Cd_add : Cond.selects "StreamNodes$Code" ⟨"StreamNodes$Code", "add", "(III)V"⟩ ⟨"StreamNodes$Code", "add", "(III)V"⟩ ∈ gG := gk4 (List.mem_of_getElem? (i := 214) rfl) rfl
theorem co_Cd_add : Cond.code ⟨"StreamNodes$Code", "add", "(III)V"⟩ prog_3_method_3_code 4 none ∈ gG := gk4 (List.mem_of_getElem? (i := 215) rfl) rfl
theorem ml_Er_128 : Cond.methodLink "StreamNodes$ExpressionReader" 128 ⟨"StreamNodes$Tokens", "kindNext", "()I"⟩ ∈ gG := gk4 (List.mem_of_getElem? (i := 216) rfl) rfl
theorem im_Tk_kindNext : Cond.instanceMethod ⟨"StreamNodes$Tokens", "kindNext", "()I"⟩ ∈ gG := gk4 (List.mem_of_getElem? (i := 217) rfl) rfl
theorem se_Tk_kindNext : Cond.selects "StreamNodes$Tokens" ⟨"StreamNodes$Tokens", "kindNext", "()I"⟩ ⟨"StreamNodes$Tokens", "kindNext", "()I"⟩ ∈ gG := gk4 (List.mem_of_getElem? (i := 218) rfl) rfl
theorem co_Tk_kindNext : Cond.code ⟨"StreamNodes$Tokens", "kindNext", "()I"⟩ prog_11_method_4_code 1 (some .int) ∈ gG := gk4 (List.mem_of_getElem? (i := 219) rfl) rfl
theorem ml_Er_131 : Cond.methodLink "StreamNodes$ExpressionReader" 131 ⟨"StreamNodes$ExpressionReader", "readVariable", "()Z"⟩ ∈ gG := gk4 (List.mem_of_getElem? (i := 220) rfl) rfl
theorem im_Er_readVariable : Cond.instanceMethod ⟨"StreamNodes$ExpressionReader", "readVariable", "()Z"⟩ ∈ gG := gk4 (List.mem_of_getElem? (i := 222) rfl) rfl
theorem co_Er_readVariable : Cond.code ⟨"StreamNodes$ExpressionReader", "readVariable", "()Z"⟩ prog_4_method_6_code 2 (some .boolean) ∈ gG := gk4 (List.mem_of_getElem? (i := 223) rfl) rfl
theorem ml_Er_74 : Cond.methodLink "StreamNodes$ExpressionReader" 74 ⟨"StreamNodes$ExpressionReader", "readOperator", "()Z"⟩ ∈ gG := gk4 (List.mem_of_getElem? (i := 224) rfl) rfl
theorem im_Er_readOperator : Cond.instanceMethod ⟨"StreamNodes$ExpressionReader", "readOperator", "()Z"⟩ ∈ gG := gk4 (List.mem_of_getElem? (i := 226) rfl) rfl
theorem co_Er_readOperator : Cond.code ⟨"StreamNodes$ExpressionReader", "readOperator", "()Z"⟩ prog_4_method_10_code 4 (some .boolean) ∈ gG := gk4 (List.mem_of_getElem? (i := 227) rfl) rfl
theorem ml_Er_151 : Cond.methodLink "StreamNodes$ExpressionReader" 151 ⟨"StreamNodes$ExpressionReader", "readWhen", "()Z"⟩ ∈ gG := gk4 (List.mem_of_getElem? (i := 228) rfl) rfl
theorem im_Er_readWhen : Cond.instanceMethod ⟨"StreamNodes$ExpressionReader", "readWhen", "()Z"⟩ ∈ gG := gk4 (List.mem_of_getElem? (i := 230) rfl) rfl
theorem co_Er_readWhen : Cond.code ⟨"StreamNodes$ExpressionReader", "readWhen", "()Z"⟩ prog_4_method_11_code 2 (some .boolean) ∈ gG := gk4 (List.mem_of_getElem? (i := 231) rfl) rfl
theorem ml_Er_169 : Cond.methodLink "StreamNodes$ExpressionReader" 169 ⟨"StreamNodes$ExpressionReader", "readClock", "(I)I"⟩ ∈ gG := gk4 (List.mem_of_getElem? (i := 232) rfl) rfl
theorem sm_S_rank : Cond.static ⟨"StreamNodes", "rank", "(I)I"⟩ ∈ gG := gk4 (List.mem_of_getElem? (i := 234) rfl) rfl
theorem co_S_rank : Cond.code ⟨"StreamNodes", "rank", "(I)I"⟩ prog_1_method_20_code 1 (some .int) ∈ gG := gk4 (List.mem_of_getElem? (i := 235) rfl) rfl
theorem ml_Er_157 : Cond.methodLink "StreamNodes$ExpressionReader" 157 ⟨"StreamNodes$ExpressionReader", "readTwoSided", "(II)Z"⟩ ∈ gG := gk4 (List.mem_of_getElem? (i := 236) rfl) rfl
theorem im_Er_readTwoSided : Cond.instanceMethod ⟨"StreamNodes$ExpressionReader", "readTwoSided", "(II)Z"⟩ ∈ gG := gk4 (List.mem_of_getElem? (i := 238) rfl) rfl
theorem co_Er_readTwoSided : Cond.code ⟨"StreamNodes$ExpressionReader", "readTwoSided", "(II)Z"⟩ prog_4_method_12_code 4 (some .boolean) ∈ gG := gk4 (List.mem_of_getElem? (i := 239) rfl) rfl
theorem ml_Er_160 : Cond.methodLink "StreamNodes$ExpressionReader" 160 ⟨"StreamNodes$ExpressionReader", "reduce", "(I)Z"⟩ ∈ gG := gk5 (List.mem_of_getElem? (i := 0) rfl) rfl
theorem im_Er_reduce : Cond.instanceMethod ⟨"StreamNodes$ExpressionReader", "reduce", "(I)Z"⟩ ∈ gG := gk5 (List.mem_of_getElem? (i := 2) rfl) rfl
theorem co_Er_reduce : Cond.code ⟨"StreamNodes$ExpressionReader", "reduce", "(I)Z"⟩ prog_4_method_13_code 7 (some .boolean) ∈ gG := gk5 (List.mem_of_getElem? (i := 3) rfl) rfl
theorem ml_Er_163 : Cond.methodLink "StreamNodes$ExpressionReader" 163 ⟨"StreamNodes$ExpressionReader", "readCloser", "(I)Z"⟩ ∈ gG := gk5 (List.mem_of_getElem? (i := 4) rfl) rfl
theorem im_Er_readCloser : Cond.instanceMethod ⟨"StreamNodes$ExpressionReader", "readCloser", "(I)Z"⟩ ∈ gG := gk5 (List.mem_of_getElem? (i := 6) rfl) rfl
theorem co_Er_readCloser : Cond.code ⟨"StreamNodes$ExpressionReader", "readCloser", "(I)Z"⟩ prog_4_method_14_code 3 (some .boolean) ∈ gG := gk5 (List.mem_of_getElem? (i := 7) rfl) rfl
theorem ml_Er_172 : Cond.methodLink "StreamNodes$ExpressionReader" 172 ⟨"StreamNodes$ExpressionReader", "goOnBehind", "(I)Z"⟩ ∈ gG := gk5 (List.mem_of_getElem? (i := 8) rfl) rfl
theorem im_Er_goOnBehind : Cond.instanceMethod ⟨"StreamNodes$ExpressionReader", "goOnBehind", "(I)Z"⟩ ∈ gG := gk5 (List.mem_of_getElem? (i := 10) rfl) rfl
theorem co_Er_goOnBehind : Cond.code ⟨"StreamNodes$ExpressionReader", "goOnBehind", "(I)Z"⟩ prog_4_method_15_code 2 (some .boolean) ∈ gG := gk5 (List.mem_of_getElem? (i := 11) rfl) rfl
theorem ml_Er_175 : Cond.methodLink "StreamNodes$ExpressionReader" 175 ⟨"StreamNodes$ExpressionReader", "takeInput", "()V"⟩ ∈ gG := gk5 (List.mem_of_getElem? (i := 12) rfl) rfl
theorem im_Er_takeInput : Cond.instanceMethod ⟨"StreamNodes$ExpressionReader", "takeInput", "()V"⟩ ∈ gG := gk5 (List.mem_of_getElem? (i := 14) rfl) rfl
theorem co_Er_takeInput : Cond.code ⟨"StreamNodes$ExpressionReader", "takeInput", "()V"⟩ prog_4_method_16_code 2 none ∈ gG := gk5 (List.mem_of_getElem? (i := 15) rfl) rfl
theorem ml_Er_181 : Cond.methodLink "StreamNodes$ExpressionReader" 181 ⟨"java/lang/Math", "max", "(II)I"⟩ ∈ gG := gk5 (List.mem_of_getElem? (i := 16) rfl) rfl
theorem sm_java_lang_Math_max : Cond.static ⟨"java/lang/Math", "max", "(II)I"⟩ ∈ gG := gk5 (List.mem_of_getElem? (i := 17) rfl) rfl
theorem co_java_lang_Math_max : Cond.code ⟨"java/lang/Math", "max", "(II)I"⟩ prog_19_method_65_code 2 (some .int) ∈ gG := gk5 (List.mem_of_getElem? (i := 18) rfl) rfl
theorem ml_Er_178 : Cond.methodLink "StreamNodes$ExpressionReader" 178 ⟨"StreamNodes$ExpressionReader", "closeCall", "()Z"⟩ ∈ gG := gk5 (List.mem_of_getElem? (i := 19) rfl) rfl
theorem im_Er_closeCall : Cond.instanceMethod ⟨"StreamNodes$ExpressionReader", "closeCall", "()Z"⟩ ∈ gG := gk5 (List.mem_of_getElem? (i := 21) rfl) rfl
theorem co_Er_closeCall : Cond.code ⟨"StreamNodes$ExpressionReader", "closeCall", "()Z"⟩ prog_4_method_17_code 1 (some .boolean) ∈ gG := gk5 (List.mem_of_getElem? (i := 22) rfl) rfl
theorem ml_Nr_185 : Cond.methodLink "StreamNodes$NodeReader" 185 ⟨"StreamNodes$Code", "closeEquation", "()V"⟩ ∈ gG := gk5 (List.mem_of_getElem? (i := 23) rfl) rfl
theorem im_Cd_closeEquation : Cond.instanceMethod ⟨"StreamNodes$Code", "closeEquation", "()V"⟩ ∈ gG := gk5 (List.mem_of_getElem? (i := 24) rfl) rfl
theorem se_Cd_closeEquation : Cond.selects "StreamNodes$Code" ⟨"StreamNodes$Code", "closeEquation", "()V"⟩ ⟨"StreamNodes$Code", "closeEquation", "()V"⟩ ∈ gG := gk5 (List.mem_of_getElem? (i := 25) rfl) rfl
theorem co_Cd_closeEquation : Cond.code ⟨"StreamNodes$Code", "closeEquation", "()V"⟩ prog_3_method_6_code 1 none ∈ gG := gk5 (List.mem_of_getElem? (i := 26) rfl) rfl
theorem ml_Nr_75 : Cond.methodLink "StreamNodes$NodeReader" 75 ⟨"StreamNodes$Checker", "check", "()Z"⟩ ∈ gG := gk5 (List.mem_of_getElem? (i := 27) rfl) rfl
theorem im_Ck_check : Cond.instanceMethod ⟨"StreamNodes$Checker", "check", "()Z"⟩ ∈ gG := gk5 (List.mem_of_getElem? (i := 28) rfl) rfl
theorem se_Ck_check : Cond.selects "StreamNodes$Checker" ⟨"StreamNodes$Checker", "check", "()Z"⟩ ⟨"StreamNodes$Checker", "check", "()Z"⟩ ∈ gG := gk5 (List.mem_of_getElem? (i := 29) rfl) rfl
theorem co_Ck_check : Cond.code ⟨"StreamNodes$Checker", "check", "()Z"⟩ prog_2_method_2_code 4 (some .boolean) ∈ gG := gk5 (List.mem_of_getElem? (i := 30) rfl) rfl
theorem ml_Ck_48 : Cond.methodLink "StreamNodes$Checker" 48 ⟨"StreamNodes$Tokens", "fail", "(I)Z"⟩ ∈ gG := gk5 (List.mem_of_getElem? (i := 31) rfl) rfl
theorem ml_Ck_62 : Cond.methodLink "StreamNodes$Checker" 62 ⟨"StreamNodes$Checker", "typesFit", "(I)Z"⟩ ∈ gG := gk5 (List.mem_of_getElem? (i := 32) rfl) rfl
theorem im_Ck_typesFit : Cond.instanceMethod ⟨"StreamNodes$Checker", "typesFit", "(I)Z"⟩ ∈ gG := gk5 (List.mem_of_getElem? (i := 34) rfl) rfl
theorem co_Ck_typesFit : Cond.code ⟨"StreamNodes$Checker", "typesFit", "(I)Z"⟩ prog_2_method_3_code 6 (some .boolean) ∈ gG := gk5 (List.mem_of_getElem? (i := 35) rfl) rfl
theorem ml_Ck_80 : Cond.methodLink "StreamNodes$Checker" 80 ⟨"StreamNodes$Checker", "checkType", "(II)I"⟩ ∈ gG := gk5 (List.mem_of_getElem? (i := 36) rfl) rfl
theorem im_Ck_checkType : Cond.instanceMethod ⟨"StreamNodes$Checker", "checkType", "(II)I"⟩ ∈ gG := gk5 (List.mem_of_getElem? (i := 38) rfl) rfl
theorem co_Ck_checkType : Cond.code ⟨"StreamNodes$Checker", "checkType", "(II)I"⟩ prog_2_method_4_code 8 (some .int) ∈ gG := gk5 (List.mem_of_getElem? (i := 39) rfl) rfl
theorem ml_Ck_106 : Cond.methodLink "StreamNodes$Checker" 106 ⟨"StreamNodes$Checker", "checkCall", "(II)I"⟩ ∈ gG := gk5 (List.mem_of_getElem? (i := 40) rfl) rfl
theorem im_Ck_checkCall : Cond.instanceMethod ⟨"StreamNodes$Checker", "checkCall", "(II)I"⟩ ∈ gG := gk5 (List.mem_of_getElem? (i := 42) rfl) rfl
theorem co_Ck_checkCall : Cond.code ⟨"StreamNodes$Checker", "checkCall", "(II)I"⟩ prog_2_method_5_code 7 (some .int) ∈ gG := gk5 (List.mem_of_getElem? (i := 43) rfl) rfl
theorem ml_Ck_109 : Cond.methodLink "StreamNodes$Checker" 109 ⟨"StreamNodes$Checker", "typeOfAtom", "(I)I"⟩ ∈ gG := gk5 (List.mem_of_getElem? (i := 44) rfl) rfl
theorem im_Ck_typeOfAtom : Cond.instanceMethod ⟨"StreamNodes$Checker", "typeOfAtom", "(I)I"⟩ ∈ gG := gk5 (List.mem_of_getElem? (i := 46) rfl) rfl
theorem co_Ck_typeOfAtom : Cond.code ⟨"StreamNodes$Checker", "typeOfAtom", "(I)I"⟩ prog_2_method_6_code 2 (some .int) ∈ gG := gk5 (List.mem_of_getElem? (i := 47) rfl) rfl
theorem ml_Ck_113 : Cond.methodLink "StreamNodes$Checker" 113 ⟨"StreamNodes$Checker", "typeOfAnswer", "(II)I"⟩ ∈ gG := gk5 (List.mem_of_getElem? (i := 48) rfl) rfl
theorem sm_Ck_typeOfAnswer : Cond.static ⟨"StreamNodes$Checker", "typeOfAnswer", "(II)I"⟩ ∈ gG := gk5 (List.mem_of_getElem? (i := 49) rfl) rfl
theorem co_Ck_typeOfAnswer : Cond.code ⟨"StreamNodes$Checker", "typeOfAnswer", "(II)I"⟩ prog_2_method_8_code 2 (some .int) ∈ gG := gk5 (List.mem_of_getElem? (i := 50) rfl) rfl
theorem ml_Ck_116 : Cond.methodLink "StreamNodes$Checker" 116 ⟨"StreamNodes$Checker", "typeOfSides", "(I)I"⟩ ∈ gG := gk5 (List.mem_of_getElem? (i := 52) rfl) rfl
theorem sm_Ck_typeOfSides : Cond.static ⟨"StreamNodes$Checker", "typeOfSides", "(I)I"⟩ ∈ gG := gk5 (List.mem_of_getElem? (i := 53) rfl) rfl
theorem co_Ck_typeOfSides : Cond.code ⟨"StreamNodes$Checker", "typeOfSides", "(I)I"⟩ prog_2_method_7_code 1 (some .int) ∈ gG := gk5 (List.mem_of_getElem? (i := 54) rfl) rfl
theorem ml_Ck_96 : Cond.methodLink "StreamNodes$Checker" 96 ⟨"StreamNodes$Tokens", "failAt", "(II)Z"⟩ ∈ gG := gk5 (List.mem_of_getElem? (i := 55) rfl) rfl
theorem im_Tk_failAt : Cond.instanceMethod ⟨"StreamNodes$Tokens", "failAt", "(II)Z"⟩ ∈ gG := gk5 (List.mem_of_getElem? (i := 56) rfl) rfl
theorem se_Tk_failAt : Cond.selects "StreamNodes$Tokens" ⟨"StreamNodes$Tokens", "failAt", "(II)Z"⟩ ⟨"StreamNodes$Tokens", "failAt", "(II)Z"⟩ ∈ gG := gk5 (List.mem_of_getElem? (i := 57) rfl) rfl
theorem co_Tk_failAt : Cond.code ⟨"StreamNodes$Tokens", "failAt", "(II)Z"⟩ prog_11_method_10_code 3 (some .boolean) ∈ gG := gk5 (List.mem_of_getElem? (i := 58) rfl) rfl
theorem ml_Ck_65 : Cond.methodLink "StreamNodes$Checker" 65 ⟨"StreamNodes$Checker", "clocksFit", "(I)Z"⟩ ∈ gG := gk5 (List.mem_of_getElem? (i := 59) rfl) rfl
theorem im_Ck_clocksFit : Cond.instanceMethod ⟨"StreamNodes$Checker", "clocksFit", "(I)Z"⟩ ∈ gG := gk5 (List.mem_of_getElem? (i := 61) rfl) rfl
theorem co_Ck_clocksFit : Cond.code ⟨"StreamNodes$Checker", "clocksFit", "(I)Z"⟩ prog_2_method_9_code 6 (some .boolean) ∈ gG := gk5 (List.mem_of_getElem? (i := 62) rfl) rfl
theorem ml_Ck_128 : Cond.methodLink "StreamNodes$Checker" 128 ⟨"StreamNodes$Checker", "checkClock", "(I)Z"⟩ ∈ gG := gk5 (List.mem_of_getElem? (i := 63) rfl) rfl
theorem im_Ck_checkClock : Cond.instanceMethod ⟨"StreamNodes$Checker", "checkClock", "(I)Z"⟩ ∈ gG := gk5 (List.mem_of_getElem? (i := 65) rfl) rfl
theorem co_Ck_checkClock : Cond.code ⟨"StreamNodes$Checker", "checkClock", "(I)Z"⟩ prog_2_method_10_code 5 (some .boolean) ∈ gG := gk5 (List.mem_of_getElem? (i := 66) rfl) rfl
theorem ml_Ck_138 : Cond.methodLink "StreamNodes$Checker" 138 ⟨"StreamNodes$Checker", "joined", "(I)I"⟩ ∈ gG := gk5 (List.mem_of_getElem? (i := 67) rfl) rfl
theorem im_Ck_joined : Cond.instanceMethod ⟨"StreamNodes$Checker", "joined", "(I)I"⟩ ∈ gG := gk5 (List.mem_of_getElem? (i := 69) rfl) rfl
theorem co_Ck_joined : Cond.code ⟨"StreamNodes$Checker", "joined", "(I)I"⟩ prog_2_method_12_code 5 (some .int) ∈ gG := gk5 (List.mem_of_getElem? (i := 70) rfl) rfl
theorem ml_Ck_141 : Cond.methodLink "StreamNodes$Checker" 141 ⟨"StreamNodes$Checker", "clockOfC", "(I)I"⟩ ∈ gG := gk5 (List.mem_of_getElem? (i := 71) rfl) rfl
theorem im_Ck_clockOfC : Cond.instanceMethod ⟨"StreamNodes$Checker", "clockOfC", "(I)I"⟩ ∈ gG := gk5 (List.mem_of_getElem? (i := 73) rfl) rfl
theorem co_Ck_clockOfC : Cond.code ⟨"StreamNodes$Checker", "clockOfC", "(I)I"⟩ prog_2_method_11_code 2 (some .int) ∈ gG := gk5 (List.mem_of_getElem? (i := 74) rfl) rfl
theorem ml_Ck_134 : Cond.methodLink "StreamNodes$Checker" 134 ⟨"StreamNodes$Checker", "settle", "(II)V"⟩ ∈ gG := gk5 (List.mem_of_getElem? (i := 75) rfl) rfl
theorem im_Ck_settle : Cond.instanceMethod ⟨"StreamNodes$Checker", "settle", "(II)V"⟩ ∈ gG := gk5 (List.mem_of_getElem? (i := 77) rfl) rfl
theorem co_Ck_settle : Cond.code ⟨"StreamNodes$Checker", "settle", "(II)V"⟩ prog_2_method_13_code 7 none ∈ gG := gk5 (List.mem_of_getElem? (i := 78) rfl) rfl
theorem ml_Nr_78 : Cond.methodLink "StreamNodes$NodeReader" 78 ⟨"StreamNodes$NodeReader", "closeNode", "()Z"⟩ ∈ gG := gk5 (List.mem_of_getElem? (i := 79) rfl) rfl
theorem im_Nr_closeNode : Cond.instanceMethod ⟨"StreamNodes$NodeReader", "closeNode", "()Z"⟩ ∈ gG := gk5 (List.mem_of_getElem? (i := 81) rfl) rfl
theorem co_Nr_closeNode : Cond.code ⟨"StreamNodes$NodeReader", "closeNode", "()Z"⟩ prog_6_method_4_code 1 (some .boolean) ∈ gG := gk5 (List.mem_of_getElem? (i := 82) rfl) rfl
theorem ml_Nr_81 : Cond.methodLink "StreamNodes$NodeReader" 81 ⟨"StreamNodes$Nodes", "close", "(LStreamNodes$Code;)V"⟩ ∈ gG := gk5 (List.mem_of_getElem? (i := 83) rfl) rfl
theorem im_Nd_close : Cond.instanceMethod ⟨"StreamNodes$Nodes", "close", "(LStreamNodes$Code;)V"⟩ ∈ gG := gk5 (List.mem_of_getElem? (i := 84) rfl) rfl
theorem se_Nd_close : Cond.selects "StreamNodes$Nodes" ⟨"StreamNodes$Nodes", "close", "(LStreamNodes$Code;)V"⟩ ⟨"StreamNodes$Nodes", "close", "(LStreamNodes$Code;)V"⟩ ∈ gG := gk5 (List.mem_of_getElem? (i := 85) rfl) rfl
theorem co_Nd_close : Cond.code ⟨"StreamNodes$Nodes", "close", "(LStreamNodes$Code;)V"⟩ prog_7_method_6_code 8 none ∈ gG := gk5 (List.mem_of_getElem? (i := 86) rfl) rfl
theorem ct_Nd_76 : Cond.constant "StreamNodes$Nodes" 76 1000000 ∈ gG := gk5 (List.mem_of_getElem? (i := 87) rfl) rfl
theorem ml_Nd_77 : Cond.methodLink "StreamNodes$Nodes" 77 ⟨"java/lang/Math", "min", "(II)I"⟩ ∈ gG := gk5 (List.mem_of_getElem? (i := 88) rfl) rfl
theorem sm_java_lang_Math_min : Cond.static ⟨"java/lang/Math", "min", "(II)I"⟩ ∈ gG := gk5 (List.mem_of_getElem? (i := 89) rfl) rfl
theorem co_java_lang_Math_min : Cond.code ⟨"java/lang/Math", "min", "(II)I"⟩ prog_19_method_69_code 2 (some .int) ∈ gG := gk5 (List.mem_of_getElem? (i := 90) rfl) rfl
theorem ml_S_133 : Cond.methodLink "StreamNodes" 133 ⟨"StreamNodes$Tokens", "kindNow", "()I"⟩ ∈ gG := gk5 (List.mem_of_getElem? (i := 91) rfl) rfl
theorem ml_S_139 : Cond.methodLink "StreamNodes" 139 ⟨"StreamNodes", "sizesFit", "()Z"⟩ ∈ gG := gk5 (List.mem_of_getElem? (i := 92) rfl) rfl
theorem im_S_sizesFit : Cond.instanceMethod ⟨"StreamNodes", "sizesFit", "()Z"⟩ ∈ gG := gk5 (List.mem_of_getElem? (i := 94) rfl) rfl
theorem co_S_sizesFit : Cond.code ⟨"StreamNodes", "sizesFit", "()Z"⟩ prog_1_method_18_code 3 (some .boolean) ∈ gG := gk5 (List.mem_of_getElem? (i := 95) rfl) rfl
theorem ml_S_229 : Cond.methodLink "StreamNodes" 229 ⟨"StreamNodes$Tokens", "fail", "(I)Z"⟩ ∈ gG := gk5 (List.mem_of_getElem? (i := 96) rfl) rfl
theorem ml_S_142 : Cond.methodLink "StreamNodes" 142 ⟨"StreamNodes", "causesFit", "()Z"⟩ ∈ gG := gk5 (List.mem_of_getElem? (i := 97) rfl) rfl
theorem im_S_causesFit : Cond.instanceMethod ⟨"StreamNodes", "causesFit", "()Z"⟩ ∈ gG := gk5 (List.mem_of_getElem? (i := 99) rfl) rfl
theorem co_S_causesFit : Cond.code ⟨"StreamNodes", "causesFit", "()Z"⟩ prog_1_method_19_code 1 (some .boolean) ∈ gG := gk5 (List.mem_of_getElem? (i := 100) rfl) rfl
theorem ml_S_232 : Cond.methodLink "StreamNodes" 232 ⟨"StreamNodes$Linker", "link", "(I)V"⟩ ∈ gG := gk5 (List.mem_of_getElem? (i := 101) rfl) rfl
theorem im_Lk_link : Cond.instanceMethod ⟨"StreamNodes$Linker", "link", "(I)V"⟩ ∈ gG := gk5 (List.mem_of_getElem? (i := 102) rfl) rfl
theorem se_Lk_link : Cond.selects "StreamNodes$Linker" ⟨"StreamNodes$Linker", "link", "(I)V"⟩ ⟨"StreamNodes$Linker", "link", "(I)V"⟩ ∈ gG := gk5 (List.mem_of_getElem? (i := 103) rfl) rfl
theorem co_Lk_link : Cond.code ⟨"StreamNodes$Linker", "link", "(I)V"⟩ prog_5_method_2_code 4 none ∈ gG := gk5 (List.mem_of_getElem? (i := 104) rfl) rfl
theorem ml_Lk_50 : Cond.methodLink "StreamNodes$Linker" 50 ⟨"StreamNodes$Slots", "begin", "(I)V"⟩ ∈ gG := gk5 (List.mem_of_getElem? (i := 105) rfl) rfl
theorem im_Sl_begin : Cond.instanceMethod ⟨"StreamNodes$Slots", "begin", "(I)V"⟩ ∈ gG := gk5 (List.mem_of_getElem? (i := 106) rfl) rfl
theorem se_Sl_begin : Cond.selects "StreamNodes$Slots" ⟨"StreamNodes$Slots", "begin", "(I)V"⟩ ⟨"StreamNodes$Slots", "begin", "(I)V"⟩ ∈ gG := gk5 (List.mem_of_getElem? (i := 107) rfl) rfl
theorem co_Sl_begin : Cond.code ⟨"StreamNodes$Slots", "begin", "(I)V"⟩ prog_10_method_2_code 2 none ∈ gG := gk5 (List.mem_of_getElem? (i := 108) rfl) rfl
theorem ml_Lk_66 : Cond.methodLink "StreamNodes$Linker" 66 ⟨"StreamNodes$Slots", "add", "(II)I"⟩ ∈ gG := gk5 (List.mem_of_getElem? (i := 109) rfl) rfl
theorem im_Sl_add : Cond.instanceMethod ⟨"StreamNodes$Slots", "add", "(II)I"⟩ ∈ gG := gk5 (List.mem_of_getElem? (i := 110) rfl) rfl
theorem se_Sl_add : Cond.selects "StreamNodes$Slots" ⟨"StreamNodes$Slots", "add", "(II)I"⟩ ⟨"StreamNodes$Slots", "add", "(II)I"⟩ ∈ gG := gk5 (List.mem_of_getElem? (i := 111) rfl) rfl
theorem co_Sl_add : Cond.code ⟨"StreamNodes$Slots", "add", "(II)I"⟩ prog_10_method_3_code 3 (some .int) ∈ gG := gk5 (List.mem_of_getElem? (i := 112) rfl) rfl
theorem ml_Sl_49 : Cond.methodLink "StreamNodes$Slots" 49 ⟨"StreamNodes$Slots", "set", "(III)V"⟩ ∈ gG := gk5 (List.mem_of_getElem? (i := 113) rfl) rfl
theorem im_Sl_set : Cond.instanceMethod ⟨"StreamNodes$Slots", "set", "(III)V"⟩ ∈ gG := gk5 (List.mem_of_getElem? (i := 114) rfl) rfl
theorem se_Sl_set : Cond.selects "StreamNodes$Slots" ⟨"StreamNodes$Slots", "set", "(III)V"⟩ ⟨"StreamNodes$Slots", "set", "(III)V"⟩ ∈ gG := gk5 (List.mem_of_getElem? (i := 115) rfl) rfl
theorem co_Sl_set : Cond.code ⟨"StreamNodes$Slots", "set", "(III)V"⟩ prog_10_method_4_code 4 none ∈ gG := gk5 (List.mem_of_getElem? (i := 116) rfl) rfl
theorem ml_Lk_73 : Cond.methodLink "StreamNodes$Linker" 73 ⟨"StreamNodes$Linker", "openNode", "(III)V"⟩ ∈ gG := gk5 (List.mem_of_getElem? (i := 117) rfl) rfl
theorem im_Lk_openNode : Cond.instanceMethod ⟨"StreamNodes$Linker", "openNode", "(III)V"⟩ ∈ gG := gk5 (List.mem_of_getElem? (i := 119) rfl) rfl
theorem co_Lk_openNode : Cond.code ⟨"StreamNodes$Linker", "openNode", "(III)V"⟩ prog_5_method_4_code 7 none ∈ gG := gk5 (List.mem_of_getElem? (i := 120) rfl) rfl
theorem ml_Lk_107 : Cond.methodLink "StreamNodes$Linker" 107 ⟨"StreamNodes$Slots", "set", "(III)V"⟩ ∈ gG := gk5 (List.mem_of_getElem? (i := 121) rfl) rfl
theorem ml_Lk_112 : Cond.methodLink "StreamNodes$Linker" 112 ⟨"StreamNodes$Linker", "putInClock", "(II)I"⟩ ∈ gG := gk5 (List.mem_of_getElem? (i := 122) rfl) rfl
theorem im_Lk_putInClock : Cond.instanceMethod ⟨"StreamNodes$Linker", "putInClock", "(II)I"⟩ ∈ gG := gk5 (List.mem_of_getElem? (i := 124) rfl) rfl
theorem co_Lk_putInClock : Cond.code ⟨"StreamNodes$Linker", "putInClock", "(II)I"⟩ prog_5_method_5_code 3 (some .int) ∈ gG := gk5 (List.mem_of_getElem? (i := 125) rfl) rfl
theorem ml_Lk_118 : Cond.methodLink "StreamNodes$Linker" 118 ⟨"StreamNodes$Slots", "slotOfC", "(I)I"⟩ ∈ gG := gk5 (List.mem_of_getElem? (i := 126) rfl) rfl
theorem sm_Sl_slotOfC : Cond.static ⟨"StreamNodes$Slots", "slotOfC", "(I)I"⟩ ∈ gG := gk5 (List.mem_of_getElem? (i := 127) rfl) rfl
theorem co_Sl_slotOfC : Cond.code ⟨"StreamNodes$Slots", "slotOfC", "(I)I"⟩ prog_10_method_7_code 1 (some .int) ∈ gG := gk5 (List.mem_of_getElem? (i := 128) rfl) rfl
theorem ml_Lk_77 : Cond.methodLink "StreamNodes$Linker" 77 ⟨"StreamNodes$Linker", "goOn", "(I)V"⟩ ∈ gG := gk5 (List.mem_of_getElem? (i := 129) rfl) rfl
theorem im_Lk_goOn : Cond.instanceMethod ⟨"StreamNodes$Linker", "goOn", "(I)V"⟩ ∈ gG := gk5 (List.mem_of_getElem? (i := 131) rfl) rfl
theorem co_Lk_goOn : Cond.code ⟨"StreamNodes$Linker", "goOn", "(I)V"⟩ prog_5_method_3_code 4 none ∈ gG := gk5 (List.mem_of_getElem? (i := 132) rfl) rfl
theorem ml_Lk_91 : Cond.methodLink "StreamNodes$Linker" 91 ⟨"StreamNodes$Linker", "take", "(II)V"⟩ ∈ gG := gk5 (List.mem_of_getElem? (i := 133) rfl) rfl
theorem im_Lk_take : Cond.instanceMethod ⟨"StreamNodes$Linker", "take", "(II)V"⟩ ∈ gG := gk5 (List.mem_of_getElem? (i := 135) rfl) rfl
theorem co_Lk_take : Cond.code ⟨"StreamNodes$Linker", "take", "(II)V"⟩ prog_5_method_7_code 4 none ∈ gG := gk5 (List.mem_of_getElem? (i := 136) rfl) rfl
theorem ml_Lk_149 : Cond.methodLink "StreamNodes$Linker" 149 ⟨"StreamNodes$Linker", "push", "(I)V"⟩ ∈ gG := gk5 (List.mem_of_getElem? (i := 137) rfl) rfl
theorem im_Lk_push : Cond.instanceMethod ⟨"StreamNodes$Linker", "push", "(I)V"⟩ ∈ gG := gk5 (List.mem_of_getElem? (i := 139) rfl) rfl
theorem co_Lk_push : Cond.code ⟨"StreamNodes$Linker", "push", "(I)V"⟩ prog_5_method_8_code 2 none ∈ gG := gk5 (List.mem_of_getElem? (i := 140) rfl) rfl
theorem ml_Lk_152 : Cond.methodLink "StreamNodes$Linker" 152 ⟨"StreamNodes$Linker", "takeCall", "(II)V"⟩ ∈ gG := gk5 (List.mem_of_getElem? (i := 141) rfl) rfl
theorem im_Lk_takeCall : Cond.instanceMethod ⟨"StreamNodes$Linker", "takeCall", "(II)V"⟩ ∈ gG := gk5 (List.mem_of_getElem? (i := 143) rfl) rfl
theorem co_Lk_takeCall : Cond.code ⟨"StreamNodes$Linker", "takeCall", "(II)V"⟩ prog_5_method_9_code 7 none ∈ gG := gk5 (List.mem_of_getElem? (i := 144) rfl) rfl
theorem ml_Lk_155 : Cond.methodLink "StreamNodes$Linker" 155 ⟨"StreamNodes$Linker", "takeOperator", "(III)V"⟩ ∈ gG := gk5 (List.mem_of_getElem? (i := 145) rfl) rfl
theorem im_Lk_takeOperator : Cond.instanceMethod ⟨"StreamNodes$Linker", "takeOperator", "(III)V"⟩ ∈ gG := gk5 (List.mem_of_getElem? (i := 147) rfl) rfl
theorem co_Lk_takeOperator : Cond.code ⟨"StreamNodes$Linker", "takeOperator", "(III)V"⟩ prog_5_method_10_code 7 none ∈ gG := gk5 (List.mem_of_getElem? (i := 148) rfl) rfl
theorem ml_Lk_174 : Cond.methodLink "StreamNodes$Linker" 174 ⟨"StreamNodes$Slots", "addCell", "(II)V"⟩ ∈ gG := gk5 (List.mem_of_getElem? (i := 149) rfl) rfl
theorem im_Sl_addCell : Cond.instanceMethod ⟨"StreamNodes$Slots", "addCell", "(II)V"⟩ ∈ gG := gk5 (List.mem_of_getElem? (i := 150) rfl) rfl
theorem se_Sl_addCell : Cond.selects "StreamNodes$Slots" ⟨"StreamNodes$Slots", "addCell", "(II)V"⟩ ⟨"StreamNodes$Slots", "addCell", "(II)V"⟩ ∈ gG := gk5 (List.mem_of_getElem? (i := 151) rfl) rfl
theorem co_Sl_addCell : Cond.code ⟨"StreamNodes$Slots", "addCell", "(II)V"⟩ prog_10_method_5_code 3 none ∈ gG := gk5 (List.mem_of_getElem? (i := 152) rfl) rfl
theorem ml_Lk_95 : Cond.methodLink "StreamNodes$Linker" 95 ⟨"StreamNodes$Linker", "define", "(II)V"⟩ ∈ gG := gk5 (List.mem_of_getElem? (i := 153) rfl) rfl
theorem im_Lk_define : Cond.instanceMethod ⟨"StreamNodes$Linker", "define", "(II)V"⟩ ∈ gG := gk5 (List.mem_of_getElem? (i := 155) rfl) rfl
theorem co_Lk_define : Cond.code ⟨"StreamNodes$Linker", "define", "(II)V"⟩ prog_5_method_6_code 5 none ∈ gG := gk5 (List.mem_of_getElem? (i := 156) rfl) rfl
theorem ml_S_235 : Cond.methodLink "StreamNodes" 235 ⟨"StreamNodes$Order", "sort", "()V"⟩ ∈ gG := gk5 (List.mem_of_getElem? (i := 157) rfl) rfl
theorem im_Od_sort : Cond.instanceMethod ⟨"StreamNodes$Order", "sort", "()V"⟩ ∈ gG := gk5 (List.mem_of_getElem? (i := 158) rfl) rfl
theorem se_Od_sort : Cond.selects "StreamNodes$Order" ⟨"StreamNodes$Order", "sort", "()V"⟩ ⟨"StreamNodes$Order", "sort", "()V"⟩ ∈ gG := gk5 (List.mem_of_getElem? (i := 159) rfl) rfl
theorem co_Od_sort : Cond.code ⟨"StreamNodes$Order", "sort", "()V"⟩ prog_8_method_2_code 4 none ∈ gG := gk5 (List.mem_of_getElem? (i := 160) rfl) rfl
theorem ml_Od_43 : Cond.methodLink "StreamNodes$Order" 43 ⟨"java/util/Arrays", "fill", "([IIII)V"⟩ ∈ gG := gk5 (List.mem_of_getElem? (i := 161) rfl) rfl
theorem sm_java_util_Arrays_fill_1 : Cond.static ⟨"java/util/Arrays", "fill", "([IIII)V"⟩ ∈ gG := gk5 (List.mem_of_getElem? (i := 162) rfl) rfl
theorem co_java_util_Arrays_fill_1 : Cond.code ⟨"java/util/Arrays", "fill", "([IIII)V"⟩ prog_26_method_104_code 5 none ∈ gG := gk5 (List.mem_of_getElem? (i := 163) rfl) rfl
theorem ml_java_util_Arrays_13 : Cond.methodLink "java/util/Arrays" 13 ⟨"java/util/Arrays", "rangeCheck", "(III)V"⟩ ∈ gG := gk5 (List.mem_of_getElem? (i := 164) rfl) rfl
theorem sm_java_util_Arrays_rangeCheck : Cond.static ⟨"java/util/Arrays", "rangeCheck", "(III)V"⟩ ∈ gG := gk5 (List.mem_of_getElem? (i := 165) rfl) rfl
theorem co_java_util_Arrays_rangeCheck : Cond.code ⟨"java/util/Arrays", "rangeCheck", "(III)V"⟩ prog_26_method_30_code 3 none ∈ gG := gk5 (List.mem_of_getElem? (i := 166) rfl) rfl
theorem ml_Od_67 : Cond.methodLink "StreamNodes$Order" 67 ⟨"StreamNodes$Order", "openSlot", "(I)V"⟩ ∈ gG := gk5 (List.mem_of_getElem? (i := 167) rfl) rfl
theorem im_Od_openSlot : Cond.instanceMethod ⟨"StreamNodes$Order", "openSlot", "(I)V"⟩ ∈ gG := gk5 (List.mem_of_getElem? (i := 169) rfl) rfl
theorem co_Od_openSlot : Cond.code ⟨"StreamNodes$Order", "openSlot", "(I)V"⟩ prog_8_method_3_code 2 none ∈ gG := gk5 (List.mem_of_getElem? (i := 170) rfl) rfl
theorem ml_Od_71 : Cond.methodLink "StreamNodes$Order" 71 ⟨"StreamNodes$Order", "advance", "(I)V"⟩ ∈ gG := gk5 (List.mem_of_getElem? (i := 171) rfl) rfl
theorem im_Od_advance : Cond.instanceMethod ⟨"StreamNodes$Order", "advance", "(I)V"⟩ ∈ gG := gk5 (List.mem_of_getElem? (i := 173) rfl) rfl
theorem co_Od_advance : Cond.code ⟨"StreamNodes$Order", "advance", "(I)V"⟩ prog_8_method_4_code 3 none ∈ gG := gk5 (List.mem_of_getElem? (i := 174) rfl) rfl
theorem ml_Od_74 : Cond.methodLink "StreamNodes$Order" 74 ⟨"StreamNodes$Order", "closeSlot", "(I)V"⟩ ∈ gG := gk5 (List.mem_of_getElem? (i := 175) rfl) rfl
theorem im_Od_closeSlot : Cond.instanceMethod ⟨"StreamNodes$Order", "closeSlot", "(I)V"⟩ ∈ gG := gk5 (List.mem_of_getElem? (i := 177) rfl) rfl
theorem co_Od_closeSlot : Cond.code ⟨"StreamNodes$Order", "closeSlot", "(I)V"⟩ prog_8_method_5_code 3 none ∈ gG := gk5 (List.mem_of_getElem? (i := 178) rfl) rfl
theorem ml_Od_83 : Cond.methodLink "StreamNodes$Order" 83 ⟨"java/lang/Math", "min", "(II)I"⟩ ∈ gG := gk5 (List.mem_of_getElem? (i := 179) rfl) rfl
theorem ml_Od_88 : Cond.methodLink "StreamNodes$Order" 88 ⟨"StreamNodes$Order", "takeCircle", "(I)V"⟩ ∈ gG := gk5 (List.mem_of_getElem? (i := 180) rfl) rfl
theorem im_Od_takeCircle : Cond.instanceMethod ⟨"StreamNodes$Order", "takeCircle", "(I)V"⟩ ∈ gG := gk5 (List.mem_of_getElem? (i := 182) rfl) rfl
theorem co_Od_takeCircle : Cond.code ⟨"StreamNodes$Order", "takeCircle", "(I)V"⟩ prog_8_method_6_code 5 none ∈ gG := gk5 (List.mem_of_getElem? (i := 183) rfl) rfl
theorem ml_Od_80 : Cond.methodLink "StreamNodes$Order" 80 ⟨"StreamNodes$Order", "noteOwnCause", "(I)V"⟩ ∈ gG := gk5 (List.mem_of_getElem? (i := 184) rfl) rfl
theorem im_Od_noteOwnCause : Cond.instanceMethod ⟨"StreamNodes$Order", "noteOwnCause", "(I)V"⟩ ∈ gG := gk5 (List.mem_of_getElem? (i := 186) rfl) rfl
theorem co_Od_noteOwnCause : Cond.code ⟨"StreamNodes$Order", "noteOwnCause", "(I)V"⟩ prog_8_method_7_code 2 none ∈ gG := gk5 (List.mem_of_getElem? (i := 187) rfl) rfl
theorem ml_Od_77 : Cond.methodLink "StreamNodes$Order" 77 ⟨"StreamNodes$Slots", "side", "(II)I"⟩ ∈ gG := gk5 (List.mem_of_getElem? (i := 188) rfl) rfl
theorem im_Sl_side : Cond.instanceMethod ⟨"StreamNodes$Slots", "side", "(II)I"⟩ ∈ gG := gk5 (List.mem_of_getElem? (i := 189) rfl) rfl
theorem se_Sl_side : Cond.selects "StreamNodes$Slots" ⟨"StreamNodes$Slots", "side", "(II)I"⟩ ⟨"StreamNodes$Slots", "side", "(II)I"⟩ ∈ gG := gk5 (List.mem_of_getElem? (i := 190) rfl) rfl
theorem co_Sl_side : Cond.code ⟨"StreamNodes$Slots", "side", "(II)I"⟩ prog_10_method_6_code 3 (some .int) ∈ gG := gk5 (List.mem_of_getElem? (i := 191) rfl) rfl
theorem ml_S_244 : Cond.methodLink "StreamNodes" 244 ⟨"StreamNodes$Tokens", "failAt", "(II)Z"⟩ ∈ gG := gk5 (List.mem_of_getElem? (i := 192) rfl) rfl
theorem ml_S_154 : Cond.methodLink "StreamNodes" 154 ⟨"StreamNodes$Program", "build", "(II)V"⟩ ∈ gG := gk5 (List.mem_of_getElem? (i := 193) rfl) rfl
theorem im_Pg_build : Cond.instanceMethod ⟨"StreamNodes$Program", "build", "(II)V"⟩ ∈ gG := gk5 (List.mem_of_getElem? (i := 194) rfl) rfl
theorem se_Pg_build : Cond.selects "StreamNodes$Program" ⟨"StreamNodes$Program", "build", "(II)V"⟩ ⟨"StreamNodes$Program", "build", "(II)V"⟩ ∈ gG := gk5 (List.mem_of_getElem? (i := 195) rfl) rfl
theorem co_Pg_build : Cond.code ⟨"StreamNodes$Program", "build", "(II)V"⟩ prog_9_method_2_code 4 none ∈ gG := gk5 (List.mem_of_getElem? (i := 196) rfl) rfl
theorem ml_Pg_64 : Cond.methodLink "StreamNodes$Program" 64 ⟨"StreamNodes$Program", "buildSteps", "()V"⟩ ∈ gG := gk5 (List.mem_of_getElem? (i := 197) rfl) rfl
theorem im_Pg_buildSteps : Cond.instanceMethod ⟨"StreamNodes$Program", "buildSteps", "()V"⟩ ∈ gG := gk5 (List.mem_of_getElem? (i := 199) rfl) rfl
theorem co_Pg_buildSteps : Cond.code ⟨"StreamNodes$Program", "buildSteps", "()V"⟩ prog_9_method_3_code 3 none ∈ gG := gk5 (List.mem_of_getElem? (i := 200) rfl) rfl
theorem ml_Pg_104 : Cond.methodLink "StreamNodes$Program" 104 ⟨"StreamNodes$Program", "addStep", "(I)V"⟩ ∈ gG := gk5 (List.mem_of_getElem? (i := 201) rfl) rfl
theorem im_Pg_addStep : Cond.instanceMethod ⟨"StreamNodes$Program", "addStep", "(I)V"⟩ ∈ gG := gk5 (List.mem_of_getElem? (i := 203) rfl) rfl
theorem co_Pg_addStep : Cond.code ⟨"StreamNodes$Program", "addStep", "(I)V"⟩ prog_9_method_4_code 2 none ∈ gG := gk5 (List.mem_of_getElem? (i := 204) rfl) rfl
theorem ml_Pg_108 : Cond.methodLink "StreamNodes$Program" 108 ⟨"StreamNodes$Program", "madeOf", "(I)I"⟩ ∈ gG := gk5 (List.mem_of_getElem? (i := 205) rfl) rfl
theorem im_Pg_madeOf : Cond.instanceMethod ⟨"StreamNodes$Program", "madeOf", "(I)I"⟩ ∈ gG := gk5 (List.mem_of_getElem? (i := 207) rfl) rfl
theorem co_Pg_madeOf : Cond.code ⟨"StreamNodes$Program", "madeOf", "(I)I"⟩ prog_9_method_5_code 2 (some .int) ∈ gG := gk5 (List.mem_of_getElem? (i := 208) rfl) rfl
theorem ml_Pg_67 : Cond.methodLink "StreamNodes$Program" 67 ⟨"StreamNodes$Program", "buildClocks", "()V"⟩ ∈ gG := gk5 (List.mem_of_getElem? (i := 209) rfl) rfl
theorem im_Pg_buildClocks : Cond.instanceMethod ⟨"StreamNodes$Program", "buildClocks", "()V"⟩ ∈ gG := gk5 (List.mem_of_getElem? (i := 211) rfl) rfl
theorem co_Pg_buildClocks : Cond.code ⟨"StreamNodes$Program", "buildClocks", "()V"⟩ prog_9_method_6_code 3 none ∈ gG := gk5 (List.mem_of_getElem? (i := 212) rfl) rfl
theorem ml_Pg_121 : Cond.methodLink "StreamNodes$Program" 121 ⟨"java/util/Arrays", "fill", "([IIII)V"⟩ ∈ gG := gk5 (List.mem_of_getElem? (i := 213) rfl) rfl
theorem ml_Pg_133 : Cond.methodLink "StreamNodes$Program" 133 ⟨"StreamNodes$Program", "numberClocks", "(I)V"⟩ ∈ gG := gk5 (List.mem_of_getElem? (i := 214) rfl) rfl
theorem im_Pg_numberClocks : Cond.instanceMethod ⟨"StreamNodes$Program", "numberClocks", "(I)V"⟩ ∈ gG := gk5 (List.mem_of_getElem? (i := 216) rfl) rfl
theorem co_Pg_numberClocks : Cond.code ⟨"StreamNodes$Program", "numberClocks", "(I)V"⟩ prog_9_method_7_code 5 none ∈ gG := gk5 (List.mem_of_getElem? (i := 217) rfl) rfl
theorem ml_Pg_136 : Cond.methodLink "StreamNodes$Program" 136 ⟨"StreamNodes$Slots", "slotOfC", "(I)I"⟩ ∈ gG := gk5 (List.mem_of_getElem? (i := 218) rfl) rfl
theorem ml_Pg_81 : Cond.methodLink "StreamNodes$Program" 81 ⟨"StreamNodes$Program", "clear", "()V"⟩ ∈ gG := gk5 (List.mem_of_getElem? (i := 219) rfl) rfl
theorem im_Pg_clear : Cond.instanceMethod ⟨"StreamNodes$Program", "clear", "()V"⟩ ∈ gG := gk5 (List.mem_of_getElem? (i := 220) rfl) rfl
theorem se_Pg_clear : Cond.selects "StreamNodes$Program" ⟨"StreamNodes$Program", "clear", "()V"⟩ ⟨"StreamNodes$Program", "clear", "()V"⟩ ∈ gG := gk5 (List.mem_of_getElem? (i := 221) rfl) rfl
theorem co_Pg_clear : Cond.code ⟨"StreamNodes$Program", "clear", "()V"⟩ prog_9_method_12_code 1 none ∈ gG := gk5 (List.mem_of_getElem? (i := 222) rfl) rfl
theorem ml_S_158 : Cond.methodLink "StreamNodes" 158 ⟨"java/util/Arrays", "fill", "([II)V"⟩ ∈ gG := gk5 (List.mem_of_getElem? (i := 223) rfl) rfl
theorem ml_L_72 : Cond.methodLink "StreamNodesLaw" 72 ⟨"StreamNodes", "fault", "(I)I"⟩ ∈ gG := gk5 (List.mem_of_getElem? (i := 224) rfl) rfl
theorem im_S_fault : Cond.instanceMethod ⟨"StreamNodes", "fault", "(I)I"⟩ ∈ gG := gk5 (List.mem_of_getElem? (i := 225) rfl) rfl
theorem se_S_fault : Cond.selects "StreamNodes" ⟨"StreamNodes", "fault", "(I)I"⟩ ⟨"StreamNodes", "fault", "(I)I"⟩ ∈ gG := gk5 (List.mem_of_getElem? (i := 226) rfl) rfl
theorem co_S_fault : Cond.code ⟨"StreamNodes", "fault", "(I)I"⟩ prog_1_method_5_code 2 (some .int) ∈ gG := gk5 (List.mem_of_getElem? (i := 227) rfl) rfl
theorem ml_L_103 : Cond.methodLink "StreamNodesLaw" 103 ⟨"StreamNodes", "count", "(I)I"⟩ ∈ gG := gk5 (List.mem_of_getElem? (i := 228) rfl) rfl
theorem im_S_count : Cond.instanceMethod ⟨"StreamNodes", "count", "(I)I"⟩ ∈ gG := gk5 (List.mem_of_getElem? (i := 229) rfl) rfl
theorem se_S_count : Cond.selects "StreamNodes" ⟨"StreamNodes", "count", "(I)I"⟩ ⟨"StreamNodes", "count", "(I)I"⟩ ∈ gG := gk5 (List.mem_of_getElem? (i := 230) rfl) rfl
theorem co_S_count : Cond.code ⟨"StreamNodes", "count", "(I)I"⟩ prog_1_method_14_code 2 (some .int) ∈ gG := gk5 (List.mem_of_getElem? (i := 231) rfl) rfl
theorem ml_S_210 : Cond.methodLink "StreamNodes" 210 ⟨"StreamNodes", "countOfProgram", "(I)I"⟩ ∈ gG := gk5 (List.mem_of_getElem? (i := 232) rfl) rfl
theorem im_S_countOfProgram : Cond.instanceMethod ⟨"StreamNodes", "countOfProgram", "(I)I"⟩ ∈ gG := gk5 (List.mem_of_getElem? (i := 234) rfl) rfl
theorem co_S_countOfProgram : Cond.code ⟨"StreamNodes", "countOfProgram", "(I)I"⟩ prog_1_method_15_code 2 (some .int) ∈ gG := gk5 (List.mem_of_getElem? (i := 235) rfl) rfl
theorem ml_L_55 : Cond.methodLink "StreamNodesLaw" 55 ⟨"StreamNodesLaw", "feed", "(LStreamNodes;IIIII[J)I"⟩ ∈ gG := gk5 (List.mem_of_getElem? (i := 236) rfl) rfl
theorem sm_L_feed : Cond.static ⟨"StreamNodesLaw", "feed", "(LStreamNodes;IIIII[J)I"⟩ ∈ gG := gk5 (List.mem_of_getElem? (i := 237) rfl) rfl
theorem cw_L_feed : Cond.codeWith ⟨"StreamNodesLaw", "feed", "(LStreamNodes;IIIII[J)I"⟩ method_3_code 8 (some .int) [(0, 16, 19, 13)] ∈ gG := gk5 (List.mem_of_getElem? (i := 238) rfl) rfl
theorem cl_L_13 : Cond.classLink "StreamNodesLaw" 13 "java/lang/IllegalStateException" ∈ gG := gk5 (List.mem_of_getElem? (i := 239) rfl) rfl
theorem ml_L_7 : Cond.methodLink "StreamNodesLaw" 7 ⟨"StreamNodes", "feed", "(IIIII)I"⟩ ∈ gG := gk6 (List.mem_of_getElem? (i := 0) rfl) rfl
theorem im_S_feed : Cond.instanceMethod ⟨"StreamNodes", "feed", "(IIIII)I"⟩ ∈ gG := gk6 (List.mem_of_getElem? (i := 1) rfl) rfl
theorem se_S_feed : Cond.selects "StreamNodes" ⟨"StreamNodes", "feed", "(IIIII)I"⟩ ⟨"StreamNodes", "feed", "(IIIII)I"⟩ ∈ gG := gk6 (List.mem_of_getElem? (i := 2) rfl) rfl
theorem co_S_feed : Cond.code ⟨"StreamNodes", "feed", "(IIIII)I"⟩ prog_1_method_2_code 6 (some .int) ∈ gG := gk6 (List.mem_of_getElem? (i := 3) rfl) rfl
theorem cl_S_103 : Cond.classLink "StreamNodes" 103 "java/lang/IllegalStateException" ∈ gG := gk6 (List.mem_of_getElem? (i := 4) rfl) rfl
theorem ia_java_lang_IllegalStateException : Cond.instantiable "java/lang/IllegalStateException" 6 ∈ gG := gk6 (List.mem_of_getElem? (i := 5) rfl) rfl
theorem se_java_lang_IllegalStateException_java_lang_Throwable_fillInStackTrace : Cond.selects "java/lang/IllegalStateException" ⟨"java/lang/Throwable", "fillInStackTrace", "(I)Ljava/lang/Throwable;"⟩ ⟨"java/lang/Throwable", "fillInStackTrace", "(I)Ljava/lang/Throwable;"⟩ ∈ gG := gk6 (List.mem_of_getElem? (i := 13) rfl) rfl
theorem fl_java_lang_Throwable_198 : Cond.fieldLink "java/lang/Throwable" 198 "java/lang/Throwable" "backtrace" "Ljava/lang/Object;" ∈ gG := gk6 (List.mem_of_getElem? (i := 25) rfl) rfl
theorem nt_su_java_lang_Throwable : Cond.superclass "java/lang/Throwable" "java/lang/Object" ∈ tables_1 := gm6 (List.mem_of_getElem? (i := 26) rfl)
theorem im_java_lang_Throwable_init_0 : Cond.instanceMethod ⟨"java/lang/Throwable", "<init>", "()V"⟩ ∈ gG := gk6 (List.mem_of_getElem? (i := 27) rfl) rfl
theorem co_java_lang_Throwable_init_0 : Cond.code ⟨"java/lang/Throwable", "<init>", "()V"⟩ prog_25_method_1_code 1 none ∈ gG := gk6 (List.mem_of_getElem? (i := 28) rfl) rfl
theorem ml_java_lang_Throwable_1 : Cond.methodLink "java/lang/Throwable" 1 ⟨"java/lang/Object", "<init>", "()V"⟩ ∈ gG := gk6 (List.mem_of_getElem? (i := 29) rfl) rfl
theorem fl_java_lang_Throwable_13 : Cond.fieldLink "java/lang/Throwable" 13 "java/lang/Throwable" "UNASSIGNED_STACK" "[Ljava/lang/StackTraceElement;" ∈ gG := gk6 (List.mem_of_getElem? (i := 30) rfl) rfl
theorem fl_java_lang_Throwable_20 : Cond.fieldLink "java/lang/Throwable" 20 "java/lang/Throwable" "SUPPRESSED_SENTINEL" "Ljava/util/List;" ∈ gG := gk6 (List.mem_of_getElem? (i := 32) rfl) rfl
theorem ml_java_lang_Throwable_27 : Cond.methodLink "java/lang/Throwable" 27 ⟨"java/lang/Throwable", "fillInStackTrace", "()Ljava/lang/Throwable;"⟩ ∈ gG := gk6 (List.mem_of_getElem? (i := 34) rfl) rfl
theorem im_java_lang_Throwable_fillInStackTrace : Cond.instanceMethod ⟨"java/lang/Throwable", "fillInStackTrace", "()Ljava/lang/Throwable;"⟩ ∈ gG := gk6 (List.mem_of_getElem? (i := 35) rfl) rfl
theorem se_Wr_java_lang_Throwable_fillInStackTrace : Cond.selects "StreamNodesModel$Wrong" ⟨"java/lang/Throwable", "fillInStackTrace", "()Ljava/lang/Throwable;"⟩ ⟨"java/lang/Throwable", "fillInStackTrace", "()Ljava/lang/Throwable;"⟩ ∈ gG := gk6 (List.mem_of_getElem? (i := 37) rfl) rfl
theorem se_java_lang_IllegalArgumentException_java_lang_Throwable_fillInStackTrace : Cond.selects "java/lang/IllegalArgumentException" ⟨"java/lang/Throwable", "fillInStackTrace", "()Ljava/lang/Throwable;"⟩ ⟨"java/lang/Throwable", "fillInStackTrace", "()Ljava/lang/Throwable;"⟩ ∈ gG := gk6 (List.mem_of_getElem? (i := 38) rfl) rfl
theorem se_java_util_NoSuchElementException_java_lang_Throwable_fillInStackTrace : Cond.selects "java/util/NoSuchElementException" ⟨"java/lang/Throwable", "fillInStackTrace", "()Ljava/lang/Throwable;"⟩ ⟨"java/lang/Throwable", "fillInStackTrace", "()Ljava/lang/Throwable;"⟩ ∈ gG := gk6 (List.mem_of_getElem? (i := 39) rfl) rfl
theorem nt_cs_java_lang_Throwable_fillInStackTrace : Cond.codeSync ⟨"java/lang/Throwable", "fillInStackTrace", "()Ljava/lang/Throwable;"⟩ prog_25_method_18_code 1 (some (.object "java/lang/Throwable")) ∈ tables_1 := gm6 (List.mem_of_getElem? (i := 40) rfl)
theorem ml_java_lang_Throwable_202 : Cond.methodLink "java/lang/Throwable" 202 ⟨"java/lang/Throwable", "fillInStackTrace", "(I)Ljava/lang/Throwable;"⟩ ∈ gG := gk6 (List.mem_of_getElem? (i := 41) rfl) rfl
theorem ia_java_lang_Throwable : Cond.instantiable "java/lang/Throwable" 6 ∈ gG := gk6 (List.mem_of_getElem? (i := 44) rfl) rfl
theorem nt_na_java_lang_Throwable_fillInStackTrace : Cond.native ⟨"java/lang/Throwable", "fillInStackTrace", "(I)Ljava/lang/Throwable;"⟩ ∈ tables_1 := gm6 (List.mem_of_getElem? (i := 45) rfl)
theorem ml_S_105 : Cond.methodLink "StreamNodes" 105 ⟨"java/lang/IllegalStateException", "<init>", "()V"⟩ ∈ gG := gk6 (List.mem_of_getElem? (i := 46) rfl) rfl
theorem im_java_lang_IllegalStateException_init : Cond.instanceMethod ⟨"java/lang/IllegalStateException", "<init>", "()V"⟩ ∈ gG := gk6 (List.mem_of_getElem? (i := 47) rfl) rfl
theorem co_java_lang_IllegalStateException_init : Cond.code ⟨"java/lang/IllegalStateException", "<init>", "()V"⟩ prog_18_method_1_code 1 none ∈ gG := gk6 (List.mem_of_getElem? (i := 48) rfl) rfl
theorem ml_java_lang_IllegalStateException_1 : Cond.methodLink "java/lang/IllegalStateException" 1 ⟨"java/lang/RuntimeException", "<init>", "()V"⟩ ∈ gG := gk6 (List.mem_of_getElem? (i := 49) rfl) rfl
theorem im_java_lang_RuntimeException_init_0 : Cond.instanceMethod ⟨"java/lang/RuntimeException", "<init>", "()V"⟩ ∈ gG := gk6 (List.mem_of_getElem? (i := 50) rfl) rfl
theorem co_java_lang_RuntimeException_init_0 : Cond.code ⟨"java/lang/RuntimeException", "<init>", "()V"⟩ prog_20_method_1_code 1 none ∈ gG := gk6 (List.mem_of_getElem? (i := 51) rfl) rfl
theorem ml_java_lang_RuntimeException_1 : Cond.methodLink "java/lang/RuntimeException" 1 ⟨"java/lang/Exception", "<init>", "()V"⟩ ∈ gG := gk6 (List.mem_of_getElem? (i := 52) rfl) rfl
theorem im_java_lang_Exception_init_0 : Cond.instanceMethod ⟨"java/lang/Exception", "<init>", "()V"⟩ ∈ gG := gk6 (List.mem_of_getElem? (i := 53) rfl) rfl
theorem co_java_lang_Exception_init_0 : Cond.code ⟨"java/lang/Exception", "<init>", "()V"⟩ prog_16_method_1_code 1 none ∈ gG := gk6 (List.mem_of_getElem? (i := 54) rfl) rfl
theorem ml_java_lang_Exception_1 : Cond.methodLink "java/lang/Exception" 1 ⟨"java/lang/Throwable", "<init>", "()V"⟩ ∈ gG := gk6 (List.mem_of_getElem? (i := 55) rfl) rfl
theorem fl_java_lang_Throwable_31 : Cond.fieldLink "java/lang/Throwable" 31 "java/lang/Throwable" "detailMessage" "Ljava/lang/String;" ∈ gG := gk6 (List.mem_of_getElem? (i := 57) rfl) rfl
theorem fl_java_lang_Throwable_7 : Cond.fieldLink "java/lang/Throwable" 7 "java/lang/Throwable" "cause" "Ljava/lang/Throwable;" ∈ gG := gk6 (List.mem_of_getElem? (i := 58) rfl) rfl
theorem fl_java_lang_Throwable_17 : Cond.fieldLink "java/lang/Throwable" 17 "java/lang/Throwable" "stackTrace" "[Ljava/lang/StackTraceElement;" ∈ gG := gk6 (List.mem_of_getElem? (i := 59) rfl) rfl
theorem fl_java_lang_Throwable_24 : Cond.fieldLink "java/lang/Throwable" 24 "java/lang/Throwable" "suppressedExceptions" "Ljava/util/List;" ∈ gG := gk6 (List.mem_of_getElem? (i := 60) rfl) rfl
theorem nt_su_java_lang_IllegalStateException : Cond.superclass "java/lang/IllegalStateException" "java/lang/RuntimeException" ∈ tables_1 := gm6 (List.mem_of_getElem? (i := 68) rfl)
theorem ml_S_106 : Cond.methodLink "StreamNodes" 106 ⟨"StreamNodes", "append", "(I)V"⟩ ∈ gG := gk6 (List.mem_of_getElem? (i := 69) rfl) rfl
theorem im_S_append : Cond.instanceMethod ⟨"StreamNodes", "append", "(I)V"⟩ ∈ gG := gk6 (List.mem_of_getElem? (i := 71) rfl) rfl
theorem co_S_append : Cond.code ⟨"StreamNodes", "append", "(I)V"⟩ prog_1_method_17_code 2 none ∈ gG := gk6 (List.mem_of_getElem? (i := 72) rfl) rfl
theorem ml_L_64 : Cond.methodLink "StreamNodesLaw" 64 ⟨"StreamNodesLaw", "end", "(LStreamNodes;I[J)I"⟩ ∈ gG := gk6 (List.mem_of_getElem? (i := 73) rfl) rfl
theorem sm_L_end : Cond.static ⟨"StreamNodesLaw", "end", "(LStreamNodes;I[J)I"⟩ ∈ gG := gk6 (List.mem_of_getElem? (i := 74) rfl) rfl
theorem cw_L_end : Cond.codeWith ⟨"StreamNodesLaw", "end", "(LStreamNodes;I[J)I"⟩ method_4_code 4 (some .int) [(0, 9, 12, 19)] ∈ gG := gk6 (List.mem_of_getElem? (i := 75) rfl) rfl
theorem cl_L_19 : Cond.classLink "StreamNodesLaw" 19 "java/lang/IllegalArgumentException" ∈ gG := gk6 (List.mem_of_getElem? (i := 76) rfl) rfl
theorem ml_L_15 : Cond.methodLink "StreamNodesLaw" 15 ⟨"StreamNodes", "end", "(I)I"⟩ ∈ gG := gk6 (List.mem_of_getElem? (i := 77) rfl) rfl
theorem im_S_end : Cond.instanceMethod ⟨"StreamNodes", "end", "(I)I"⟩ ∈ gG := gk6 (List.mem_of_getElem? (i := 78) rfl) rfl
theorem se_S_end : Cond.selects "StreamNodes" ⟨"StreamNodes", "end", "(I)I"⟩ ⟨"StreamNodes", "end", "(I)I"⟩ ∈ gG := gk6 (List.mem_of_getElem? (i := 79) rfl) rfl
theorem co_S_end : Cond.code ⟨"StreamNodes", "end", "(I)I"⟩ prog_1_method_3_code 2 (some .int) ∈ gG := gk6 (List.mem_of_getElem? (i := 80) rfl) rfl
theorem cl_S_110 : Cond.classLink "StreamNodes" 110 "java/lang/IllegalArgumentException" ∈ gG := gk6 (List.mem_of_getElem? (i := 81) rfl) rfl
theorem ia_java_lang_IllegalArgumentException : Cond.instantiable "java/lang/IllegalArgumentException" 6 ∈ gG := gk6 (List.mem_of_getElem? (i := 82) rfl) rfl
theorem ml_S_112 : Cond.methodLink "StreamNodes" 112 ⟨"java/lang/IllegalArgumentException", "<init>", "()V"⟩ ∈ gG := gk6 (List.mem_of_getElem? (i := 90) rfl) rfl
theorem im_java_lang_IllegalArgumentException_init : Cond.instanceMethod ⟨"java/lang/IllegalArgumentException", "<init>", "()V"⟩ ∈ gG := gk6 (List.mem_of_getElem? (i := 91) rfl) rfl
theorem co_java_lang_IllegalArgumentException_init : Cond.code ⟨"java/lang/IllegalArgumentException", "<init>", "()V"⟩ prog_17_method_1_code 1 none ∈ gG := gk6 (List.mem_of_getElem? (i := 92) rfl) rfl
theorem ml_java_lang_IllegalArgumentException_1 : Cond.methodLink "java/lang/IllegalArgumentException" 1 ⟨"java/lang/RuntimeException", "<init>", "()V"⟩ ∈ gG := gk6 (List.mem_of_getElem? (i := 93) rfl) rfl
theorem nt_su_java_lang_IllegalArgumentException : Cond.superclass "java/lang/IllegalArgumentException" "java/lang/RuntimeException" ∈ tables_1 := gm6 (List.mem_of_getElem? (i := 95) rfl)
theorem ml_L_76 : Cond.methodLink "StreamNodesLaw" 76 ⟨"StreamNodesLaw", "input", "(LStreamNodes;II[J)I"⟩ ∈ gG := gk6 (List.mem_of_getElem? (i := 96) rfl) rfl
theorem sm_L_input : Cond.static ⟨"StreamNodesLaw", "input", "(LStreamNodes;II[J)I"⟩ ∈ gG := gk6 (List.mem_of_getElem? (i := 97) rfl) rfl
theorem cw_L_input : Cond.codeWith ⟨"StreamNodesLaw", "input", "(LStreamNodes;II[J)I"⟩ method_5_code 5 (some .int) [(0, 10, 13, 25), (0, 10, 17, 19)] ∈ gG := gk6 (List.mem_of_getElem? (i := 98) rfl) rfl
theorem cl_L_25 : Cond.classLink "StreamNodesLaw" 25 "java/util/NoSuchElementException" ∈ gG := gk6 (List.mem_of_getElem? (i := 99) rfl) rfl
theorem ml_L_21 : Cond.methodLink "StreamNodesLaw" 21 ⟨"StreamNodes", "input", "(II)I"⟩ ∈ gG := gk6 (List.mem_of_getElem? (i := 100) rfl) rfl
theorem im_S_input : Cond.instanceMethod ⟨"StreamNodes", "input", "(II)I"⟩ ∈ gG := gk6 (List.mem_of_getElem? (i := 101) rfl) rfl
theorem se_S_input : Cond.selects "StreamNodes" ⟨"StreamNodes", "input", "(II)I"⟩ ⟨"StreamNodes", "input", "(II)I"⟩ ∈ gG := gk6 (List.mem_of_getElem? (i := 102) rfl) rfl
theorem co_S_input : Cond.code ⟨"StreamNodes", "input", "(II)I"⟩ prog_1_method_6_code 4 (some .int) ∈ gG := gk6 (List.mem_of_getElem? (i := 103) rfl) rfl
theorem cl_S_170 : Cond.classLink "StreamNodes" 170 "java/util/NoSuchElementException" ∈ gG := gk6 (List.mem_of_getElem? (i := 104) rfl) rfl
theorem ia_java_util_NoSuchElementException : Cond.instantiable "java/util/NoSuchElementException" 6 ∈ gG := gk6 (List.mem_of_getElem? (i := 105) rfl) rfl
theorem ml_S_172 : Cond.methodLink "StreamNodes" 172 ⟨"java/util/NoSuchElementException", "<init>", "()V"⟩ ∈ gG := gk6 (List.mem_of_getElem? (i := 113) rfl) rfl
theorem im_java_util_NoSuchElementException_init : Cond.instanceMethod ⟨"java/util/NoSuchElementException", "<init>", "()V"⟩ ∈ gG := gk6 (List.mem_of_getElem? (i := 114) rfl) rfl
theorem co_java_util_NoSuchElementException_init : Cond.code ⟨"java/util/NoSuchElementException", "<init>", "()V"⟩ prog_27_method_1_code 1 none ∈ gG := gk6 (List.mem_of_getElem? (i := 115) rfl) rfl
theorem ml_java_util_NoSuchElementException_1 : Cond.methodLink "java/util/NoSuchElementException" 1 ⟨"java/lang/RuntimeException", "<init>", "()V"⟩ ∈ gG := gk6 (List.mem_of_getElem? (i := 116) rfl) rfl
theorem nt_su_java_util_NoSuchElementException : Cond.superclass "java/util/NoSuchElementException" "java/lang/RuntimeException" ∈ tables_1 := gm6 (List.mem_of_getElem? (i := 118) rfl)
theorem ml_L_80 : Cond.methodLink "StreamNodesLaw" 80 ⟨"StreamNodesLaw", "tick", "(LStreamNodes;I[J)I"⟩ ∈ gG := gk6 (List.mem_of_getElem? (i := 119) rfl) rfl
theorem sm_L_tick : Cond.static ⟨"StreamNodesLaw", "tick", "(LStreamNodes;I[J)I"⟩ ∈ gG := gk6 (List.mem_of_getElem? (i := 120) rfl) rfl
theorem cw_L_tick : Cond.codeWith ⟨"StreamNodesLaw", "tick", "(LStreamNodes;I[J)I"⟩ method_6_code 4 (some .int) [(0, 9, 12, 19), (0, 9, 15, 13)] ∈ gG := gk6 (List.mem_of_getElem? (i := 121) rfl) rfl
theorem ml_L_27 : Cond.methodLink "StreamNodesLaw" 27 ⟨"StreamNodes", "tick", "(I)I"⟩ ∈ gG := gk6 (List.mem_of_getElem? (i := 122) rfl) rfl
theorem im_S_tick : Cond.instanceMethod ⟨"StreamNodes", "tick", "(I)I"⟩ ∈ gG := gk6 (List.mem_of_getElem? (i := 123) rfl) rfl
theorem se_S_tick : Cond.selects "StreamNodes" ⟨"StreamNodes", "tick", "(I)I"⟩ ⟨"StreamNodes", "tick", "(I)I"⟩ ∈ gG := gk6 (List.mem_of_getElem? (i := 124) rfl) rfl
theorem co_S_tick : Cond.code ⟨"StreamNodes", "tick", "(I)I"⟩ prog_1_method_7_code 2 (some .int) ∈ gG := gk6 (List.mem_of_getElem? (i := 125) rfl) rfl
theorem ml_S_179 : Cond.methodLink "StreamNodes" 179 ⟨"StreamNodes$Program", "run", "([II)V"⟩ ∈ gG := gk6 (List.mem_of_getElem? (i := 126) rfl) rfl
theorem im_Pg_run : Cond.instanceMethod ⟨"StreamNodes$Program", "run", "([II)V"⟩ ∈ gG := gk6 (List.mem_of_getElem? (i := 127) rfl) rfl
theorem se_Pg_run : Cond.selects "StreamNodes$Program" ⟨"StreamNodes$Program", "run", "([II)V"⟩ ⟨"StreamNodes$Program", "run", "([II)V"⟩ ∈ gG := gk6 (List.mem_of_getElem? (i := 128) rfl) rfl
theorem co_Pg_run : Cond.code ⟨"StreamNodes$Program", "run", "([II)V"⟩ prog_9_method_8_code 5 none ∈ gG := gk6 (List.mem_of_getElem? (i := 129) rfl) rfl
theorem ml_Pg_139 : Cond.methodLink "StreamNodes$Program" 139 ⟨"StreamNodes$Program", "result", "(I)I"⟩ ∈ gG := gk6 (List.mem_of_getElem? (i := 130) rfl) rfl
theorem im_Pg_result : Cond.instanceMethod ⟨"StreamNodes$Program", "result", "(I)I"⟩ ∈ gG := gk6 (List.mem_of_getElem? (i := 132) rfl) rfl
theorem co_Pg_result : Cond.code ⟨"StreamNodes$Program", "result", "(I)I"⟩ prog_9_method_11_code 5 (some .int) ∈ gG := gk6 (List.mem_of_getElem? (i := 133) rfl) rfl
theorem ml_Pg_142 : Cond.methodLink "StreamNodes$Program" 142 ⟨"StreamNodes$Program", "turnClocks", "()V"⟩ ∈ gG := gk6 (List.mem_of_getElem? (i := 134) rfl) rfl
theorem im_Pg_turnClocks : Cond.instanceMethod ⟨"StreamNodes$Program", "turnClocks", "()V"⟩ ∈ gG := gk6 (List.mem_of_getElem? (i := 136) rfl) rfl
theorem co_Pg_turnClocks : Cond.code ⟨"StreamNodes$Program", "turnClocks", "()V"⟩ prog_9_method_9_code 2 none ∈ gG := gk6 (List.mem_of_getElem? (i := 137) rfl) rfl
theorem ml_Pg_145 : Cond.methodLink "StreamNodes$Program" 145 ⟨"StreamNodes$Program", "fillCells", "()V"⟩ ∈ gG := gk6 (List.mem_of_getElem? (i := 138) rfl) rfl
theorem im_Pg_fillCells : Cond.instanceMethod ⟨"StreamNodes$Program", "fillCells", "()V"⟩ ∈ gG := gk6 (List.mem_of_getElem? (i := 140) rfl) rfl
theorem co_Pg_fillCells : Cond.code ⟨"StreamNodes$Program", "fillCells", "()V"⟩ prog_9_method_10_code 2 none ∈ gG := gk6 (List.mem_of_getElem? (i := 141) rfl) rfl
theorem nt_ct_Pg_148 : Cond.constantLong "StreamNodes$Program" 148 1099511627776 ∈ tables_1 := gm6 (List.mem_of_getElem? (i := 142) rfl)
theorem ml_L_83 : Cond.methodLink "StreamNodesLaw" 83 ⟨"StreamNodesLaw", "value", "(LStreamNodes;I[J)I"⟩ ∈ gG := gk6 (List.mem_of_getElem? (i := 143) rfl) rfl
theorem sm_L_value : Cond.static ⟨"StreamNodesLaw", "value", "(LStreamNodes;I[J)I"⟩ ∈ gG := gk6 (List.mem_of_getElem? (i := 144) rfl) rfl
theorem cw_L_value : Cond.codeWith ⟨"StreamNodesLaw", "value", "(LStreamNodes;I[J)I"⟩ method_7_code 4 (some .int) [(0, 8, 11, 25), (0, 8, 14, 13)] ∈ gG := gk6 (List.mem_of_getElem? (i := 145) rfl) rfl
theorem ml_L_30 : Cond.methodLink "StreamNodesLaw" 30 ⟨"StreamNodes", "value", "(I)J"⟩ ∈ gG := gk6 (List.mem_of_getElem? (i := 146) rfl) rfl
theorem im_S_value : Cond.instanceMethod ⟨"StreamNodes", "value", "(I)J"⟩ ∈ gG := gk6 (List.mem_of_getElem? (i := 147) rfl) rfl
theorem se_S_value : Cond.selects "StreamNodes" ⟨"StreamNodes", "value", "(I)J"⟩ ⟨"StreamNodes", "value", "(I)J"⟩ ∈ gG := gk6 (List.mem_of_getElem? (i := 148) rfl) rfl
theorem co_S_value : Cond.code ⟨"StreamNodes", "value", "(I)J"⟩ prog_1_method_8_code 2 (some .long) ∈ gG := gk6 (List.mem_of_getElem? (i := 149) rfl) rfl
theorem ml_S_182 : Cond.methodLink "StreamNodes" 182 ⟨"StreamNodes", "isVariable", "(I)Z"⟩ ∈ gG := gk6 (List.mem_of_getElem? (i := 150) rfl) rfl
theorem im_S_isVariable : Cond.instanceMethod ⟨"StreamNodes", "isVariable", "(I)Z"⟩ ∈ gG := gk6 (List.mem_of_getElem? (i := 152) rfl) rfl
theorem co_S_isVariable : Cond.code ⟨"StreamNodes", "isVariable", "(I)Z"⟩ prog_1_method_16_code 2 (some .boolean) ∈ gG := gk6 (List.mem_of_getElem? (i := 153) rfl) rfl
theorem ml_L_86 : Cond.methodLink "StreamNodesLaw" 86 ⟨"StreamNodesLaw", "about", "(LStreamNodes;II[J)I"⟩ ∈ gG := gk6 (List.mem_of_getElem? (i := 154) rfl) rfl
theorem sm_L_about : Cond.static ⟨"StreamNodesLaw", "about", "(LStreamNodes;II[J)I"⟩ ∈ gG := gk6 (List.mem_of_getElem? (i := 155) rfl) rfl
theorem cw_L_about : Cond.codeWith ⟨"StreamNodesLaw", "about", "(LStreamNodes;II[J)I"⟩ method_8_code 5 (some .int) [(0, 10, 13, 25), (0, 10, 17, 19)] ∈ gG := gk6 (List.mem_of_getElem? (i := 156) rfl) rfl
theorem ml_L_34 : Cond.methodLink "StreamNodesLaw" 34 ⟨"StreamNodes", "about", "(II)I"⟩ ∈ gG := gk6 (List.mem_of_getElem? (i := 157) rfl) rfl
theorem im_S_about : Cond.instanceMethod ⟨"StreamNodes", "about", "(II)I"⟩ ∈ gG := gk6 (List.mem_of_getElem? (i := 158) rfl) rfl
theorem se_S_about : Cond.selects "StreamNodes" ⟨"StreamNodes", "about", "(II)I"⟩ ⟨"StreamNodes", "about", "(II)I"⟩ ∈ gG := gk6 (List.mem_of_getElem? (i := 159) rfl) rfl
theorem co_S_about : Cond.code ⟨"StreamNodes", "about", "(II)I"⟩ prog_1_method_9_code 4 (some .int) ∈ gG := gk6 (List.mem_of_getElem? (i := 160) rfl) rfl
theorem ml_S_193 : Cond.methodLink "StreamNodes" 193 ⟨"StreamNodes$Nodes", "role", "(II)I"⟩ ∈ gG := gk6 (List.mem_of_getElem? (i := 161) rfl) rfl
theorem im_Nd_role : Cond.instanceMethod ⟨"StreamNodes$Nodes", "role", "(II)I"⟩ ∈ gG := gk6 (List.mem_of_getElem? (i := 162) rfl) rfl
theorem se_Nd_role : Cond.selects "StreamNodes$Nodes" ⟨"StreamNodes$Nodes", "role", "(II)I"⟩ ⟨"StreamNodes$Nodes", "role", "(II)I"⟩ ∈ gG := gk6 (List.mem_of_getElem? (i := 163) rfl) rfl
theorem co_Nd_role : Cond.code ⟨"StreamNodes$Nodes", "role", "(II)I"⟩ prog_7_method_5_code 3 (some .int) ∈ gG := gk6 (List.mem_of_getElem? (i := 164) rfl) rfl
theorem ml_L_89 : Cond.methodLink "StreamNodesLaw" 89 ⟨"StreamNodesLaw", "causes", "(LStreamNodes;II[J)I"⟩ ∈ gG := gk6 (List.mem_of_getElem? (i := 165) rfl) rfl
theorem sm_L_causes : Cond.static ⟨"StreamNodesLaw", "causes", "(LStreamNodes;II[J)I"⟩ ∈ gG := gk6 (List.mem_of_getElem? (i := 166) rfl) rfl
theorem cw_L_causes : Cond.codeWith ⟨"StreamNodesLaw", "causes", "(LStreamNodes;II[J)I"⟩ method_9_code 5 (some .int) [(0, 17, 20, 25)] ∈ gG := gk6 (List.mem_of_getElem? (i := 167) rfl) rfl
theorem ml_L_37 : Cond.methodLink "StreamNodesLaw" 37 ⟨"StreamNodes", "causes", "(II)Z"⟩ ∈ gG := gk6 (List.mem_of_getElem? (i := 168) rfl) rfl
theorem im_S_causes : Cond.instanceMethod ⟨"StreamNodes", "causes", "(II)Z"⟩ ∈ gG := gk6 (List.mem_of_getElem? (i := 169) rfl) rfl
theorem se_S_causes : Cond.selects "StreamNodes" ⟨"StreamNodes", "causes", "(II)Z"⟩ ⟨"StreamNodes", "causes", "(II)Z"⟩ ∈ gG := gk6 (List.mem_of_getElem? (i := 170) rfl) rfl
theorem co_S_causes : Cond.code ⟨"StreamNodes", "causes", "(II)Z"⟩ prog_1_method_10_code 3 (some .boolean) ∈ gG := gk6 (List.mem_of_getElem? (i := 171) rfl) rfl
theorem ml_S_197 : Cond.methodLink "StreamNodes" 197 ⟨"StreamNodes$Order", "reaches", "(II)Z"⟩ ∈ gG := gk6 (List.mem_of_getElem? (i := 172) rfl) rfl
theorem im_Od_reaches : Cond.instanceMethod ⟨"StreamNodes$Order", "reaches", "(II)Z"⟩ ∈ gG := gk6 (List.mem_of_getElem? (i := 173) rfl) rfl
theorem se_Od_reaches : Cond.selects "StreamNodes$Order" ⟨"StreamNodes$Order", "reaches", "(II)Z"⟩ ⟨"StreamNodes$Order", "reaches", "(II)Z"⟩ ∈ gG := gk6 (List.mem_of_getElem? (i := 174) rfl) rfl
theorem co_Od_reaches : Cond.code ⟨"StreamNodes$Order", "reaches", "(II)Z"⟩ prog_8_method_8_code 7 (some .boolean) ∈ gG := gk6 (List.mem_of_getElem? (i := 175) rfl) rfl
theorem ml_L_92 : Cond.methodLink "StreamNodesLaw" 92 ⟨"StreamNodesLaw", "restart", "(LStreamNodes;[J)I"⟩ ∈ gG := gk6 (List.mem_of_getElem? (i := 176) rfl) rfl
theorem sm_L_restart : Cond.static ⟨"StreamNodesLaw", "restart", "(LStreamNodes;[J)I"⟩ ∈ gG := gk6 (List.mem_of_getElem? (i := 177) rfl) rfl
theorem cw_L_restart : Cond.codeWith ⟨"StreamNodesLaw", "restart", "(LStreamNodes;[J)I"⟩ method_10_code 3 (some .int) [(0, 8, 11, 13)] ∈ gG := gk6 (List.mem_of_getElem? (i := 178) rfl) rfl
theorem ml_L_41 : Cond.methodLink "StreamNodesLaw" 41 ⟨"StreamNodes", "restart", "()I"⟩ ∈ gG := gk6 (List.mem_of_getElem? (i := 179) rfl) rfl
theorem im_S_restart : Cond.instanceMethod ⟨"StreamNodes", "restart", "()I"⟩ ∈ gG := gk6 (List.mem_of_getElem? (i := 180) rfl) rfl
theorem se_S_restart : Cond.selects "StreamNodes" ⟨"StreamNodes", "restart", "()I"⟩ ⟨"StreamNodes", "restart", "()I"⟩ ∈ gG := gk6 (List.mem_of_getElem? (i := 181) rfl) rfl
theorem co_S_restart : Cond.code ⟨"StreamNodes", "restart", "()I"⟩ prog_1_method_11_code 2 (some .int) ∈ gG := gk6 (List.mem_of_getElem? (i := 182) rfl) rfl
theorem ml_S_201 : Cond.methodLink "StreamNodes" 201 ⟨"StreamNodes$Program", "clear", "()V"⟩ ∈ gG := gk6 (List.mem_of_getElem? (i := 183) rfl) rfl
theorem ml_L_96 : Cond.methodLink "StreamNodesLaw" 96 ⟨"StreamNodesLaw", "keep", "(LStreamNodes;)I"⟩ ∈ gG := gk6 (List.mem_of_getElem? (i := 184) rfl) rfl
theorem sm_L_keep : Cond.static ⟨"StreamNodesLaw", "keep", "(LStreamNodes;)I"⟩ ∈ gG := gk6 (List.mem_of_getElem? (i := 185) rfl) rfl
theorem cw_L_keep : Cond.codeWith ⟨"StreamNodesLaw", "keep", "(LStreamNodes;)I"⟩ method_11_code 2 (some .int) [(0, 4, 7, 13)] ∈ gG := gk6 (List.mem_of_getElem? (i := 186) rfl) rfl
theorem ml_L_45 : Cond.methodLink "StreamNodesLaw" 45 ⟨"StreamNodes", "keep", "()V"⟩ ∈ gG := gk6 (List.mem_of_getElem? (i := 187) rfl) rfl
theorem im_S_keep : Cond.instanceMethod ⟨"StreamNodes", "keep", "()V"⟩ ∈ gG := gk6 (List.mem_of_getElem? (i := 188) rfl) rfl
theorem se_S_keep : Cond.selects "StreamNodes" ⟨"StreamNodes", "keep", "()V"⟩ ⟨"StreamNodes", "keep", "()V"⟩ ∈ gG := gk6 (List.mem_of_getElem? (i := 189) rfl) rfl
theorem co_S_keep : Cond.code ⟨"StreamNodes", "keep", "()V"⟩ prog_1_method_12_code 1 none ∈ gG := gk6 (List.mem_of_getElem? (i := 190) rfl) rfl
theorem ml_S_204 : Cond.methodLink "StreamNodes" 204 ⟨"StreamNodes$Program", "store", "()V"⟩ ∈ gG := gk6 (List.mem_of_getElem? (i := 191) rfl) rfl
theorem im_Pg_store : Cond.instanceMethod ⟨"StreamNodes$Program", "store", "()V"⟩ ∈ gG := gk6 (List.mem_of_getElem? (i := 192) rfl) rfl
theorem se_Pg_store : Cond.selects "StreamNodes$Program" ⟨"StreamNodes$Program", "store", "()V"⟩ ⟨"StreamNodes$Program", "store", "()V"⟩ ∈ gG := gk6 (List.mem_of_getElem? (i := 193) rfl) rfl
theorem co_Pg_store : Cond.code ⟨"StreamNodes$Program", "store", "()V"⟩ prog_9_method_13_code 1 none ∈ gG := gk6 (List.mem_of_getElem? (i := 194) rfl) rfl
theorem ml_Pg_150 : Cond.methodLink "StreamNodes$Program" 150 ⟨"java/lang/System", "arraycopy", "(Ljava/lang/Object;ILjava/lang/Object;II)V"⟩ ∈ gG := gk6 (List.mem_of_getElem? (i := 195) rfl) rfl
theorem sm_java_lang_System_arraycopy : Cond.static ⟨"java/lang/System", "arraycopy", "(Ljava/lang/Object;ILjava/lang/Object;II)V"⟩ ∈ gG := gk6 (List.mem_of_getElem? (i := 196) rfl) rfl
theorem nt_na_java_lang_System_arraycopy : Cond.native ⟨"java/lang/System", "arraycopy", "(Ljava/lang/Object;ILjava/lang/Object;II)V"⟩ ∈ tables_1 := gm6 (List.mem_of_getElem? (i := 197) rfl)
theorem ml_L_100 : Cond.methodLink "StreamNodesLaw" 100 ⟨"StreamNodesLaw", "back", "(LStreamNodes;[J)I"⟩ ∈ gG := gk6 (List.mem_of_getElem? (i := 198) rfl) rfl
theorem sm_L_back : Cond.static ⟨"StreamNodesLaw", "back", "(LStreamNodes;[J)I"⟩ ∈ gG := gk6 (List.mem_of_getElem? (i := 199) rfl) rfl
theorem cw_L_back : Cond.codeWith ⟨"StreamNodesLaw", "back", "(LStreamNodes;[J)I"⟩ method_12_code 3 (some .int) [(0, 8, 11, 13)] ∈ gG := gk6 (List.mem_of_getElem? (i := 200) rfl) rfl
theorem ml_L_48 : Cond.methodLink "StreamNodesLaw" 48 ⟨"StreamNodes", "back", "()I"⟩ ∈ gG := gk6 (List.mem_of_getElem? (i := 201) rfl) rfl
theorem im_S_back : Cond.instanceMethod ⟨"StreamNodes", "back", "()I"⟩ ∈ gG := gk6 (List.mem_of_getElem? (i := 202) rfl) rfl
theorem se_S_back : Cond.selects "StreamNodes" ⟨"StreamNodes", "back", "()I"⟩ ⟨"StreamNodes", "back", "()I"⟩ ∈ gG := gk6 (List.mem_of_getElem? (i := 203) rfl) rfl
theorem co_S_back : Cond.code ⟨"StreamNodes", "back", "()I"⟩ prog_1_method_13_code 2 (some .int) ∈ gG := gk6 (List.mem_of_getElem? (i := 204) rfl) rfl
theorem ml_S_207 : Cond.methodLink "StreamNodes" 207 ⟨"StreamNodes$Program", "recall", "()V"⟩ ∈ gG := gk6 (List.mem_of_getElem? (i := 205) rfl) rfl
theorem im_Pg_recall : Cond.instanceMethod ⟨"StreamNodes$Program", "recall", "()V"⟩ ∈ gG := gk6 (List.mem_of_getElem? (i := 206) rfl) rfl
theorem se_Pg_recall : Cond.selects "StreamNodes$Program" ⟨"StreamNodes$Program", "recall", "()V"⟩ ⟨"StreamNodes$Program", "recall", "()V"⟩ ∈ gG := gk6 (List.mem_of_getElem? (i := 207) rfl) rfl
theorem co_Pg_recall : Cond.code ⟨"StreamNodes$Program", "recall", "()V"⟩ prog_9_method_14_code 1 none ∈ gG := gk6 (List.mem_of_getElem? (i := 208) rfl) rfl
theorem cl_L_52 : Cond.classLink "StreamNodesLaw" 52 "StreamNodesModel" ∈ gG := gk6 (List.mem_of_getElem? (i := 209) rfl) rfl
theorem ia_M : Cond.instantiable "StreamNodesModel" 84 ∈ gG := gk6 (List.mem_of_getElem? (i := 210) rfl) rfl
theorem ml_L_54 : Cond.methodLink "StreamNodesLaw" 54 ⟨"StreamNodesModel", "<init>", "()V"⟩ ∈ gG := gk6 (List.mem_of_getElem? (i := 211) rfl) rfl
theorem im_M_init : Cond.instanceMethod ⟨"StreamNodesModel", "<init>", "()V"⟩ ∈ gG := gk6 (List.mem_of_getElem? (i := 212) rfl) rfl
theorem co_M_init : Cond.code ⟨"StreamNodesModel", "<init>", "()V"⟩ prog_14_method_1_code 1 none ∈ gG := gk6 (List.mem_of_getElem? (i := 213) rfl) rfl
theorem ml_M_1 : Cond.methodLink "StreamNodesModel" 1 ⟨"java/lang/Object", "<init>", "()V"⟩ ∈ gG := gk6 (List.mem_of_getElem? (i := 214) rfl) rfl
theorem ct_M_7 : Cond.constant "StreamNodesModel" 7 65536 ∈ gG := gk6 (List.mem_of_getElem? (i := 215) rfl) rfl
theorem ct_M_99 : Cond.constant "StreamNodesModel" 99 66000 ∈ gG := gk6 (List.mem_of_getElem? (i := 216) rfl) rfl
theorem ct_M_214 : Cond.constant "StreamNodesModel" 214 60000 ∈ gG := gk6 (List.mem_of_getElem? (i := 217) rfl) rfl
theorem fl_M_8 : Cond.fieldLink "StreamNodesModel" 8 "StreamNodesModel" "tape" "[B" ∈ gG := gk6 (List.mem_of_getElem? (i := 218) rfl) rfl
theorem fl_M_14 : Cond.fieldLink "StreamNodesModel" 14 "StreamNodesModel" "size" "I" ∈ gG := gk6 (List.mem_of_getElem? (i := 219) rfl) rfl
theorem fl_M_18 : Cond.fieldLink "StreamNodesModel" 18 "StreamNodesModel" "thrown" "I" ∈ gG := gk6 (List.mem_of_getElem? (i := 220) rfl) rfl
theorem fl_M_21 : Cond.fieldLink "StreamNodesModel" 21 "StreamNodesModel" "faultKind" "I" ∈ gG := gk6 (List.mem_of_getElem? (i := 221) rfl) rfl
theorem fl_M_24 : Cond.fieldLink "StreamNodesModel" 24 "StreamNodesModel" "faultPlace" "I" ∈ gG := gk6 (List.mem_of_getElem? (i := 222) rfl) rfl
theorem fl_M_27 : Cond.fieldLink "StreamNodesModel" 27 "StreamNodesModel" "pos" "I" ∈ gG := gk6 (List.mem_of_getElem? (i := 223) rfl) rfl
theorem fl_M_30 : Cond.fieldLink "StreamNodesModel" 30 "StreamNodesModel" "token" "I" ∈ gG := gk6 (List.mem_of_getElem? (i := 224) rfl) rfl
theorem fl_M_33 : Cond.fieldLink "StreamNodesModel" 33 "StreamNodesModel" "tokenAt" "I" ∈ gG := gk6 (List.mem_of_getElem? (i := 225) rfl) rfl
theorem fl_M_36 : Cond.fieldLink "StreamNodesModel" 36 "StreamNodesModel" "tokenEnd" "I" ∈ gG := gk6 (List.mem_of_getElem? (i := 226) rfl) rfl
theorem fl_M_39 : Cond.fieldLink "StreamNodesModel" 39 "StreamNodesModel" "seen" "Z" ∈ gG := gk6 (List.mem_of_getElem? (i := 227) rfl) rfl
theorem fl_M_43 : Cond.fieldLink "StreamNodesModel" 43 "StreamNodesModel" "nodeAt" "[I" ∈ gG := gk6 (List.mem_of_getElem? (i := 228) rfl) rfl
theorem fl_M_47 : Cond.fieldLink "StreamNodesModel" 47 "StreamNodesModel" "nodeSize" "[I" ∈ gG := gk6 (List.mem_of_getElem? (i := 229) rfl) rfl
theorem fl_M_50 : Cond.fieldLink "StreamNodesModel" 50 "StreamNodesModel" "variableFrom" "[I" ∈ gG := gk6 (List.mem_of_getElem? (i := 230) rfl) rfl
theorem fl_M_53 : Cond.fieldLink "StreamNodesModel" 53 "StreamNodesModel" "inputCount" "[I" ∈ gG := gk6 (List.mem_of_getElem? (i := 231) rfl) rfl
theorem fl_M_56 : Cond.fieldLink "StreamNodesModel" 56 "StreamNodesModel" "outputCount" "[I" ∈ gG := gk6 (List.mem_of_getElem? (i := 232) rfl) rfl
theorem fl_M_59 : Cond.fieldLink "StreamNodesModel" 59 "StreamNodesModel" "equationFrom" "[I" ∈ gG := gk6 (List.mem_of_getElem? (i := 233) rfl) rfl
theorem fl_M_62 : Cond.fieldLink "StreamNodesModel" 62 "StreamNodesModel" "callCount" "[I" ∈ gG := gk6 (List.mem_of_getElem? (i := 234) rfl) rfl
theorem fl_M_65 : Cond.fieldLink "StreamNodesModel" 65 "StreamNodesModel" "stateCount" "[I" ∈ gG := gk6 (List.mem_of_getElem? (i := 235) rfl) rfl
theorem fl_M_68 : Cond.fieldLink "StreamNodesModel" 68 "StreamNodesModel" "nodes" "I" ∈ gG := gk6 (List.mem_of_getElem? (i := 236) rfl) rfl
theorem fl_M_71 : Cond.fieldLink "StreamNodesModel" 71 "StreamNodesModel" "variables" "I" ∈ gG := gk6 (List.mem_of_getElem? (i := 237) rfl) rfl
theorem fl_M_74 : Cond.fieldLink "StreamNodesModel" 74 "StreamNodesModel" "wordAt" "[I" ∈ gG := gk6 (List.mem_of_getElem? (i := 238) rfl) rfl
theorem fl_M_77 : Cond.fieldLink "StreamNodesModel" 77 "StreamNodesModel" "wordSize" "[I" ∈ gG := gk6 (List.mem_of_getElem? (i := 239) rfl) rfl
theorem fl_M_80 : Cond.fieldLink "StreamNodesModel" 80 "StreamNodesModel" "clockOf" "[I" ∈ gG := gk7 (List.mem_of_getElem? (i := 0) rfl) rfl
theorem fl_M_83 : Cond.fieldLink "StreamNodesModel" 83 "StreamNodesModel" "given" "[I" ∈ gG := gk7 (List.mem_of_getElem? (i := 1) rfl) rfl
theorem fl_M_86 : Cond.fieldLink "StreamNodesModel" 86 "StreamNodesModel" "truth" "[Z" ∈ gG := gk7 (List.mem_of_getElem? (i := 2) rfl) rfl
theorem fl_M_90 : Cond.fieldLink "StreamNodesModel" 90 "StreamNodesModel" "placeOf" "[I" ∈ gG := gk7 (List.mem_of_getElem? (i := 3) rfl) rfl
theorem fl_M_93 : Cond.fieldLink "StreamNodesModel" 93 "StreamNodesModel" "leftFrom" "[I" ∈ gG := gk7 (List.mem_of_getElem? (i := 4) rfl) rfl
theorem fl_M_96 : Cond.fieldLink "StreamNodesModel" 96 "StreamNodesModel" "bodyOf" "[I" ∈ gG := gk7 (List.mem_of_getElem? (i := 5) rfl) rfl
theorem fl_M_100 : Cond.fieldLink "StreamNodesModel" 100 "StreamNodesModel" "lefts" "[I" ∈ gG := gk7 (List.mem_of_getElem? (i := 6) rfl) rfl
theorem fl_M_103 : Cond.fieldLink "StreamNodesModel" 103 "StreamNodesModel" "fromOf" "[I" ∈ gG := gk7 (List.mem_of_getElem? (i := 7) rfl) rfl
theorem fl_M_106 : Cond.fieldLink "StreamNodesModel" 106 "StreamNodesModel" "equations" "I" ∈ gG := gk7 (List.mem_of_getElem? (i := 8) rfl) rfl
theorem fl_M_109 : Cond.fieldLink "StreamNodesModel" 109 "StreamNodesModel" "leftCount" "I" ∈ gG := gk7 (List.mem_of_getElem? (i := 9) rfl) rfl
theorem fl_M_112 : Cond.fieldLink "StreamNodesModel" 112 "StreamNodesModel" "sort" "[I" ∈ gG := gk7 (List.mem_of_getElem? (i := 10) rfl) rfl
theorem fl_M_115 : Cond.fieldLink "StreamNodesModel" 115 "StreamNodesModel" "one" "[I" ∈ gG := gk7 (List.mem_of_getElem? (i := 11) rfl) rfl
theorem fl_M_118 : Cond.fieldLink "StreamNodesModel" 118 "StreamNodesModel" "kid" "[I" ∈ gG := gk7 (List.mem_of_getElem? (i := 12) rfl) rfl
theorem fl_M_121 : Cond.fieldLink "StreamNodesModel" 121 "StreamNodesModel" "beside" "[I" ∈ gG := gk7 (List.mem_of_getElem? (i := 13) rfl) rfl
theorem fl_M_124 : Cond.fieldLink "StreamNodesModel" 124 "StreamNodesModel" "clock" "[I" ∈ gG := gk7 (List.mem_of_getElem? (i := 14) rfl) rfl
theorem fl_M_127 : Cond.fieldLink "StreamNodesModel" 127 "StreamNodesModel" "state" "[I" ∈ gG := gk7 (List.mem_of_getElem? (i := 15) rfl) rfl
theorem fl_M_130 : Cond.fieldLink "StreamNodesModel" 130 "StreamNodesModel" "price" "[I" ∈ gG := gk7 (List.mem_of_getElem? (i := 16) rfl) rfl
theorem fl_M_133 : Cond.fieldLink "StreamNodesModel" 133 "StreamNodesModel" "high" "[I" ∈ gG := gk7 (List.mem_of_getElem? (i := 17) rfl) rfl
theorem fl_M_136 : Cond.fieldLink "StreamNodesModel" 136 "StreamNodesModel" "parsed" "I" ∈ gG := gk7 (List.mem_of_getElem? (i := 18) rfl) rfl
theorem fl_M_139 : Cond.fieldLink "StreamNodesModel" 139 "StreamNodesModel" "isTruth" "[Z" ∈ gG := gk7 (List.mem_of_getElem? (i := 19) rfl) rfl
theorem fl_M_142 : Cond.fieldLink "StreamNodesModel" 142 "StreamNodesModel" "placeNow" "I" ∈ gG := gk7 (List.mem_of_getElem? (i := 20) rfl) rfl
theorem fl_M_145 : Cond.fieldLink "StreamNodesModel" 145 "StreamNodesModel" "full" "[I" ∈ gG := gk7 (List.mem_of_getElem? (i := 21) rfl) rfl
theorem fl_M_148 : Cond.fieldLink "StreamNodesModel" 148 "StreamNodesModel" "part" "[I" ∈ gG := gk7 (List.mem_of_getElem? (i := 22) rfl) rfl
theorem fl_M_151 : Cond.fieldLink "StreamNodesModel" 151 "StreamNodesModel" "low" "[I" ∈ gG := gk7 (List.mem_of_getElem? (i := 23) rfl) rfl
theorem fl_M_154 : Cond.fieldLink "StreamNodesModel" 154 "StreamNodesModel" "definedBy" "[I" ∈ gG := gk7 (List.mem_of_getElem? (i := 24) rfl) rfl
theorem fl_M_157 : Cond.fieldLink "StreamNodesModel" 157 "StreamNodesModel" "definedAs" "[I" ∈ gG := gk7 (List.mem_of_getElem? (i := 25) rfl) rfl
theorem fl_M_160 : Cond.fieldLink "StreamNodesModel" 160 "StreamNodesModel" "partsOf" "[I" ∈ gG := gk7 (List.mem_of_getElem? (i := 26) rfl) rfl
theorem fl_M_163 : Cond.fieldLink "StreamNodesModel" 163 "StreamNodesModel" "main" "I" ∈ gG := gk7 (List.mem_of_getElem? (i := 27) rfl) rfl
theorem fl_M_166 : Cond.fieldLink "StreamNodesModel" 166 "StreamNodesModel" "instances" "I" ∈ gG := gk7 (List.mem_of_getElem? (i := 28) rfl) rfl
theorem fl_M_169 : Cond.fieldLink "StreamNodesModel" 169 "StreamNodesModel" "all" "I" ∈ gG := gk7 (List.mem_of_getElem? (i := 29) rfl) rfl
theorem fl_M_172 : Cond.fieldLink "StreamNodesModel" 172 "StreamNodesModel" "states" "I" ∈ gG := gk7 (List.mem_of_getElem? (i := 30) rfl) rfl
theorem fl_M_175 : Cond.fieldLink "StreamNodesModel" 175 "StreamNodesModel" "memories" "I" ∈ gG := gk7 (List.mem_of_getElem? (i := 31) rfl) rfl
theorem fl_M_178 : Cond.fieldLink "StreamNodesModel" 178 "StreamNodesModel" "calls" "I" ∈ gG := gk7 (List.mem_of_getElem? (i := 32) rfl) rfl
theorem fl_M_181 : Cond.fieldLink "StreamNodesModel" 181 "StreamNodesModel" "allParts" "I" ∈ gG := gk7 (List.mem_of_getElem? (i := 33) rfl) rfl
theorem fl_M_184 : Cond.fieldLink "StreamNodesModel" 184 "StreamNodesModel" "nodeOf" "[I" ∈ gG := gk7 (List.mem_of_getElem? (i := 34) rfl) rfl
theorem fl_M_187 : Cond.fieldLink "StreamNodesModel" 187 "StreamNodesModel" "outer" "[I" ∈ gG := gk7 (List.mem_of_getElem? (i := 35) rfl) rfl
theorem fl_M_190 : Cond.fieldLink "StreamNodesModel" 190 "StreamNodesModel" "callOf" "[I" ∈ gG := gk7 (List.mem_of_getElem? (i := 36) rfl) rfl
theorem fl_M_193 : Cond.fieldLink "StreamNodesModel" 193 "StreamNodesModel" "base" "[I" ∈ gG := gk7 (List.mem_of_getElem? (i := 37) rfl) rfl
theorem fl_M_196 : Cond.fieldLink "StreamNodesModel" 196 "StreamNodesModel" "statesFrom" "[I" ∈ gG := gk7 (List.mem_of_getElem? (i := 38) rfl) rfl
theorem fl_M_199 : Cond.fieldLink "StreamNodesModel" 199 "StreamNodesModel" "callsFrom" "[I" ∈ gG := gk7 (List.mem_of_getElem? (i := 39) rfl) rfl
theorem fl_M_202 : Cond.fieldLink "StreamNodesModel" 202 "StreamNodesModel" "childOf" "[I" ∈ gG := gk7 (List.mem_of_getElem? (i := 40) rfl) rfl
theorem fl_M_205 : Cond.fieldLink "StreamNodesModel" 205 "StreamNodesModel" "instanceOf" "[I" ∈ gG := gk7 (List.mem_of_getElem? (i := 41) rfl) rfl
theorem fl_M_208 : Cond.fieldLink "StreamNodesModel" 208 "StreamNodesModel" "localOf" "[I" ∈ gG := gk7 (List.mem_of_getElem? (i := 42) rfl) rfl
theorem fl_M_211 : Cond.fieldLink "StreamNodesModel" 211 "StreamNodesModel" "causeFrom" "[I" ∈ gG := gk7 (List.mem_of_getElem? (i := 43) rfl) rfl
theorem fl_M_215 : Cond.fieldLink "StreamNodesModel" 215 "StreamNodesModel" "causeOf" "[I" ∈ gG := gk7 (List.mem_of_getElem? (i := 44) rfl) rfl
theorem fl_M_218 : Cond.fieldLink "StreamNodesModel" 218 "StreamNodesModel" "causesTotal" "I" ∈ gG := gk7 (List.mem_of_getElem? (i := 45) rfl) rfl
theorem fl_M_221 : Cond.fieldLink "StreamNodesModel" 221 "StreamNodesModel" "reached" "[Z" ∈ gG := gk7 (List.mem_of_getElem? (i := 46) rfl) rfl
theorem fl_M_224 : Cond.fieldLink "StreamNodesModel" 224 "StreamNodesModel" "todo" "[I" ∈ gG := gk7 (List.mem_of_getElem? (i := 47) rfl) rfl
theorem fl_M_227 : Cond.fieldLink "StreamNodesModel" 227 "StreamNodesModel" "order" "[I" ∈ gG := gk7 (List.mem_of_getElem? (i := 48) rfl) rfl
theorem fl_M_230 : Cond.fieldLink "StreamNodesModel" 230 "StreamNodesModel" "undone" "[Z" ∈ gG := gk7 (List.mem_of_getElem? (i := 49) rfl) rfl
theorem fl_M_233 : Cond.fieldLink "StreamNodesModel" 233 "StreamNodesModel" "instants" "I" ∈ gG := gk7 (List.mem_of_getElem? (i := 50) rfl) rfl
theorem fl_M_236 : Cond.fieldLink "StreamNodesModel" 236 "StreamNodesModel" "inputs" "[I" ∈ gG := gk7 (List.mem_of_getElem? (i := 51) rfl) rfl
theorem fl_M_239 : Cond.fieldLink "StreamNodesModel" 239 "StreamNodesModel" "value" "[I" ∈ gG := gk7 (List.mem_of_getElem? (i := 52) rfl) rfl
theorem fl_M_242 : Cond.fieldLink "StreamNodesModel" 242 "StreamNodesModel" "memory" "[I" ∈ gG := gk7 (List.mem_of_getElem? (i := 53) rfl) rfl
theorem fl_M_245 : Cond.fieldLink "StreamNodesModel" 245 "StreamNodesModel" "later" "[I" ∈ gG := gk7 (List.mem_of_getElem? (i := 54) rfl) rfl
theorem fl_M_248 : Cond.fieldLink "StreamNodesModel" 248 "StreamNodesModel" "worth" "[I" ∈ gG := gk7 (List.mem_of_getElem? (i := 55) rfl) rfl
theorem fl_M_251 : Cond.fieldLink "StreamNodesModel" 251 "StreamNodesModel" "here" "[Z" ∈ gG := gk7 (List.mem_of_getElem? (i := 56) rfl) rfl
theorem fl_M_254 : Cond.fieldLink "StreamNodesModel" 254 "StreamNodesModel" "keptMemory" "[I" ∈ gG := gk7 (List.mem_of_getElem? (i := 57) rfl) rfl
theorem fl_M_257 : Cond.fieldLink "StreamNodesModel" 257 "StreamNodesModel" "keptValue" "[I" ∈ gG := gk7 (List.mem_of_getElem? (i := 58) rfl) rfl
theorem fl_M_260 : Cond.fieldLink "StreamNodesModel" 260 "StreamNodesModel" "keptHere" "[Z" ∈ gG := gk7 (List.mem_of_getElem? (i := 59) rfl) rfl
theorem fl_M_263 : Cond.fieldLink "StreamNodesModel" 263 "StreamNodesModel" "keptInstants" "I" ∈ gG := gk7 (List.mem_of_getElem? (i := 60) rfl) rfl
theorem fl_M_266 : Cond.fieldLink "StreamNodesModel" 266 "StreamNodesModel" "isKept" "Z" ∈ gG := gk7 (List.mem_of_getElem? (i := 61) rfl) rfl
theorem nt_su_M : Cond.superclass "StreamNodesModel" "java/lang/Object" ∈ tables_1 := gm7 (List.mem_of_getElem? (i := 230) rfl)
theorem ac_boolean : Cond.arrayClass .boolean ∈ gG := gk7 (List.mem_of_getElem? (i := 231) rfl) rfl
theorem ml_L_61 : Cond.methodLink "StreamNodesLaw" 61 ⟨"StreamNodesModel", "thrown", "()I"⟩ ∈ gG := gk7 (List.mem_of_getElem? (i := 232) rfl) rfl
theorem im_M_thrown : Cond.instanceMethod ⟨"StreamNodesModel", "thrown", "()I"⟩ ∈ gG := gk7 (List.mem_of_getElem? (i := 233) rfl) rfl
theorem se_M_thrown : Cond.selects "StreamNodesModel" ⟨"StreamNodesModel", "thrown", "()I"⟩ ⟨"StreamNodesModel", "thrown", "()I"⟩ ∈ gG := gk7 (List.mem_of_getElem? (i := 234) rfl) rfl
theorem co_M_thrown : Cond.code ⟨"StreamNodesModel", "thrown", "()I"⟩ prog_14_method_2_code 1 (some .int) ∈ gG := gk7 (List.mem_of_getElem? (i := 235) rfl) rfl
theorem ml_L_60 : Cond.methodLink "StreamNodesLaw" 60 ⟨"StreamNodesModel", "feed", "(IIIII)I"⟩ ∈ gG := gk7 (List.mem_of_getElem? (i := 236) rfl) rfl
theorem im_M_feed : Cond.instanceMethod ⟨"StreamNodesModel", "feed", "(IIIII)I"⟩ ∈ gG := gk7 (List.mem_of_getElem? (i := 237) rfl) rfl
theorem se_M_feed : Cond.selects "StreamNodesModel" ⟨"StreamNodesModel", "feed", "(IIIII)I"⟩ ⟨"StreamNodesModel", "feed", "(IIIII)I"⟩ ∈ gG := gk7 (List.mem_of_getElem? (i := 238) rfl) rfl
theorem co_M_feed : Cond.code ⟨"StreamNodesModel", "feed", "(IIIII)I"⟩ prog_14_method_4_code 8 (some .int) ∈ gG := gk7 (List.mem_of_getElem? (i := 239) rfl) rfl
theorem ct_M_269 : Cond.constant "StreamNodesModel" 269 65516 ∈ gG := gk8 (List.mem_of_getElem? (i := 0) rfl) rfl
theorem ml_M_270 : Cond.methodLink "StreamNodesModel" 270 ⟨"StreamNodesModel", "refuse", "(IZ)Z"⟩ ∈ gG := gk8 (List.mem_of_getElem? (i := 1) rfl) rfl
theorem im_M_refuse : Cond.instanceMethod ⟨"StreamNodesModel", "refuse", "(IZ)Z"⟩ ∈ gG := gk8 (List.mem_of_getElem? (i := 3) rfl) rfl
theorem co_M_refuse : Cond.code ⟨"StreamNodesModel", "refuse", "(IZ)Z"⟩ prog_14_method_3_code 3 (some .boolean) ∈ gG := gk8 (List.mem_of_getElem? (i := 4) rfl) rfl
theorem ml_L_67 : Cond.methodLink "StreamNodesLaw" 67 ⟨"StreamNodesModel", "end", "(I)I"⟩ ∈ gG := gk8 (List.mem_of_getElem? (i := 5) rfl) rfl
theorem im_M_end : Cond.instanceMethod ⟨"StreamNodesModel", "end", "(I)I"⟩ ∈ gG := gk8 (List.mem_of_getElem? (i := 6) rfl) rfl
theorem se_M_end : Cond.selects "StreamNodesModel" ⟨"StreamNodesModel", "end", "(I)I"⟩ ⟨"StreamNodesModel", "end", "(I)I"⟩ ∈ gG := gk8 (List.mem_of_getElem? (i := 7) rfl) rfl
theorem co_M_end : Cond.code ⟨"StreamNodesModel", "end", "(I)I"⟩ prog_14_method_5_code 2 (some .int) ∈ gG := gk8 (List.mem_of_getElem? (i := 8) rfl) rfl
theorem ml_L_71 : Cond.methodLink "StreamNodesLaw" 71 ⟨"StreamNodesModel", "read", "()I"⟩ ∈ gG := gk8 (List.mem_of_getElem? (i := 9) rfl) rfl
theorem im_M_read : Cond.instanceMethod ⟨"StreamNodesModel", "read", "()I"⟩ ∈ gG := gk8 (List.mem_of_getElem? (i := 10) rfl) rfl
theorem se_M_read : Cond.selects "StreamNodesModel" ⟨"StreamNodesModel", "read", "()I"⟩ ⟨"StreamNodesModel", "read", "()I"⟩ ∈ gG := gk8 (List.mem_of_getElem? (i := 11) rfl) rfl
theorem cw_M_read : Cond.codeWith ⟨"StreamNodesModel", "read", "()I"⟩ prog_14_method_60_code 2 (some .int) [(102, 272, 275, 296)] ∈ gG := gk8 (List.mem_of_getElem? (i := 12) rfl) rfl
theorem cl_M_296 : Cond.classLink "StreamNodesModel" 296 "StreamNodesModel$Wrong" ∈ gG := gk8 (List.mem_of_getElem? (i := 13) rfl) rfl
theorem ml_M_501 : Cond.methodLink "StreamNodesModel" 501 ⟨"StreamNodesModel", "node", "()V"⟩ ∈ gG := gk8 (List.mem_of_getElem? (i := 14) rfl) rfl
theorem im_M_node : Cond.instanceMethod ⟨"StreamNodesModel", "node", "()V"⟩ ∈ gG := gk8 (List.mem_of_getElem? (i := 16) rfl) rfl
theorem co_M_node : Cond.code ⟨"StreamNodesModel", "node", "()V"⟩ prog_14_method_26_code 3 none ∈ gG := gk8 (List.mem_of_getElem? (i := 17) rfl) rfl
theorem nt_sr_M_321 : Cond.stringRef "StreamNodesModel" 321 "node" ∈ tables_1 := gm8 (List.mem_of_getElem? (i := 18) rfl)
theorem ml_M_317 : Cond.methodLink "StreamNodesModel" 317 ⟨"StreamNodesModel", "is", "(Ljava/lang/String;)Z"⟩ ∈ gG := gk8 (List.mem_of_getElem? (i := 19) rfl) rfl
theorem im_M_is : Cond.instanceMethod ⟨"StreamNodesModel", "is", "(Ljava/lang/String;)Z"⟩ ∈ gG := gk8 (List.mem_of_getElem? (i := 21) rfl) rfl
theorem co_M_is : Cond.code ⟨"StreamNodesModel", "is", "(Ljava/lang/String;)Z"⟩ prog_14_method_15_code 3 (some .boolean) ∈ gG := gk8 (List.mem_of_getElem? (i := 22) rfl) rfl
theorem ml_M_292 : Cond.methodLink "StreamNodesModel" 292 ⟨"StreamNodesModel", "peek", "()I"⟩ ∈ gG := gk8 (List.mem_of_getElem? (i := 23) rfl) rfl
theorem im_M_peek : Cond.instanceMethod ⟨"StreamNodesModel", "peek", "()I"⟩ ∈ gG := gk8 (List.mem_of_getElem? (i := 25) rfl) rfl
theorem co_M_peek : Cond.code ⟨"StreamNodesModel", "peek", "()I"⟩ prog_14_method_10_code 2 (some .int) ∈ gG := gk8 (List.mem_of_getElem? (i := 26) rfl) rfl
theorem ml_M_278 : Cond.methodLink "StreamNodesModel" 278 ⟨"StreamNodesModel", "parts", "()V"⟩ ∈ gG := gk8 (List.mem_of_getElem? (i := 27) rfl) rfl
theorem im_M_parts : Cond.instanceMethod ⟨"StreamNodesModel", "parts", "()V"⟩ ∈ gG := gk8 (List.mem_of_getElem? (i := 29) rfl) rfl
theorem co_M_parts : Cond.code ⟨"StreamNodesModel", "parts", "()V"⟩ prog_14_method_9_code 2 none ∈ gG := gk8 (List.mem_of_getElem? (i := 30) rfl) rfl
theorem ml_M_274 : Cond.methodLink "StreamNodesModel" 274 ⟨"StreamNodesModel", "byteAt", "(I)I"⟩ ∈ gG := gk8 (List.mem_of_getElem? (i := 31) rfl) rfl
theorem im_M_byteAt : Cond.instanceMethod ⟨"StreamNodesModel", "byteAt", "(I)I"⟩ ∈ gG := gk8 (List.mem_of_getElem? (i := 33) rfl) rfl
theorem co_M_byteAt : Cond.code ⟨"StreamNodesModel", "byteAt", "(I)I"⟩ prog_14_method_8_code 2 (some .int) ∈ gG := gk8 (List.mem_of_getElem? (i := 34) rfl) rfl
theorem ml_M_281 : Cond.methodLink "StreamNodesModel" 281 ⟨"StreamNodesModel", "letter", "(I)Z"⟩ ∈ gG := gk8 (List.mem_of_getElem? (i := 35) rfl) rfl
theorem sm_M_letter : Cond.static ⟨"StreamNodesModel", "letter", "(I)Z"⟩ ∈ gG := gk8 (List.mem_of_getElem? (i := 36) rfl) rfl
theorem co_M_letter : Cond.code ⟨"StreamNodesModel", "letter", "(I)Z"⟩ prog_14_method_7_code 1 (some .boolean) ∈ gG := gk8 (List.mem_of_getElem? (i := 37) rfl) rfl
theorem ml_M_285 : Cond.methodLink "StreamNodesModel" 285 ⟨"StreamNodesModel", "digit", "(I)Z"⟩ ∈ gG := gk8 (List.mem_of_getElem? (i := 38) rfl) rfl
theorem sm_M_digit : Cond.static ⟨"StreamNodesModel", "digit", "(I)Z"⟩ ∈ gG := gk8 (List.mem_of_getElem? (i := 39) rfl) rfl
theorem co_M_digit : Cond.code ⟨"StreamNodesModel", "digit", "(I)Z"⟩ prog_14_method_6_code 1 (some .boolean) ∈ gG := gk8 (List.mem_of_getElem? (i := 40) rfl) rfl
theorem ml_M_288 : Cond.methodLink "StreamNodesModel" 288 ⟨"StreamNodesModel", "sign", "(II)I"⟩ ∈ gG := gk8 (List.mem_of_getElem? (i := 41) rfl) rfl
theorem sm_M_sign : Cond.static ⟨"StreamNodesModel", "sign", "(II)I"⟩ ∈ gG := gk8 (List.mem_of_getElem? (i := 42) rfl) rfl
theorem co_M_sign : Cond.code ⟨"StreamNodesModel", "sign", "(II)I"⟩ prog_14_method_11_code 2 (some .int) ∈ gG := gk8 (List.mem_of_getElem? (i := 43) rfl) rfl
theorem ml_M_308 : Cond.methodLink "StreamNodesModel" 308 ⟨"java/lang/String", "length", "()I"⟩ ∈ gG := gk8 (List.mem_of_getElem? (i := 44) rfl) rfl
theorem ml_M_313 : Cond.methodLink "StreamNodesModel" 313 ⟨"java/lang/String", "charAt", "(I)C"⟩ ∈ gG := gk8 (List.mem_of_getElem? (i := 45) rfl) rfl
theorem ia_Wr : Cond.instantiable "StreamNodesModel$Wrong" 8 ∈ gG := gk8 (List.mem_of_getElem? (i := 46) rfl) rfl
theorem ml_M_298 : Cond.methodLink "StreamNodesModel" 298 ⟨"StreamNodesModel$Wrong", "<init>", "(II)V"⟩ ∈ gG := gk8 (List.mem_of_getElem? (i := 54) rfl) rfl
theorem im_Wr_init : Cond.instanceMethod ⟨"StreamNodesModel$Wrong", "<init>", "(II)V"⟩ ∈ gG := gk8 (List.mem_of_getElem? (i := 55) rfl) rfl
theorem co_Wr_init : Cond.code ⟨"StreamNodesModel$Wrong", "<init>", "(II)V"⟩ prog_15_method_1_code 3 none ∈ gG := gk8 (List.mem_of_getElem? (i := 56) rfl) rfl
theorem ml_Wr_1 : Cond.methodLink "StreamNodesModel$Wrong" 1 ⟨"java/lang/RuntimeException", "<init>", "(Ljava/lang/String;Ljava/lang/Throwable;ZZ)V"⟩ ∈ gG := gk8 (List.mem_of_getElem? (i := 57) rfl) rfl
theorem im_java_lang_RuntimeException_init_1 : Cond.instanceMethod ⟨"java/lang/RuntimeException", "<init>", "(Ljava/lang/String;Ljava/lang/Throwable;ZZ)V"⟩ ∈ gG := gk8 (List.mem_of_getElem? (i := 58) rfl) rfl
theorem co_java_lang_RuntimeException_init_1 : Cond.code ⟨"java/lang/RuntimeException", "<init>", "(Ljava/lang/String;Ljava/lang/Throwable;ZZ)V"⟩ prog_20_method_5_code 5 none ∈ gG := gk8 (List.mem_of_getElem? (i := 59) rfl) rfl
theorem ml_java_lang_RuntimeException_16 : Cond.methodLink "java/lang/RuntimeException" 16 ⟨"java/lang/Exception", "<init>", "(Ljava/lang/String;Ljava/lang/Throwable;ZZ)V"⟩ ∈ gG := gk8 (List.mem_of_getElem? (i := 60) rfl) rfl
theorem im_java_lang_Exception_init_1 : Cond.instanceMethod ⟨"java/lang/Exception", "<init>", "(Ljava/lang/String;Ljava/lang/Throwable;ZZ)V"⟩ ∈ gG := gk8 (List.mem_of_getElem? (i := 61) rfl) rfl
theorem co_java_lang_Exception_init_1 : Cond.code ⟨"java/lang/Exception", "<init>", "(Ljava/lang/String;Ljava/lang/Throwable;ZZ)V"⟩ prog_16_method_5_code 5 none ∈ gG := gk8 (List.mem_of_getElem? (i := 62) rfl) rfl
theorem ml_java_lang_Exception_16 : Cond.methodLink "java/lang/Exception" 16 ⟨"java/lang/Throwable", "<init>", "(Ljava/lang/String;Ljava/lang/Throwable;ZZ)V"⟩ ∈ gG := gk8 (List.mem_of_getElem? (i := 63) rfl) rfl
theorem im_java_lang_Throwable_init_1 : Cond.instanceMethod ⟨"java/lang/Throwable", "<init>", "(Ljava/lang/String;Ljava/lang/Throwable;ZZ)V"⟩ ∈ gG := gk8 (List.mem_of_getElem? (i := 64) rfl) rfl
theorem co_java_lang_Throwable_init_1 : Cond.code ⟨"java/lang/Throwable", "<init>", "(Ljava/lang/String;Ljava/lang/Throwable;ZZ)V"⟩ prog_25_method_5_code 5 none ∈ gG := gk8 (List.mem_of_getElem? (i := 65) rfl) rfl
theorem fl_Wr_7 : Cond.fieldLink "StreamNodesModel$Wrong" 7 "StreamNodesModel$Wrong" "kind" "I" ∈ gG := gk8 (List.mem_of_getElem? (i := 66) rfl) rfl
theorem fl_M_515 : Cond.fieldLink "StreamNodesModel" 515 "StreamNodesModel$Wrong" "kind" "I" ∈ gG := gk8 (List.mem_of_getElem? (i := 67) rfl) rfl
theorem fl_Wr_13 : Cond.fieldLink "StreamNodesModel$Wrong" 13 "StreamNodesModel$Wrong" "place" "I" ∈ gG := gk8 (List.mem_of_getElem? (i := 68) rfl) rfl
theorem fl_M_518 : Cond.fieldLink "StreamNodesModel" 518 "StreamNodesModel$Wrong" "place" "I" ∈ gG := gk8 (List.mem_of_getElem? (i := 69) rfl) rfl
theorem nt_su_Wr : Cond.superclass "StreamNodesModel$Wrong" "java/lang/RuntimeException" ∈ tables_1 := gm8 (List.mem_of_getElem? (i := 75) rfl)
theorem ml_M_390 : Cond.methodLink "StreamNodesModel" 390 ⟨"StreamNodesModel", "mustBe", "(Ljava/lang/String;)V"⟩ ∈ gG := gk8 (List.mem_of_getElem? (i := 76) rfl) rfl
theorem im_M_mustBe : Cond.instanceMethod ⟨"StreamNodesModel", "mustBe", "(Ljava/lang/String;)V"⟩ ∈ gG := gk8 (List.mem_of_getElem? (i := 78) rfl) rfl
theorem co_M_mustBe : Cond.code ⟨"StreamNodesModel", "mustBe", "(Ljava/lang/String;)V"⟩ prog_14_method_16_code 2 none ∈ gG := gk8 (List.mem_of_getElem? (i := 79) rfl) rfl
theorem ml_M_301 : Cond.methodLink "StreamNodesModel" 301 ⟨"StreamNodesModel", "cant", "()LStreamNodesModel$Wrong;"⟩ ∈ gG := gk8 (List.mem_of_getElem? (i := 80) rfl) rfl
theorem im_M_cant : Cond.instanceMethod ⟨"StreamNodesModel", "cant", "()LStreamNodesModel$Wrong;"⟩ ∈ gG := gk8 (List.mem_of_getElem? (i := 82) rfl) rfl
theorem co_M_cant : Cond.code ⟨"StreamNodesModel", "cant", "()LStreamNodesModel$Wrong;"⟩ prog_14_method_13_code 1 (some (.object "StreamNodesModel$Wrong")) ∈ gG := gk8 (List.mem_of_getElem? (i := 83) rfl) rfl
theorem ml_M_305 : Cond.methodLink "StreamNodesModel" 305 ⟨"StreamNodesModel", "take", "()V"⟩ ∈ gG := gk8 (List.mem_of_getElem? (i := 84) rfl) rfl
theorem im_M_take : Cond.instanceMethod ⟨"StreamNodesModel", "take", "()V"⟩ ∈ gG := gk8 (List.mem_of_getElem? (i := 86) rfl) rfl
theorem co_M_take : Cond.code ⟨"StreamNodesModel", "take", "()V"⟩ prog_14_method_12_code 1 none ∈ gG := gk8 (List.mem_of_getElem? (i := 87) rfl) rfl
theorem ml_M_373 : Cond.methodLink "StreamNodesModel" 373 ⟨"StreamNodesModel", "nameHere", "()Z"⟩ ∈ gG := gk8 (List.mem_of_getElem? (i := 88) rfl) rfl
theorem im_M_nameHere : Cond.instanceMethod ⟨"StreamNodesModel", "nameHere", "()Z"⟩ ∈ gG := gk8 (List.mem_of_getElem? (i := 90) rfl) rfl
theorem co_M_nameHere : Cond.code ⟨"StreamNodesModel", "nameHere", "()Z"⟩ prog_14_method_18_code 1 (some .boolean) ∈ gG := gk8 (List.mem_of_getElem? (i := 91) rfl) rfl
theorem ml_M_365 : Cond.methodLink "StreamNodesModel" 365 ⟨"StreamNodesModel", "reserved", "()Z"⟩ ∈ gG := gk8 (List.mem_of_getElem? (i := 92) rfl) rfl
theorem im_M_reserved : Cond.instanceMethod ⟨"StreamNodesModel", "reserved", "()Z"⟩ ∈ gG := gk8 (List.mem_of_getElem? (i := 94) rfl) rfl
theorem co_M_reserved : Cond.code ⟨"StreamNodesModel", "reserved", "()Z"⟩ prog_14_method_17_code 1 (some .boolean) ∈ gG := gk8 (List.mem_of_getElem? (i := 95) rfl) rfl
theorem nt_sr_M_323 : Cond.stringRef "StreamNodesModel" 323 "returns" ∈ tables_1 := gm8 (List.mem_of_getElem? (i := 96) rfl)
theorem nt_sr_M_325 : Cond.stringRef "StreamNodesModel" 325 "var" ∈ tables_1 := gm8 (List.mem_of_getElem? (i := 97) rfl)
theorem nt_sr_M_327 : Cond.stringRef "StreamNodesModel" 327 "let" ∈ tables_1 := gm8 (List.mem_of_getElem? (i := 98) rfl)
theorem nt_sr_M_329 : Cond.stringRef "StreamNodesModel" 329 "tel" ∈ tables_1 := gm8 (List.mem_of_getElem? (i := 99) rfl)
theorem nt_sr_M_331 : Cond.stringRef "StreamNodesModel" 331 "int" ∈ tables_1 := gm8 (List.mem_of_getElem? (i := 100) rfl)
theorem nt_sr_M_333 : Cond.stringRef "StreamNodesModel" 333 "bool" ∈ tables_1 := gm8 (List.mem_of_getElem? (i := 101) rfl)
theorem nt_sr_M_335 : Cond.stringRef "StreamNodesModel" 335 "when" ∈ tables_1 := gm8 (List.mem_of_getElem? (i := 102) rfl)
theorem nt_sr_M_337 : Cond.stringRef "StreamNodesModel" 337 "not" ∈ tables_1 := gm8 (List.mem_of_getElem? (i := 103) rfl)
theorem nt_sr_M_339 : Cond.stringRef "StreamNodesModel" 339 "and" ∈ tables_1 := gm8 (List.mem_of_getElem? (i := 104) rfl)
theorem nt_sr_M_341 : Cond.stringRef "StreamNodesModel" 341 "or" ∈ tables_1 := gm8 (List.mem_of_getElem? (i := 105) rfl)
theorem nt_sr_M_343 : Cond.stringRef "StreamNodesModel" 343 "xor" ∈ tables_1 := gm8 (List.mem_of_getElem? (i := 106) rfl)
theorem nt_sr_M_345 : Cond.stringRef "StreamNodesModel" 345 "if" ∈ tables_1 := gm8 (List.mem_of_getElem? (i := 107) rfl)
theorem nt_sr_M_347 : Cond.stringRef "StreamNodesModel" 347 "then" ∈ tables_1 := gm8 (List.mem_of_getElem? (i := 108) rfl)
theorem nt_sr_M_349 : Cond.stringRef "StreamNodesModel" 349 "else" ∈ tables_1 := gm8 (List.mem_of_getElem? (i := 109) rfl)
theorem nt_sr_M_351 : Cond.stringRef "StreamNodesModel" 351 "pre" ∈ tables_1 := gm8 (List.mem_of_getElem? (i := 110) rfl)
theorem nt_sr_M_353 : Cond.stringRef "StreamNodesModel" 353 "current" ∈ tables_1 := gm8 (List.mem_of_getElem? (i := 111) rfl)
theorem nt_sr_M_355 : Cond.stringRef "StreamNodesModel" 355 "fby" ∈ tables_1 := gm8 (List.mem_of_getElem? (i := 112) rfl)
theorem nt_sr_M_357 : Cond.stringRef "StreamNodesModel" 357 "div" ∈ tables_1 := gm8 (List.mem_of_getElem? (i := 113) rfl)
theorem nt_sr_M_359 : Cond.stringRef "StreamNodesModel" 359 "mod" ∈ tables_1 := gm8 (List.mem_of_getElem? (i := 114) rfl)
theorem nt_sr_M_361 : Cond.stringRef "StreamNodesModel" 361 "true" ∈ tables_1 := gm8 (List.mem_of_getElem? (i := 115) rfl)
theorem nt_sr_M_363 : Cond.stringRef "StreamNodesModel" 363 "false" ∈ tables_1 := gm8 (List.mem_of_getElem? (i := 116) rfl)
theorem ml_M_394 : Cond.methodLink "StreamNodesModel" 394 ⟨"StreamNodesModel", "nodeHere", "()I"⟩ ∈ gG := gk8 (List.mem_of_getElem? (i := 117) rfl) rfl
theorem im_M_nodeHere : Cond.instanceMethod ⟨"StreamNodesModel", "nodeHere", "()I"⟩ ∈ gG := gk8 (List.mem_of_getElem? (i := 119) rfl) rfl
theorem co_M_nodeHere : Cond.code ⟨"StreamNodesModel", "nodeHere", "()I"⟩ prog_14_method_22_code 2 (some .int) ∈ gG := gk8 (List.mem_of_getElem? (i := 120) rfl) rfl
theorem ml_M_369 : Cond.methodLink "StreamNodesModel" 369 ⟨"StreamNodesModel", "spelled", "(II)Z"⟩ ∈ gG := gk8 (List.mem_of_getElem? (i := 121) rfl) rfl
theorem im_M_spelled : Cond.instanceMethod ⟨"StreamNodesModel", "spelled", "(II)Z"⟩ ∈ gG := gk8 (List.mem_of_getElem? (i := 123) rfl) rfl
theorem co_M_spelled : Cond.code ⟨"StreamNodesModel", "spelled", "(II)Z"⟩ prog_14_method_20_code 4 (some .boolean) ∈ gG := gk8 (List.mem_of_getElem? (i := 124) rfl) rfl
theorem ml_M_397 : Cond.methodLink "StreamNodesModel" 397 ⟨"StreamNodesModel", "groups", "()V"⟩ ∈ gG := gk8 (List.mem_of_getElem? (i := 125) rfl) rfl
theorem im_M_groups : Cond.instanceMethod ⟨"StreamNodesModel", "groups", "()V"⟩ ∈ gG := gk8 (List.mem_of_getElem? (i := 127) rfl) rfl
theorem co_M_groups : Cond.code ⟨"StreamNodesModel", "groups", "()V"⟩ prog_14_method_25_code 1 none ∈ gG := gk8 (List.mem_of_getElem? (i := 128) rfl) rfl
theorem ml_M_379 : Cond.methodLink "StreamNodesModel" 379 ⟨"StreamNodesModel", "must", "(I)V"⟩ ∈ gG := gk8 (List.mem_of_getElem? (i := 129) rfl) rfl
theorem im_M_must : Cond.instanceMethod ⟨"StreamNodesModel", "must", "(I)V"⟩ ∈ gG := gk8 (List.mem_of_getElem? (i := 131) rfl) rfl
theorem co_M_must : Cond.code ⟨"StreamNodesModel", "must", "(I)V"⟩ prog_14_method_14_code 2 none ∈ gG := gk8 (List.mem_of_getElem? (i := 132) rfl) rfl
theorem ml_M_386 : Cond.methodLink "StreamNodesModel" 386 ⟨"StreamNodesModel", "group", "(Z)V"⟩ ∈ gG := gk8 (List.mem_of_getElem? (i := 133) rfl) rfl
theorem im_M_group : Cond.instanceMethod ⟨"StreamNodesModel", "group", "(Z)V"⟩ ∈ gG := gk8 (List.mem_of_getElem? (i := 135) rfl) rfl
theorem co_M_group : Cond.code ⟨"StreamNodesModel", "group", "(Z)V"⟩ prog_14_method_23_code 8 none ∈ gG := gk8 (List.mem_of_getElem? (i := 136) rfl) rfl
theorem ml_M_376 : Cond.methodLink "StreamNodesModel" 376 ⟨"StreamNodesModel", "variableHere", "(I)I"⟩ ∈ gG := gk8 (List.mem_of_getElem? (i := 137) rfl) rfl
theorem im_M_variableHere : Cond.instanceMethod ⟨"StreamNodesModel", "variableHere", "(I)I"⟩ ∈ gG := gk8 (List.mem_of_getElem? (i := 139) rfl) rfl
theorem co_M_variableHere : Cond.code ⟨"StreamNodesModel", "variableHere", "(I)I"⟩ prog_14_method_21_code 3 (some .int) ∈ gG := gk8 (List.mem_of_getElem? (i := 140) rfl) rfl
theorem ml_M_383 : Cond.methodLink "StreamNodesModel" 383 ⟨"StreamNodesModel", "shallow", "(I)V"⟩ ∈ gG := gk8 (List.mem_of_getElem? (i := 141) rfl) rfl
theorem im_M_shallow : Cond.instanceMethod ⟨"StreamNodesModel", "shallow", "(I)V"⟩ ∈ gG := gk8 (List.mem_of_getElem? (i := 143) rfl) rfl
theorem co_M_shallow : Cond.code ⟨"StreamNodesModel", "shallow", "(I)V"⟩ prog_14_method_24_code 4 none ∈ gG := gk8 (List.mem_of_getElem? (i := 144) rfl) rfl
theorem ml_M_400 : Cond.methodLink "StreamNodesModel" 400 ⟨"StreamNodesModel", "equation", "()V"⟩ ∈ gG := gk8 (List.mem_of_getElem? (i := 145) rfl) rfl
theorem im_M_equation : Cond.instanceMethod ⟨"StreamNodesModel", "equation", "()V"⟩ ∈ gG := gk8 (List.mem_of_getElem? (i := 147) rfl) rfl
theorem co_M_equation : Cond.code ⟨"StreamNodesModel", "equation", "()V"⟩ prog_14_method_28_code 2 none ∈ gG := gk8 (List.mem_of_getElem? (i := 148) rfl) rfl
theorem ml_M_406 : Cond.methodLink "StreamNodesModel" 406 ⟨"StreamNodesModel", "left", "()I"⟩ ∈ gG := gk8 (List.mem_of_getElem? (i := 149) rfl) rfl
theorem im_M_left : Cond.instanceMethod ⟨"StreamNodesModel", "left", "()I"⟩ ∈ gG := gk8 (List.mem_of_getElem? (i := 151) rfl) rfl
theorem co_M_left : Cond.code ⟨"StreamNodesModel", "left", "()I"⟩ prog_14_method_27_code 2 (some .int) ∈ gG := gk8 (List.mem_of_getElem? (i := 152) rfl) rfl
theorem ml_M_409 : Cond.methodLink "StreamNodesModel" 409 ⟨"StreamNodesModel", "expression", "(I)I"⟩ ∈ gG := gk8 (List.mem_of_getElem? (i := 153) rfl) rfl
theorem im_M_expression : Cond.instanceMethod ⟨"StreamNodesModel", "expression", "(I)I"⟩ ∈ gG := gk8 (List.mem_of_getElem? (i := 155) rfl) rfl
theorem co_M_expression : Cond.code ⟨"StreamNodesModel", "expression", "(I)I"⟩ prog_14_method_32_code 3 (some .int) ∈ gG := gk8 (List.mem_of_getElem? (i := 156) rfl) rfl
theorem ml_M_424 : Cond.methodLink "StreamNodesModel" 424 ⟨"StreamNodesModel", "nest", "(I)I"⟩ ∈ gG := gk8 (List.mem_of_getElem? (i := 157) rfl) rfl
theorem im_M_nest : Cond.instanceMethod ⟨"StreamNodesModel", "nest", "(I)I"⟩ ∈ gG := gk8 (List.mem_of_getElem? (i := 159) rfl) rfl
theorem co_M_nest : Cond.code ⟨"StreamNodesModel", "nest", "(I)I"⟩ prog_14_method_19_code 2 (some .int) ∈ gG := gk8 (List.mem_of_getElem? (i := 160) rfl) rfl
theorem ml_M_420 : Cond.methodLink "StreamNodesModel" 420 ⟨"StreamNodesModel", "make", "(IIII)I"⟩ ∈ gG := gk8 (List.mem_of_getElem? (i := 161) rfl) rfl
theorem im_M_make : Cond.instanceMethod ⟨"StreamNodesModel", "make", "(IIII)I"⟩ ∈ gG := gk8 (List.mem_of_getElem? (i := 163) rfl) rfl
theorem co_M_make : Cond.code ⟨"StreamNodesModel", "make", "(IIII)I"⟩ prog_14_method_29_code 7 (some .int) ∈ gG := gk8 (List.mem_of_getElem? (i := 164) rfl) rfl
theorem ml_M_415 : Cond.methodLink "StreamNodesModel" 415 ⟨"java/lang/Math", "max", "(II)I"⟩ ∈ gG := gk8 (List.mem_of_getElem? (i := 165) rfl) rfl
theorem ml_M_427 : Cond.methodLink "StreamNodesModel" 427 ⟨"StreamNodesModel", "implied", "(I)I"⟩ ∈ gG := gk8 (List.mem_of_getElem? (i := 166) rfl) rfl
theorem im_M_implied : Cond.instanceMethod ⟨"StreamNodesModel", "implied", "(I)I"⟩ ∈ gG := gk8 (List.mem_of_getElem? (i := 168) rfl) rfl
theorem co_M_implied : Cond.code ⟨"StreamNodesModel", "implied", "(I)I"⟩ prog_14_method_33_code 3 (some .int) ∈ gG := gk8 (List.mem_of_getElem? (i := 169) rfl) rfl
theorem ml_M_434 : Cond.methodLink "StreamNodesModel" 434 ⟨"StreamNodesModel", "either", "(I)I"⟩ ∈ gG := gk8 (List.mem_of_getElem? (i := 170) rfl) rfl
theorem im_M_either : Cond.instanceMethod ⟨"StreamNodesModel", "either", "(I)I"⟩ ∈ gG := gk8 (List.mem_of_getElem? (i := 172) rfl) rfl
theorem co_M_either : Cond.code ⟨"StreamNodesModel", "either", "(I)I"⟩ prog_14_method_34_code 5 (some .int) ∈ gG := gk8 (List.mem_of_getElem? (i := 173) rfl) rfl
theorem ml_M_437 : Cond.methodLink "StreamNodesModel" 437 ⟨"StreamNodesModel", "both", "(I)I"⟩ ∈ gG := gk8 (List.mem_of_getElem? (i := 174) rfl) rfl
theorem im_M_both : Cond.instanceMethod ⟨"StreamNodesModel", "both", "(I)I"⟩ ∈ gG := gk8 (List.mem_of_getElem? (i := 176) rfl) rfl
theorem co_M_both : Cond.code ⟨"StreamNodesModel", "both", "(I)I"⟩ prog_14_method_35_code 4 (some .int) ∈ gG := gk8 (List.mem_of_getElem? (i := 177) rfl) rfl
theorem ml_M_440 : Cond.methodLink "StreamNodesModel" 440 ⟨"StreamNodesModel", "compared", "(I)I"⟩ ∈ gG := gk8 (List.mem_of_getElem? (i := 178) rfl) rfl
theorem im_M_compared : Cond.instanceMethod ⟨"StreamNodesModel", "compared", "(I)I"⟩ ∈ gG := gk8 (List.mem_of_getElem? (i := 180) rfl) rfl
theorem co_M_compared : Cond.code ⟨"StreamNodesModel", "compared", "(I)I"⟩ prog_14_method_36_code 6 (some .int) ∈ gG := gk8 (List.mem_of_getElem? (i := 181) rfl) rfl
theorem ml_M_443 : Cond.methodLink "StreamNodesModel" 443 ⟨"StreamNodesModel", "sum", "(I)I"⟩ ∈ gG := gk8 (List.mem_of_getElem? (i := 182) rfl) rfl
theorem im_M_sum : Cond.instanceMethod ⟨"StreamNodesModel", "sum", "(I)I"⟩ ∈ gG := gk8 (List.mem_of_getElem? (i := 184) rfl) rfl
theorem co_M_sum : Cond.code ⟨"StreamNodesModel", "sum", "(I)I"⟩ prog_14_method_37_code 5 (some .int) ∈ gG := gk8 (List.mem_of_getElem? (i := 185) rfl) rfl
theorem ml_M_446 : Cond.methodLink "StreamNodesModel" 446 ⟨"StreamNodesModel", "product", "(I)I"⟩ ∈ gG := gk8 (List.mem_of_getElem? (i := 186) rfl) rfl
theorem im_M_product : Cond.instanceMethod ⟨"StreamNodesModel", "product", "(I)I"⟩ ∈ gG := gk8 (List.mem_of_getElem? (i := 188) rfl) rfl
theorem co_M_product : Cond.code ⟨"StreamNodesModel", "product", "(I)I"⟩ prog_14_method_38_code 5 (some .int) ∈ gG := gk8 (List.mem_of_getElem? (i := 189) rfl) rfl
theorem ml_M_449 : Cond.methodLink "StreamNodesModel" 449 ⟨"StreamNodesModel", "unary", "(I)I"⟩ ∈ gG := gk8 (List.mem_of_getElem? (i := 190) rfl) rfl
theorem im_M_unary : Cond.instanceMethod ⟨"StreamNodesModel", "unary", "(I)I"⟩ ∈ gG := gk8 (List.mem_of_getElem? (i := 192) rfl) rfl
theorem co_M_unary : Cond.code ⟨"StreamNodesModel", "unary", "(I)I"⟩ prog_14_method_39_code 6 (some .int) ∈ gG := gk8 (List.mem_of_getElem? (i := 193) rfl) rfl
theorem ml_M_452 : Cond.methodLink "StreamNodesModel" 452 ⟨"StreamNodesModel", "atom", "(I)I"⟩ ∈ gG := gk8 (List.mem_of_getElem? (i := 194) rfl) rfl
theorem im_M_atom : Cond.instanceMethod ⟨"StreamNodesModel", "atom", "(I)I"⟩ ∈ gG := gk8 (List.mem_of_getElem? (i := 196) rfl) rfl
theorem co_M_atom : Cond.code ⟨"StreamNodesModel", "atom", "(I)I"⟩ prog_14_method_40_code 5 (some .int) ∈ gG := gk8 (List.mem_of_getElem? (i := 197) rfl) rfl
theorem ml_M_412 : Cond.methodLink "StreamNodesModel" 412 ⟨"StreamNodesModel", "call", "(II)I"⟩ ∈ gG := gk8 (List.mem_of_getElem? (i := 198) rfl) rfl
theorem im_M_call : Cond.instanceMethod ⟨"StreamNodesModel", "call", "(II)I"⟩ ∈ gG := gk8 (List.mem_of_getElem? (i := 200) rfl) rfl
theorem co_M_call : Cond.code ⟨"StreamNodesModel", "call", "(II)I"⟩ prog_14_method_31_code 6 (some .int) ∈ gG := gk8 (List.mem_of_getElem? (i := 201) rfl) rfl
theorem ml_M_430 : Cond.methodLink "StreamNodesModel" 430 ⟨"StreamNodesModel", "two", "(III)I"⟩ ∈ gG := gk8 (List.mem_of_getElem? (i := 202) rfl) rfl
theorem im_M_two : Cond.instanceMethod ⟨"StreamNodesModel", "two", "(III)I"⟩ ∈ gG := gk8 (List.mem_of_getElem? (i := 204) rfl) rfl
theorem co_M_two : Cond.code ⟨"StreamNodesModel", "two", "(III)I"⟩ prog_14_method_30_code 4 (some .int) ∈ gG := gk8 (List.mem_of_getElem? (i := 205) rfl) rfl
theorem ml_M_403 : Cond.methodLink "StreamNodesModel" 403 ⟨"StreamNodesModel", "judge", "(I)V"⟩ ∈ gG := gk8 (List.mem_of_getElem? (i := 206) rfl) rfl
theorem im_M_judge : Cond.instanceMethod ⟨"StreamNodesModel", "judge", "(I)V"⟩ ∈ gG := gk8 (List.mem_of_getElem? (i := 208) rfl) rfl
theorem co_M_judge : Cond.code ⟨"StreamNodesModel", "judge", "(I)V"⟩ prog_14_method_44_code 7 none ∈ gG := gk8 (List.mem_of_getElem? (i := 209) rfl) rfl
theorem ml_M_455 : Cond.methodLink "StreamNodesModel" 455 ⟨"StreamNodesModel", "look", "(II)V"⟩ ∈ gG := gk8 (List.mem_of_getElem? (i := 210) rfl) rfl
theorem im_M_look : Cond.instanceMethod ⟨"StreamNodesModel", "look", "(II)V"⟩ ∈ gG := gk8 (List.mem_of_getElem? (i := 212) rfl) rfl
theorem co_M_look : Cond.code ⟨"StreamNodesModel", "look", "(II)V"⟩ prog_14_method_45_code 9 none ∈ gG := gk8 (List.mem_of_getElem? (i := 213) rfl) rfl
theorem ml_M_458 : Cond.methodLink "StreamNodesModel" 458 ⟨"StreamNodesModel", "type", "(Z)V"⟩ ∈ gG := gk8 (List.mem_of_getElem? (i := 214) rfl) rfl
theorem im_M_type : Cond.instanceMethod ⟨"StreamNodesModel", "type", "(Z)V"⟩ ∈ gG := gk8 (List.mem_of_getElem? (i := 216) rfl) rfl
theorem co_M_type : Cond.code ⟨"StreamNodesModel", "type", "(Z)V"⟩ prog_14_method_41_code 2 none ∈ gG := gk8 (List.mem_of_getElem? (i := 217) rfl) rfl
theorem ml_M_461 : Cond.methodLink "StreamNodesModel" 461 ⟨"StreamNodesModel", "lookAtClock", "(I)V"⟩ ∈ gG := gk8 (List.mem_of_getElem? (i := 218) rfl) rfl
theorem im_M_lookAtClock : Cond.instanceMethod ⟨"StreamNodesModel", "lookAtClock", "(I)V"⟩ ∈ gG := gk8 (List.mem_of_getElem? (i := 220) rfl) rfl
theorem co_M_lookAtClock : Cond.code ⟨"StreamNodesModel", "lookAtClock", "(I)V"⟩ prog_14_method_46_code 5 none ∈ gG := gk8 (List.mem_of_getElem? (i := 221) rfl) rfl
theorem ml_M_464 : Cond.methodLink "StreamNodesModel" 464 ⟨"StreamNodesModel", "clockOfVariable", "(I)I"⟩ ∈ gG := gk8 (List.mem_of_getElem? (i := 222) rfl) rfl
theorem im_M_clockOfVariable : Cond.instanceMethod ⟨"StreamNodesModel", "clockOfVariable", "(I)I"⟩ ∈ gG := gk8 (List.mem_of_getElem? (i := 224) rfl) rfl
theorem co_M_clockOfVariable : Cond.code ⟨"StreamNodesModel", "clockOfVariable", "(I)I"⟩ prog_14_method_43_code 2 (some .int) ∈ gG := gk8 (List.mem_of_getElem? (i := 225) rfl) rfl
theorem ml_M_467 : Cond.methodLink "StreamNodesModel" 467 ⟨"StreamNodesModel", "together", "(II)I"⟩ ∈ gG := gk8 (List.mem_of_getElem? (i := 226) rfl) rfl
theorem im_M_together : Cond.instanceMethod ⟨"StreamNodesModel", "together", "(II)I"⟩ ∈ gG := gk8 (List.mem_of_getElem? (i := 228) rfl) rfl
theorem co_M_together : Cond.code ⟨"StreamNodesModel", "together", "(II)I"⟩ prog_14_method_42_code 3 (some .int) ∈ gG := gk8 (List.mem_of_getElem? (i := 229) rfl) rfl
theorem ml_M_503 : Cond.methodLink "StreamNodesModel" 503 ⟨"StreamNodesModel", "around", "(I)V"⟩ ∈ gG := gk8 (List.mem_of_getElem? (i := 230) rfl) rfl
theorem im_M_around : Cond.instanceMethod ⟨"StreamNodesModel", "around", "(I)V"⟩ ∈ gG := gk8 (List.mem_of_getElem? (i := 232) rfl) rfl
theorem co_M_around : Cond.code ⟨"StreamNodesModel", "around", "(I)V"⟩ prog_14_method_47_code 9 none ∈ gG := gk8 (List.mem_of_getElem? (i := 233) rfl) rfl
theorem ml_M_506 : Cond.methodLink "StreamNodesModel" 506 ⟨"StreamNodesModel", "countParts", "(I)V"⟩ ∈ gG := gk8 (List.mem_of_getElem? (i := 234) rfl) rfl
theorem im_M_countParts : Cond.instanceMethod ⟨"StreamNodesModel", "countParts", "(I)V"⟩ ∈ gG := gk8 (List.mem_of_getElem? (i := 236) rfl) rfl
theorem co_M_countParts : Cond.code ⟨"StreamNodesModel", "countParts", "(I)V"⟩ prog_14_method_48_code 5 none ∈ gG := gk8 (List.mem_of_getElem? (i := 237) rfl) rfl
theorem ct_M_470 : Cond.constant "StreamNodesModel" 470 100000 ∈ gG := gk8 (List.mem_of_getElem? (i := 238) rfl) rfl
theorem ml_M_471 : Cond.methodLink "StreamNodesModel" 471 ⟨"java/lang/Math", "min", "(II)I"⟩ ∈ gG := gk8 (List.mem_of_getElem? (i := 239) rfl) rfl
theorem ml_M_474 : Cond.methodLink "StreamNodesModel" 474 ⟨"StreamNodesModel", "putIn", "(III)I"⟩ ∈ gG := gk9 (List.mem_of_getElem? (i := 0) rfl) rfl
theorem im_M_putIn : Cond.instanceMethod ⟨"StreamNodesModel", "putIn", "(III)I"⟩ ∈ gG := gk9 (List.mem_of_getElem? (i := 2) rfl) rfl
theorem co_M_putIn : Cond.code ⟨"StreamNodesModel", "putIn", "(III)I"⟩ prog_14_method_49_code 7 (some .int) ∈ gG := gk9 (List.mem_of_getElem? (i := 3) rfl) rfl
theorem ml_M_509 : Cond.methodLink "StreamNodesModel" 509 ⟨"StreamNodesModel", "causes", "(I)V"⟩ ∈ gG := gk9 (List.mem_of_getElem? (i := 4) rfl) rfl
theorem im_M_causes_0 : Cond.instanceMethod ⟨"StreamNodesModel", "causes", "(I)V"⟩ ∈ gG := gk9 (List.mem_of_getElem? (i := 6) rfl) rfl
theorem co_M_causes_0 : Cond.code ⟨"StreamNodesModel", "causes", "(I)V"⟩ prog_14_method_55_code 7 none ∈ gG := gk9 (List.mem_of_getElem? (i := 7) rfl) rfl
theorem ml_M_486 : Cond.methodLink "StreamNodesModel" 486 ⟨"StreamNodesModel", "clockVariable", "(II)I"⟩ ∈ gG := gk9 (List.mem_of_getElem? (i := 8) rfl) rfl
theorem im_M_clockVariable : Cond.instanceMethod ⟨"StreamNodesModel", "clockVariable", "(II)I"⟩ ∈ gG := gk9 (List.mem_of_getElem? (i := 10) rfl) rfl
theorem co_M_clockVariable : Cond.code ⟨"StreamNodesModel", "clockVariable", "(II)I"⟩ prog_14_method_53_code 5 (some .int) ∈ gG := gk9 (List.mem_of_getElem? (i := 11) rfl) rfl
theorem ml_M_480 : Cond.methodLink "StreamNodesModel" 480 ⟨"StreamNodesModel", "cause", "(I)V"⟩ ∈ gG := gk9 (List.mem_of_getElem? (i := 12) rfl) rfl
theorem im_M_cause : Cond.instanceMethod ⟨"StreamNodesModel", "cause", "(I)V"⟩ ∈ gG := gk9 (List.mem_of_getElem? (i := 14) rfl) rfl
theorem co_M_cause : Cond.code ⟨"StreamNodesModel", "cause", "(I)V"⟩ prog_14_method_52_code 2 none ∈ gG := gk9 (List.mem_of_getElem? (i := 15) rfl) rfl
theorem ml_M_489 : Cond.methodLink "StreamNodesModel" 489 ⟨"StreamNodesModel", "argument", "(II)I"⟩ ∈ gG := gk9 (List.mem_of_getElem? (i := 16) rfl) rfl
theorem im_M_argument : Cond.instanceMethod ⟨"StreamNodesModel", "argument", "(II)I"⟩ ∈ gG := gk9 (List.mem_of_getElem? (i := 18) rfl) rfl
theorem co_M_argument : Cond.code ⟨"StreamNodesModel", "argument", "(II)I"⟩ prog_14_method_56_code 5 (some .int) ∈ gG := gk9 (List.mem_of_getElem? (i := 19) rfl) rfl
theorem ml_M_492 : Cond.methodLink "StreamNodesModel" 492 ⟨"StreamNodesModel", "partCauses", "(II)V"⟩ ∈ gG := gk9 (List.mem_of_getElem? (i := 20) rfl) rfl
theorem im_M_partCauses : Cond.instanceMethod ⟨"StreamNodesModel", "partCauses", "(II)V"⟩ ∈ gG := gk9 (List.mem_of_getElem? (i := 22) rfl) rfl
theorem co_M_partCauses : Cond.code ⟨"StreamNodesModel", "partCauses", "(II)V"⟩ prog_14_method_54_code 4 none ∈ gG := gk9 (List.mem_of_getElem? (i := 23) rfl) rfl
theorem ml_M_483 : Cond.methodLink "StreamNodesModel" 483 ⟨"StreamNodesModel", "output", "(III)I"⟩ ∈ gG := gk9 (List.mem_of_getElem? (i := 24) rfl) rfl
theorem im_M_output : Cond.instanceMethod ⟨"StreamNodesModel", "output", "(III)I"⟩ ∈ gG := gk9 (List.mem_of_getElem? (i := 26) rfl) rfl
theorem co_M_output : Cond.code ⟨"StreamNodesModel", "output", "(III)I"⟩ prog_14_method_51_code 4 (some .int) ∈ gG := gk9 (List.mem_of_getElem? (i := 27) rfl) rfl
theorem ml_M_477 : Cond.methodLink "StreamNodesModel" 477 ⟨"StreamNodesModel", "child", "(II)I"⟩ ∈ gG := gk9 (List.mem_of_getElem? (i := 28) rfl) rfl
theorem im_M_child : Cond.instanceMethod ⟨"StreamNodesModel", "child", "(II)I"⟩ ∈ gG := gk9 (List.mem_of_getElem? (i := 30) rfl) rfl
theorem co_M_child : Cond.code ⟨"StreamNodesModel", "child", "(II)I"⟩ prog_14_method_50_code 3 (some .int) ∈ gG := gk9 (List.mem_of_getElem? (i := 31) rfl) rfl
theorem ml_M_512 : Cond.methodLink "StreamNodesModel" 512 ⟨"StreamNodesModel", "ordered", "()V"⟩ ∈ gG := gk9 (List.mem_of_getElem? (i := 32) rfl) rfl
theorem im_M_ordered : Cond.instanceMethod ⟨"StreamNodesModel", "ordered", "()V"⟩ ∈ gG := gk9 (List.mem_of_getElem? (i := 34) rfl) rfl
theorem co_M_ordered : Cond.code ⟨"StreamNodesModel", "ordered", "()V"⟩ prog_14_method_58_code 6 none ∈ gG := gk9 (List.mem_of_getElem? (i := 35) rfl) rfl
theorem ml_M_495 : Cond.methodLink "StreamNodesModel" 495 ⟨"StreamNodesModel", "caused", "(II)Z"⟩ ∈ gG := gk9 (List.mem_of_getElem? (i := 36) rfl) rfl
theorem im_M_caused : Cond.instanceMethod ⟨"StreamNodesModel", "caused", "(II)Z"⟩ ∈ gG := gk9 (List.mem_of_getElem? (i := 38) rfl) rfl
theorem co_M_caused : Cond.code ⟨"StreamNodesModel", "caused", "(II)Z"⟩ prog_14_method_57_code 7 (some .boolean) ∈ gG := gk9 (List.mem_of_getElem? (i := 39) rfl) rfl
theorem ml_M_498 : Cond.methodLink "StreamNodesModel" 498 ⟨"StreamNodesModel", "placeOfVariable", "(I)I"⟩ ∈ gG := gk9 (List.mem_of_getElem? (i := 40) rfl) rfl
theorem im_M_placeOfVariable : Cond.instanceMethod ⟨"StreamNodesModel", "placeOfVariable", "(I)I"⟩ ∈ gG := gk9 (List.mem_of_getElem? (i := 42) rfl) rfl
theorem co_M_placeOfVariable : Cond.code ⟨"StreamNodesModel", "placeOfVariable", "(I)I"⟩ prog_14_method_59_code 6 (some .int) ∈ gG := gk9 (List.mem_of_getElem? (i := 43) rfl) rfl
theorem ml_M_521 : Cond.methodLink "StreamNodesModel" 521 ⟨"java/util/Arrays", "fill", "([II)V"⟩ ∈ gG := gk9 (List.mem_of_getElem? (i := 44) rfl) rfl
theorem ml_L_75 : Cond.methodLink "StreamNodesLaw" 75 ⟨"StreamNodesModel", "fault", "(I)I"⟩ ∈ gG := gk9 (List.mem_of_getElem? (i := 45) rfl) rfl
theorem im_M_fault : Cond.instanceMethod ⟨"StreamNodesModel", "fault", "(I)I"⟩ ∈ gG := gk9 (List.mem_of_getElem? (i := 46) rfl) rfl
theorem se_M_fault : Cond.selects "StreamNodesModel" ⟨"StreamNodesModel", "fault", "(I)I"⟩ ⟨"StreamNodesModel", "fault", "(I)I"⟩ ∈ gG := gk9 (List.mem_of_getElem? (i := 47) rfl) rfl
theorem co_M_fault : Cond.code ⟨"StreamNodesModel", "fault", "(I)I"⟩ prog_14_method_61_code 2 (some .int) ∈ gG := gk9 (List.mem_of_getElem? (i := 48) rfl) rfl
theorem ml_L_82 : Cond.methodLink "StreamNodesLaw" 82 ⟨"StreamNodesModel", "tick", "(I)I"⟩ ∈ gG := gk9 (List.mem_of_getElem? (i := 49) rfl) rfl
theorem im_M_tick : Cond.instanceMethod ⟨"StreamNodesModel", "tick", "(I)I"⟩ ∈ gG := gk9 (List.mem_of_getElem? (i := 50) rfl) rfl
theorem se_M_tick : Cond.selects "StreamNodesModel" ⟨"StreamNodesModel", "tick", "(I)I"⟩ ⟨"StreamNodesModel", "tick", "(I)I"⟩ ∈ gG := gk9 (List.mem_of_getElem? (i := 51) rfl) rfl
theorem co_M_tick : Cond.code ⟨"StreamNodesModel", "tick", "(I)I"⟩ prog_14_method_69_code 3 (some .int) ∈ gG := gk9 (List.mem_of_getElem? (i := 52) rfl) rfl
theorem ml_M_551 : Cond.methodLink "StreamNodesModel" 551 ⟨"StreamNodesModel", "instant", "()V"⟩ ∈ gG := gk9 (List.mem_of_getElem? (i := 53) rfl) rfl
theorem im_M_instant : Cond.instanceMethod ⟨"StreamNodesModel", "instant", "()V"⟩ ∈ gG := gk9 (List.mem_of_getElem? (i := 55) rfl) rfl
theorem co_M_instant : Cond.code ⟨"StreamNodesModel", "instant", "()V"⟩ prog_14_method_67_code 7 none ∈ gG := gk9 (List.mem_of_getElem? (i := 56) rfl) rfl
theorem ml_M_527 : Cond.methodLink "StreamNodesModel" 527 ⟨"StreamNodesModel", "present", "(II)Z"⟩ ∈ gG := gk9 (List.mem_of_getElem? (i := 57) rfl) rfl
theorem im_M_present : Cond.instanceMethod ⟨"StreamNodesModel", "present", "(II)Z"⟩ ∈ gG := gk9 (List.mem_of_getElem? (i := 59) rfl) rfl
theorem co_M_present : Cond.code ⟨"StreamNodesModel", "present", "(II)Z"⟩ prog_14_method_62_code 4 (some .boolean) ∈ gG := gk9 (List.mem_of_getElem? (i := 60) rfl) rfl
theorem ml_M_539 : Cond.methodLink "StreamNodesModel" 539 ⟨"StreamNodesModel", "partOf", "(II)I"⟩ ∈ gG := gk9 (List.mem_of_getElem? (i := 61) rfl) rfl
theorem im_M_partOf : Cond.instanceMethod ⟨"StreamNodesModel", "partOf", "(II)I"⟩ ∈ gG := gk9 (List.mem_of_getElem? (i := 63) rfl) rfl
theorem co_M_partOf : Cond.code ⟨"StreamNodesModel", "partOf", "(II)I"⟩ prog_14_method_66_code 4 (some .int) ∈ gG := gk9 (List.mem_of_getElem? (i := 64) rfl) rfl
theorem ml_M_536 : Cond.methodLink "StreamNodesModel" 536 ⟨"StreamNodesModel", "work", "(II)V"⟩ ∈ gG := gk9 (List.mem_of_getElem? (i := 65) rfl) rfl
theorem im_M_work : Cond.instanceMethod ⟨"StreamNodesModel", "work", "(II)V"⟩ ∈ gG := gk9 (List.mem_of_getElem? (i := 67) rfl) rfl
theorem co_M_work : Cond.code ⟨"StreamNodesModel", "work", "(II)V"⟩ prog_14_method_63_code 6 none ∈ gG := gk9 (List.mem_of_getElem? (i := 68) rfl) rfl
theorem ml_M_530 : Cond.methodLink "StreamNodesModel" 530 ⟨"StreamNodesModel", "joined", "(III)I"⟩ ∈ gG := gk9 (List.mem_of_getElem? (i := 69) rfl) rfl
theorem sm_M_joined : Cond.static ⟨"StreamNodesModel", "joined", "(III)I"⟩ ∈ gG := gk9 (List.mem_of_getElem? (i := 70) rfl) rfl
theorem co_M_joined : Cond.code ⟨"StreamNodesModel", "joined", "(III)I"⟩ prog_14_method_65_code 3 (some .int) ∈ gG := gk9 (List.mem_of_getElem? (i := 71) rfl) rfl
theorem ml_M_533 : Cond.methodLink "StreamNodesModel" 533 ⟨"StreamNodesModel", "truth", "(Z)I"⟩ ∈ gG := gk9 (List.mem_of_getElem? (i := 72) rfl) rfl
theorem sm_M_truth : Cond.static ⟨"StreamNodesModel", "truth", "(Z)I"⟩ ∈ gG := gk9 (List.mem_of_getElem? (i := 73) rfl) rfl
theorem co_M_truth : Cond.code ⟨"StreamNodesModel", "truth", "(Z)I"⟩ prog_14_method_64_code 1 (some .int) ∈ gG := gk9 (List.mem_of_getElem? (i := 74) rfl) rfl
theorem ml_M_542 : Cond.methodLink "StreamNodesModel" 542 ⟨"java/lang/System", "arraycopy", "(Ljava/lang/Object;ILjava/lang/Object;II)V"⟩ ∈ gG := gk9 (List.mem_of_getElem? (i := 75) rfl) rfl
theorem ml_M_548 : Cond.methodLink "StreamNodesModel" 548 ⟨"StreamNodesModel", "remember", "(I)V"⟩ ∈ gG := gk9 (List.mem_of_getElem? (i := 76) rfl) rfl
theorem im_M_remember : Cond.instanceMethod ⟨"StreamNodesModel", "remember", "(I)V"⟩ ∈ gG := gk9 (List.mem_of_getElem? (i := 78) rfl) rfl
theorem co_M_remember : Cond.code ⟨"StreamNodesModel", "remember", "(I)V"⟩ prog_14_method_68_code 7 none ∈ gG := gk9 (List.mem_of_getElem? (i := 79) rfl) rfl
theorem ml_L_79 : Cond.methodLink "StreamNodesLaw" 79 ⟨"StreamNodesModel", "input", "(II)I"⟩ ∈ gG := gk9 (List.mem_of_getElem? (i := 80) rfl) rfl
theorem im_M_input : Cond.instanceMethod ⟨"StreamNodesModel", "input", "(II)I"⟩ ∈ gG := gk9 (List.mem_of_getElem? (i := 81) rfl) rfl
theorem se_M_input : Cond.selects "StreamNodesModel" ⟨"StreamNodesModel", "input", "(II)I"⟩ ⟨"StreamNodesModel", "input", "(II)I"⟩ ∈ gG := gk9 (List.mem_of_getElem? (i := 82) rfl) rfl
theorem co_M_input : Cond.code ⟨"StreamNodesModel", "input", "(II)I"⟩ prog_14_method_71_code 4 (some .int) ∈ gG := gk9 (List.mem_of_getElem? (i := 83) rfl) rfl
theorem ml_L_85 : Cond.methodLink "StreamNodesLaw" 85 ⟨"StreamNodesModel", "value", "(I)J"⟩ ∈ gG := gk9 (List.mem_of_getElem? (i := 84) rfl) rfl
theorem im_M_value : Cond.instanceMethod ⟨"StreamNodesModel", "value", "(I)J"⟩ ∈ gG := gk9 (List.mem_of_getElem? (i := 85) rfl) rfl
theorem se_M_value : Cond.selects "StreamNodesModel" ⟨"StreamNodesModel", "value", "(I)J"⟩ ⟨"StreamNodesModel", "value", "(I)J"⟩ ∈ gG := gk9 (List.mem_of_getElem? (i := 86) rfl) rfl
theorem co_M_value : Cond.code ⟨"StreamNodesModel", "value", "(I)J"⟩ prog_14_method_72_code 2 (some .long) ∈ gG := gk9 (List.mem_of_getElem? (i := 87) rfl) rfl
theorem ml_M_554 : Cond.methodLink "StreamNodesModel" 554 ⟨"StreamNodesModel", "mainVariables", "()I"⟩ ∈ gG := gk9 (List.mem_of_getElem? (i := 88) rfl) rfl
theorem im_M_mainVariables : Cond.instanceMethod ⟨"StreamNodesModel", "mainVariables", "()I"⟩ ∈ gG := gk9 (List.mem_of_getElem? (i := 90) rfl) rfl
theorem co_M_mainVariables : Cond.code ⟨"StreamNodesModel", "mainVariables", "()I"⟩ prog_14_method_70_code 1 (some .int) ∈ gG := gk9 (List.mem_of_getElem? (i := 91) rfl) rfl
theorem nt_ct_M_557 : Cond.constantLong "StreamNodesModel" 557 1099511627776 ∈ tables_1 := gm9 (List.mem_of_getElem? (i := 92) rfl)
theorem ml_L_88 : Cond.methodLink "StreamNodesLaw" 88 ⟨"StreamNodesModel", "about", "(II)I"⟩ ∈ gG := gk9 (List.mem_of_getElem? (i := 93) rfl) rfl
theorem im_M_about : Cond.instanceMethod ⟨"StreamNodesModel", "about", "(II)I"⟩ ∈ gG := gk9 (List.mem_of_getElem? (i := 94) rfl) rfl
theorem se_M_about : Cond.selects "StreamNodesModel" ⟨"StreamNodesModel", "about", "(II)I"⟩ ⟨"StreamNodesModel", "about", "(II)I"⟩ ∈ gG := gk9 (List.mem_of_getElem? (i := 95) rfl) rfl
theorem co_M_about : Cond.code ⟨"StreamNodesModel", "about", "(II)I"⟩ prog_14_method_73_code 4 (some .int) ∈ gG := gk9 (List.mem_of_getElem? (i := 96) rfl) rfl
theorem ml_L_91 : Cond.methodLink "StreamNodesLaw" 91 ⟨"StreamNodesModel", "causes", "(II)Z"⟩ ∈ gG := gk9 (List.mem_of_getElem? (i := 97) rfl) rfl
theorem im_M_causes_1 : Cond.instanceMethod ⟨"StreamNodesModel", "causes", "(II)Z"⟩ ∈ gG := gk9 (List.mem_of_getElem? (i := 98) rfl) rfl
theorem se_M_causes_1 : Cond.selects "StreamNodesModel" ⟨"StreamNodesModel", "causes", "(II)Z"⟩ ⟨"StreamNodesModel", "causes", "(II)Z"⟩ ∈ gG := gk9 (List.mem_of_getElem? (i := 99) rfl) rfl
theorem co_M_causes_1 : Cond.code ⟨"StreamNodesModel", "causes", "(II)Z"⟩ prog_14_method_74_code 3 (some .boolean) ∈ gG := gk9 (List.mem_of_getElem? (i := 100) rfl) rfl
theorem ml_L_95 : Cond.methodLink "StreamNodesLaw" 95 ⟨"StreamNodesModel", "restart", "()I"⟩ ∈ gG := gk9 (List.mem_of_getElem? (i := 101) rfl) rfl
theorem im_M_restart : Cond.instanceMethod ⟨"StreamNodesModel", "restart", "()I"⟩ ∈ gG := gk9 (List.mem_of_getElem? (i := 102) rfl) rfl
theorem se_M_restart : Cond.selects "StreamNodesModel" ⟨"StreamNodesModel", "restart", "()I"⟩ ⟨"StreamNodesModel", "restart", "()I"⟩ ∈ gG := gk9 (List.mem_of_getElem? (i := 103) rfl) rfl
theorem co_M_restart : Cond.code ⟨"StreamNodesModel", "restart", "()I"⟩ prog_14_method_75_code 2 (some .int) ∈ gG := gk9 (List.mem_of_getElem? (i := 104) rfl) rfl
theorem ml_L_99 : Cond.methodLink "StreamNodesLaw" 99 ⟨"StreamNodesModel", "keep", "()V"⟩ ∈ gG := gk9 (List.mem_of_getElem? (i := 105) rfl) rfl
theorem im_M_keep : Cond.instanceMethod ⟨"StreamNodesModel", "keep", "()V"⟩ ∈ gG := gk9 (List.mem_of_getElem? (i := 106) rfl) rfl
theorem se_M_keep : Cond.selects "StreamNodesModel" ⟨"StreamNodesModel", "keep", "()V"⟩ ⟨"StreamNodesModel", "keep", "()V"⟩ ∈ gG := gk9 (List.mem_of_getElem? (i := 107) rfl) rfl
theorem co_M_keep : Cond.code ⟨"StreamNodesModel", "keep", "()V"⟩ prog_14_method_76_code 1 none ∈ gG := gk9 (List.mem_of_getElem? (i := 108) rfl) rfl
theorem ml_L_102 : Cond.methodLink "StreamNodesLaw" 102 ⟨"StreamNodesModel", "back", "()I"⟩ ∈ gG := gk9 (List.mem_of_getElem? (i := 109) rfl) rfl
theorem im_M_back : Cond.instanceMethod ⟨"StreamNodesModel", "back", "()I"⟩ ∈ gG := gk9 (List.mem_of_getElem? (i := 110) rfl) rfl
theorem se_M_back : Cond.selects "StreamNodesModel" ⟨"StreamNodesModel", "back", "()I"⟩ ⟨"StreamNodesModel", "back", "()I"⟩ ∈ gG := gk9 (List.mem_of_getElem? (i := 111) rfl) rfl
theorem co_M_back : Cond.code ⟨"StreamNodesModel", "back", "()I"⟩ prog_14_method_77_code 2 (some .int) ∈ gG := gk9 (List.mem_of_getElem? (i := 112) rfl) rfl
theorem ml_L_106 : Cond.methodLink "StreamNodesLaw" 106 ⟨"StreamNodesModel", "count", "(I)I"⟩ ∈ gG := gk9 (List.mem_of_getElem? (i := 113) rfl) rfl
theorem im_M_count : Cond.instanceMethod ⟨"StreamNodesModel", "count", "(I)I"⟩ ∈ gG := gk9 (List.mem_of_getElem? (i := 114) rfl) rfl
theorem se_M_count : Cond.selects "StreamNodesModel" ⟨"StreamNodesModel", "count", "(I)I"⟩ ⟨"StreamNodesModel", "count", "(I)I"⟩ ∈ gG := gk9 (List.mem_of_getElem? (i := 115) rfl) rfl
theorem co_M_count : Cond.code ⟨"StreamNodesModel", "count", "(I)I"⟩ prog_14_method_78_code 2 (some .int) ∈ gG := gk9 (List.mem_of_getElem? (i := 116) rfl) rfl
theorem fl_Str_9 : Cond.fieldLink "java/lang/String" 9 "java/lang/String" "value" "[B" ∈ gG := gk9 (List.mem_of_getElem? (i := 118) rfl) rfl
theorem fl_Str_15 : Cond.fieldLink "java/lang/String" 15 "java/lang/String" "coder" "B" ∈ gG := gk9 (List.mem_of_getElem? (i := 119) rfl) rfl
