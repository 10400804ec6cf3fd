/-! ===== the handlers of the law ===== -/
theorem k_L_setFinal_14 {d : Nat} {σ : pm_H} {Q : pm_O → pm_H → Prop} (h : Q (.inl (some (.int ((1 : Int32))))) σ) : pm_R (d + 1) 249 14 [] [] σ Q :=
  pm_run (d := (d + 1)) (m := 249) (k := 14) (C := p_L_setFinal) (L := []) (S := []) 300 o_L_setFinal h
theorem k_L_addRule_13 {d : Nat} {σ : pm_H} {Q : pm_O → pm_H → Prop} (h : Q (.inl (some (.int ((1 : Int32))))) σ) : pm_R (d + 1) 250 13 [] [] σ Q :=
  pm_run (d := (d + 1)) (m := 250) (k := 13) (C := p_L_addRule) (L := []) (S := []) 300 o_L_addRule h
theorem k_L_addRule_16 {d : Nat} {σ : pm_H} {Q : pm_O → pm_H → Prop} (h : Q (.inl (some (.int ((2 : Int32))))) σ) : pm_R (d + 1) 250 16 [] [] σ Q :=
  pm_run (d := (d + 1)) (m := 250) (k := 16) (C := p_L_addRule) (L := []) (S := []) 300 o_L_addRule h
theorem k_L_addRange_12 {d : Nat} {σ : pm_H} {Q : pm_O → pm_H → Prop} (h : Q (.inl (some (.int ((1 : Int32))))) σ) : pm_R (d + 1) 251 12 [] [] σ Q :=
  pm_run (d := (d + 1)) (m := 251) (k := 12) (C := p_L_addRange) (L := []) (S := []) 300 o_L_addRange h
theorem k_L_addRange_15 {d : Nat} {σ : pm_H} {Q : pm_O → pm_H → Prop} (h : Q (.inl (some (.int ((2 : Int32))))) σ) : pm_R (d + 1) 251 15 [] [] σ Q :=
  pm_run (d := (d + 1)) (m := 251) (k := 15) (C := p_L_addRange) (L := []) (S := []) 300 o_L_addRange h
theorem k_L_addTerm_12 {d : Nat} {σ : pm_H} {Q : pm_O → pm_H → Prop} (h : Q (.inl (some (.int ((1 : Int32))))) σ) : pm_R (d + 1) 252 12 [] [] σ Q :=
  pm_run (d := (d + 1)) (m := 252) (k := 12) (C := p_L_addTerm) (L := []) (S := []) 300 o_L_addTerm h
theorem k_L_addTerm_15 {d : Nat} {σ : pm_H} {Q : pm_O → pm_H → Prop} (h : Q (.inl (some (.int ((2 : Int32))))) σ) : pm_R (d + 1) 252 15 [] [] σ Q :=
  pm_run (d := (d + 1)) (m := 252) (k := 15) (C := p_L_addTerm) (L := []) (S := []) 300 o_L_addTerm h
theorem k_L_addTerm_18 {d : Nat} {σ : pm_H} {Q : pm_O → pm_H → Prop} (h : Q (.inl (some (.int ((3 : Int32))))) σ) : pm_R (d + 1) 252 18 [] [] σ Q :=
  pm_run (d := (d + 1)) (m := 252) (k := 18) (C := p_L_addTerm) (L := []) (S := []) 300 o_L_addTerm h
theorem k_L_removeRule_10 {d : Nat} {σ : pm_H} {Q : pm_O → pm_H → Prop} (h : Q (.inl (some (.int ((1 : Int32))))) σ) : pm_R (d + 1) 253 10 [] [] σ Q :=
  pm_run (d := (d + 1)) (m := 253) (k := 10) (C := p_L_removeRule) (L := []) (S := []) 300 o_L_removeRule h
theorem k_L_removeRule_13 {d : Nat} {σ : pm_H} {Q : pm_O → pm_H → Prop} (h : Q (.inl (some (.int ((2 : Int32))))) σ) : pm_R (d + 1) 253 13 [] [] σ Q :=
  pm_run (d := (d + 1)) (m := 253) (k := 13) (C := p_L_removeRule) (L := []) (S := []) 300 o_L_removeRule h
theorem k_L_rules_9 {d : Nat} {σ : pm_H} {Q : pm_O → pm_H → Prop} (h : Q (.inl (some (.int ((1 : Int32))))) σ) : pm_R (d + 1) 254 9 [] [] σ Q :=
  pm_run (d := (d + 1)) (m := 254) (k := 9) (C := p_L_rules) (L := []) (S := []) 300 o_L_rules h
theorem k_L_finals_9 {d : Nat} {σ : pm_H} {Q : pm_O → pm_H → Prop} (h : Q (.inl (some (.int ((1 : Int32))))) σ) : pm_R (d + 1) 255 9 [] [] σ Q :=
  pm_run (d := (d + 1)) (m := 255) (k := 9) (C := p_L_finals) (L := []) (S := []) 300 o_L_finals h
theorem k_L_rule_11 {d : Nat} {σ : pm_H} {Q : pm_O → pm_H → Prop} (h : Q (.inl (some (.int ((1 : Int32))))) σ) : pm_R (d + 1) 256 11 [] [] σ Q :=
  pm_run (d := (d + 1)) (m := 256) (k := 11) (C := p_L_rule) (L := []) (S := []) 300 o_L_rule h
theorem k_L_rule_14 {d : Nat} {σ : pm_H} {Q : pm_O → pm_H → Prop} (h : Q (.inl (some (.int ((2 : Int32))))) σ) : pm_R (d + 1) 256 14 [] [] σ Q :=
  pm_run (d := (d + 1)) (m := 256) (k := 14) (C := p_L_rule) (L := []) (S := []) 300 o_L_rule h
theorem k_L_range_12 {d : Nat} {σ : pm_H} {Q : pm_O → pm_H → Prop} (h : Q (.inl (some (.int ((1 : Int32))))) σ) : pm_R (d + 1) 257 12 [] [] σ Q :=
  pm_run (d := (d + 1)) (m := 257) (k := 12) (C := p_L_range) (L := []) (S := []) 300 o_L_range h
theorem k_L_range_15 {d : Nat} {σ : pm_H} {Q : pm_O → pm_H → Prop} (h : Q (.inl (some (.int ((2 : Int32))))) σ) : pm_R (d + 1) 257 15 [] [] σ Q :=
  pm_run (d := (d + 1)) (m := 257) (k := 15) (C := p_L_range) (L := []) (S := []) 300 o_L_range h
theorem k_L_term_11 {d : Nat} {σ : pm_H} {Q : pm_O → pm_H → Prop} (h : Q (.inl (some (.int ((1 : Int32))))) σ) : pm_R (d + 1) 258 11 [] [] σ Q :=
  pm_run (d := (d + 1)) (m := 258) (k := 11) (C := p_L_term) (L := []) (S := []) 300 o_L_term h
theorem k_L_term_14 {d : Nat} {σ : pm_H} {Q : pm_O → pm_H → Prop} (h : Q (.inl (some (.int ((2 : Int32))))) σ) : pm_R (d + 1) 258 14 [] [] σ Q :=
  pm_run (d := (d + 1)) (m := 258) (k := 14) (C := p_L_term) (L := []) (S := []) 300 o_L_term h
theorem k_L_valueOf_12 {d : Nat} {σ : pm_H} {Q : pm_O → pm_H → Prop} (h : Q (.inl (some (.int ((1 : Int32))))) σ) : pm_R (d + 1) 259 12 [] [] σ Q :=
  pm_run (d := (d + 1)) (m := 259) (k := 12) (C := p_L_valueOf) (L := []) (S := []) 300 o_L_valueOf h
theorem k_L_valueOf_15 {d : Nat} {σ : pm_H} {Q : pm_O → pm_H → Prop} (h : Q (.inl (some (.int ((2 : Int32))))) σ) : pm_R (d + 1) 259 15 [] [] σ Q :=
  pm_run (d := (d + 1)) (m := 259) (k := 15) (C := p_L_valueOf) (L := []) (S := []) 300 o_L_valueOf h
theorem k_L_feed_9 {d : Nat} {σ : pm_H} {Q : pm_O → pm_H → Prop} (h : Q (.inl (some (.int ((1 : Int32))))) σ) : pm_R (d + 1) 260 9 [] [] σ Q :=
  pm_run (d := (d + 1)) (m := 260) (k := 9) (C := p_L_feed) (L := []) (S := []) 300 o_L_feed h
theorem k_L_parse_9 {d : Nat} {σ : pm_H} {Q : pm_O → pm_H → Prop} (h : Q (.inl (some (.int ((1 : Int32))))) σ) : pm_R (d + 1) 261 9 [] [] σ Q :=
  pm_run (d := (d + 1)) (m := 261) (k := 9) (C := p_L_parse) (L := []) (S := []) 300 o_L_parse h
theorem k_L_parse_12 {d : Nat} {σ : pm_H} {Q : pm_O → pm_H → Prop} (h : Q (.inl (some (.int ((2 : Int32))))) σ) : pm_R (d + 1) 261 12 [] [] σ Q :=
  pm_run (d := (d + 1)) (m := 261) (k := 12) (C := p_L_parse) (L := []) (S := []) 300 o_L_parse h
theorem k_L_push_9 {d : Nat} {σ : pm_H} {Q : pm_O → pm_H → Prop} (h : Q (.inl (some (.int ((1 : Int32))))) σ) : pm_R (d + 1) 262 9 [] [] σ Q :=
  pm_run (d := (d + 1)) (m := 262) (k := 9) (C := p_L_push) (L := []) (S := []) 300 o_L_push h
theorem k_L_push_12 {d : Nat} {σ : pm_H} {Q : pm_O → pm_H → Prop} (h : Q (.inl (some (.int ((2 : Int32))))) σ) : pm_R (d + 1) 262 12 [] [] σ Q :=
  pm_run (d := (d + 1)) (m := 262) (k := 12) (C := p_L_push) (L := []) (S := []) 300 o_L_push h
theorem k_L_symbol_9 {d : Nat} {σ : pm_H} {Q : pm_O → pm_H → Prop} (h : Q (.inl (some (.int ((1 : Int32))))) σ) : pm_R (d + 1) 263 9 [] [] σ Q :=
  pm_run (d := (d + 1)) (m := 263) (k := 9) (C := p_L_symbol) (L := []) (S := []) 300 o_L_symbol h
theorem k_L_runs_8 {d : Nat} {σ : pm_H} {Q : pm_O → pm_H → Prop} (h : Q (.inl (some (.int ((1 : Int32))))) σ) : pm_R (d + 1) 264 8 [] [] σ Q :=
  pm_run (d := (d + 1)) (m := 264) (k := 8) (C := p_L_runs) (L := []) (S := []) 300 o_L_runs h
theorem k_L_transduce_10 {d : Nat} {σ : pm_H} {Q : pm_O → pm_H → Prop} (h : Q (.inl (some (.int ((1 : Int32))))) σ) : pm_R (d + 1) 265 10 [] [] σ Q :=
  pm_run (d := (d + 1)) (m := 265) (k := 10) (C := p_L_transduce) (L := []) (S := []) 300 o_L_transduce h
theorem k_L_transduce_13 {d : Nat} {σ : pm_H} {Q : pm_O → pm_H → Prop} (h : Q (.inl (some (.int ((2 : Int32))))) σ) : pm_R (d + 1) 265 13 [] [] σ Q :=
  pm_run (d := (d + 1)) (m := 265) (k := 13) (C := p_L_transduce) (L := []) (S := []) 300 o_L_transduce h
theorem k_L_result_9 {d : Nat} {σ : pm_H} {Q : pm_O → pm_H → Prop} (h : Q (.inl (some (.int ((1 : Int32))))) σ) : pm_R (d + 1) 266 9 [] [] σ Q :=
  pm_run (d := (d + 1)) (m := 266) (k := 9) (C := p_L_result) (L := []) (S := []) 300 o_L_result h
theorem k_L_useResult_8 {d : Nat} {σ : pm_H} {Q : pm_O → pm_H → Prop} (h : Q (.inl (some (.int ((1 : Int32))))) σ) : pm_R (d + 1) 267 8 [] [] σ Q :=
  pm_run (d := (d + 1)) (m := 267) (k := 8) (C := p_L_useResult) (L := []) (S := []) 300 o_L_useResult h
theorem k_L_domainCount_9 {d : Nat} {σ : pm_H} {Q : pm_O → pm_H → Prop} (h : Q (.inl (some (.int ((1 : Int32))))) σ) : pm_R (d + 1) 268 9 [] [] σ Q :=
  pm_run (d := (d + 1)) (m := 268) (k := 9) (C := p_L_domainCount) (L := []) (S := []) 300 o_L_domainCount h
theorem k_L_domainShare_9 {d : Nat} {σ : pm_H} {Q : pm_O → pm_H → Prop} (h : Q (.inl (some (.int ((1 : Int32))))) σ) : pm_R (d + 1) 269 9 [] [] σ Q :=
  pm_run (d := (d + 1)) (m := 269) (k := 9) (C := p_L_domainShare) (L := []) (S := []) 300 o_L_domainShare h
theorem k_L_shortestInput_9 {d : Nat} {σ : pm_H} {Q : pm_O → pm_H → Prop} (h : Q (.inl (some (.int ((1 : Int32))))) σ) : pm_R (d + 1) 270 9 [] [] σ Q :=
  pm_run (d := (d + 1)) (m := 270) (k := 9) (C := p_L_shortestInput) (L := []) (S := []) 300 o_L_shortestInput h
theorem k_L_shortestInput_12 {d : Nat} {σ : pm_H} {Q : pm_O → pm_H → Prop} (h : Q (.inl (some (.int ((2 : Int32))))) σ) : pm_R (d + 1) 270 12 [] [] σ Q :=
  pm_run (d := (d + 1)) (m := 270) (k := 12) (C := p_L_shortestInput) (L := []) (S := []) 300 o_L_shortestInput h
theorem k_L_outputSymbols_9 {d : Nat} {σ : pm_H} {Q : pm_O → pm_H → Prop} (h : Q (.inl (some (.int ((1 : Int32))))) σ) : pm_R (d + 1) 271 9 [] [] σ Q :=
  pm_run (d := (d + 1)) (m := 271) (k := 9) (C := p_L_outputSymbols) (L := []) (S := []) 300 o_L_outputSymbols h
theorem k_L_isDeterministic_12 {d : Nat} {σ : pm_H} {Q : pm_O → pm_H → Prop} (h : Q (.inl (some (.int ((1 : Int32))))) σ) : pm_R (d + 1) 272 12 [] [] σ Q :=
  pm_run (d := (d + 1)) (m := 272) (k := 12) (C := p_L_isDeterministic) (L := []) (S := []) 300 o_L_isDeterministic h
theorem k_L_isFunctional_12 {d : Nat} {σ : pm_H} {Q : pm_O → pm_H → Prop} (h : Q (.inl (some (.int ((1 : Int32))))) σ) : pm_R (d + 1) 273 12 [] [] σ Q :=
  pm_run (d := (d + 1)) (m := 273) (k := 12) (C := p_L_isFunctional) (L := []) (S := []) 300 o_L_isFunctional h
theorem k_L_isEquivalent_13 {d : Nat} {σ : pm_H} {Q : pm_O → pm_H → Prop} (h : Q (.inl (some (.int ((1 : Int32))))) σ) : pm_R (d + 1) 274 13 [] [] σ Q :=
  pm_run (d := (d + 1)) (m := 274) (k := 13) (C := p_L_isEquivalent) (L := []) (S := []) 300 o_L_isEquivalent h
theorem k_L_isEquivalent_16 {d : Nat} {σ : pm_H} {Q : pm_O → pm_H → Prop} (h : Q (.inl (some (.int ((2 : Int32))))) σ) : pm_R (d + 1) 274 16 [] [] σ Q :=
  pm_run (d := (d + 1)) (m := 274) (k := 16) (C := p_L_isEquivalent) (L := []) (S := []) 300 o_L_isEquivalent h
theorem k_L_isWithin_13 {d : Nat} {σ : pm_H} {Q : pm_O → pm_H → Prop} (h : Q (.inl (some (.int ((1 : Int32))))) σ) : pm_R (d + 1) 275 13 [] [] σ Q :=
  pm_run (d := (d + 1)) (m := 275) (k := 13) (C := p_L_isWithin) (L := []) (S := []) 300 o_L_isWithin h
theorem k_L_compose_11 {d : Nat} {σ : pm_H} {Q : pm_O → pm_H → Prop} (h : Q (.inl (some (.int ((1 : Int32))))) σ) : pm_R (d + 1) 276 11 [] [] σ Q :=
  pm_run (d := (d + 1)) (m := 276) (k := 11) (C := p_L_compose) (L := []) (S := []) 300 o_L_compose h
theorem k_L_compose_14 {d : Nat} {σ : pm_H} {Q : pm_O → pm_H → Prop} (h : Q (.inl (some (.int ((2 : Int32))))) σ) : pm_R (d + 1) 276 14 [] [] σ Q :=
  pm_run (d := (d + 1)) (m := 276) (k := 14) (C := p_L_compose) (L := []) (S := []) 300 o_L_compose h
theorem k_L_invert_10 {d : Nat} {σ : pm_H} {Q : pm_O → pm_H → Prop} (h : Q (.inl (some (.int ((1 : Int32))))) σ) : pm_R (d + 1) 277 10 [] [] σ Q :=
  pm_run (d := (d + 1)) (m := 277) (k := 10) (C := p_L_invert) (L := []) (S := []) 300 o_L_invert h
theorem k_L_invert_13 {d : Nat} {σ : pm_H} {Q : pm_O → pm_H → Prop} (h : Q (.inl (some (.int ((2 : Int32))))) σ) : pm_R (d + 1) 277 13 [] [] σ Q :=
  pm_run (d := (d + 1)) (m := 277) (k := 13) (C := p_L_invert) (L := []) (S := []) 300 o_L_invert h
theorem k_L_restrict_11 {d : Nat} {σ : pm_H} {Q : pm_O → pm_H → Prop} (h : Q (.inl (some (.int ((1 : Int32))))) σ) : pm_R (d + 1) 278 11 [] [] σ Q :=
  pm_run (d := (d + 1)) (m := 278) (k := 11) (C := p_L_restrict) (L := []) (S := []) 300 o_L_restrict h
theorem k_L_trim_9 {d : Nat} {σ : pm_H} {Q : pm_O → pm_H → Prop} (h : Q (.inl (some (.int ((1 : Int32))))) σ) : pm_R (d + 1) 279 9 [] [] σ Q :=
  pm_run (d := (d + 1)) (m := 279) (k := 9) (C := p_L_trim) (L := []) (S := []) 300 o_L_trim h
theorem k_L_copy_10 {d : Nat} {σ : pm_H} {Q : pm_O → pm_H → Prop} (h : Q (.inl (some (.int ((1 : Int32))))) σ) : pm_R (d + 1) 280 10 [] [] σ Q :=
  pm_run (d := (d + 1)) (m := 280) (k := 10) (C := p_L_copy) (L := []) (S := []) 300 o_L_copy h
theorem k_L_undo_8 {d : Nat} {σ : pm_H} {Q : pm_O → pm_H → Prop} (h : Q (.inl (some (.int ((1 : Int32))))) σ) : pm_R (d + 1) 281 8 [] [] σ Q :=
  pm_run (d := (d + 1)) (m := 281) (k := 8) (C := p_L_undo) (L := []) (S := []) 300 o_L_undo h
