/-! ===== what a row of the table must say of the bytecode ===== -/
def pm_exl : List String := ["java/lang/IllegalArgumentException", "java/lang/IllegalStateException", "java/lang/IndexOutOfBoundsException", "java/util/NoSuchElementException", "java/lang/UnsupportedOperationException"]
def pm_ex (E : Nat) : String := (pm_exl[E]?).getD ""
abbrev pm_names : List String := ["java/lang/RuntimeException", "java/lang/Exception"]
def pm_y (m : Nat) : MethodName := (pm_mm m).1
def pm_cc (m : Nat) : ByteArray := (pm_mm m).2.1
def pm_ret (m : Nat) : Option FieldType := (pm_mm m).2.2.1
def pm_hh (m : Nat) : List (Nat × Nat × Nat × Nat) := (pm_mm m).2.2.2.1
def pm_own (m : Nat) : String := pm_cn (pm_mm m).2.2.2.2
def pm_na (m : Nat) : Nat := (pm_prog m).1
def pm_nl (m : Nat) : Nat := (pm_prog m).2.1
def pm_cd' (m : Nat) : List pm_E := (pm_prog m).2.2
/-- a method that may be called -/
def pm_mok (x : Nat) : Prop := (pm_y x).cls = pm_own x ∧ (pm_hh x = [] → Cond.code (pm_y x) (pm_cc x) (pm_nl x) (pm_ret x) ∈ lw_tbl) ∧ (pm_hh x ≠ [] → Cond.codeWith (pm_y x) (pm_cc x) (pm_nl x) (pm_ret x) (pm_hh x) ∈ lw_tbl) ∧ Cond.initialized (pm_y x).cls ∈ lw_tbl ∧ plainName (pm_y x).cls = true ∧ ((pm_y x).cls ≠ "java/lang/invoke/MethodHandle" ∧ (pm_y x).cls ≠ "java/lang/invoke/VarHandle") ∧ pm_nl x ≤ 80
abbrev pm_ar (x n : Nat) : Prop := (parseMethodDescriptor (pm_y x).desc).map (fun d => d.parameters.length) = some n
def pm_cok (NM : Nat) (own : String) (i : Instr) (x y : Nat) (c2 : Bool) : Prop := match i with
  | .invokestatic idx => x < NM ∧ pm_mok x ∧ y = 0 ∧ pm_ar x (pm_na x) ∧ Cond.static (pm_y x) ∈ lw_tbl ∧ ((c2 = true ∧ pm_hh x = [] ∧ ∃ host, Cond.methodLinkNest own idx (pm_y x) host ∈ lw_tbl) ∨ (Cond.methodLink own idx (pm_y x) ∈ lw_tbl ∧ (pm_hh x = [] ∨ c2 = true)))
  | .invokevirtual idx => x < NM ∧ pm_mok x ∧ 1 ≤ pm_na x ∧ pm_ar x (pm_na x - 1) ∧ pm_hh x = [] ∧ (∃ ci r, y = ci + 1 ∧ pm_cl[ci]? = some r ∧ (pm_y x).cls = r.1) ∧ Cond.instanceMethod (pm_y x) ∈ lw_tbl ∧ Cond.selects (pm_y x).cls (pm_y x) (pm_y x) ∈ lw_tbl ∧ ((c2 = true ∧ ∃ host, Cond.methodLinkNest own idx (pm_y x) host ∈ lw_tbl) ∨ Cond.methodLink own idx (pm_y x) ∈ lw_tbl)
  | .invokespecial idx => x < NM ∧ pm_mok x ∧ 1 ≤ pm_na x ∧ pm_ar x (pm_na x - 1) ∧ pm_hh x = [] ∧ c2 = true ∧ (∃ ci r, y = ci + 1 ∧ pm_cl[ci]? = some r ∧ (pm_y x).cls = r.1) ∧ pm_ret x = none ∧ (pm_y x).name = "<init>" ∧ Cond.instanceMethod (pm_y x) ∈ lw_tbl ∧ ((∃ host, Cond.methodLinkNest own idx (pm_y x) host ∈ lw_tbl) ∨ Cond.methodLink own idx (pm_y x) ∈ lw_tbl)
  | _ => True
def pm_kcw (own : String) (i : Instr) (v : Value) : Prop := match i with
  | .ldc idx => ∃ x, v = .int x ∧ Cond.constant own idx x ∈ lw_tbl
  | .ldc_w idx => ∃ x, v = .int x ∧ Cond.constant own idx x ∈ lw_tbl
  | .ldc2_w idx => ∃ x, v = .long x ∧ Cond.constantLong own idx x ∈ lw_tbl
  | _ => True
def pm_falls (i : Instr) : Bool := match i with
  | .goto _ => false
  | .ireturn => false
  | .lreturn => false
  | .dreturn => false
  | .areturn => false
  | .return_ => false
  | .tableswitch _ _ _ _ => false
  | _ => true
def pm_jok (C : List pm_E) (pc : Nat) (i : Instr) (x y : Nat) (f2 : List Nat) : Prop := match i with
  | .ifCond _ off => ∃ e : pm_E, C[x]? = some e ∧ (pc : Int) + off = (e.1 : Int)
  | .if_icmp _ off => ∃ e : pm_E, C[x]? = some e ∧ (pc : Int) + off = (e.1 : Int)
  | .goto off => ∃ e : pm_E, C[x]? = some e ∧ (pc : Int) + off = (e.1 : Int)
  | .tableswitch d lo hi offs => lo = (y : Int) ∧ hi = (y : Int) + (f2.length : Int) - 1 ∧ (∃ e : pm_E, C[x]? = some e ∧ (pc : Int) + d = (e.1 : Int)) ∧ ∀ (j t : Nat), f2[j]? = some t → ∃ (e : pm_E) (off : Int), C[t]? = some e ∧ offs[j]? = some off ∧ (pc : Int) + off = (e.1 : Int)
  | _ => True
def pm_reo (ret : Option FieldType) (i : Instr) (x : Nat) : Prop := match i with
  | .ireturn => (x = 0 ∧ ret = some .int) ∨ (x = 1 ∧ ret = some .boolean)
  | .lreturn => ret = some .long
  | .dreturn => ret = some .double
  | .areturn => ∃ rt, ret = some rt ∧ ((∃ n, rt = .object n) ∨ ∃ t, rt = .array t)
  | .return_ => ret = none
  | _ => True
/-- the handlers of a call -/
def pm_hok (ncs : List (String × String)) (m pc : Nat) (c2 : Bool) (hs : List (Nat × Nat)) : Prop :=
  (hs = [] → c2 = true ∨ pm_hh m = []) ∧ ∀ E h, hs.lookup E = some h → ∃ (pre suf : List ExceptionTableEntry) (t : ExceptionTableEntry) (nm : String) (e : pm_E),
    tableOf (pm_hh m) = pre ++ t :: suf ∧ (∀ z ∈ pre, covers z pc = false ∨ (z.catchType ≠ 0 ∧ ∃ nm : String, Cond.classLink (pm_own m) z.catchType nm ∈ lw_tbl ∧ (pm_ex E, nm) ∈ ncs)) ∧ covers t pc = true ∧ t.catchType ≠ 0 ∧ Cond.classLink (pm_own m) t.catchType nm ∈ lw_tbl ∧ Cond.castable (pm_ex E) nm ∈ lw_tbl ∧
    (pm_cd' m)[h]? = some e ∧ ((∃ k : Fin 4, decode (pm_cc m) t.handlerPc = .ok (.astore_n k, 1) ∧ (k : Nat) < pm_nl m ∧ e.1 = t.handlerPc + 1) ∨ ∃ k : Nat, decode (pm_cc m) t.handlerPc = .ok (.astore k, 2) ∧ k < pm_nl m ∧ e.1 = t.handlerPc + 2)
/-- a throw: five instructions -/
def pm_tok (strs : List (String × Nat × String)) (m pc x : Nat) : Prop := ∃ (ik is ic : Nat) (text : String),
  pm_hh m = [] ∧ Bundle.fit (pm_ex x) = true ∧ Cond.classLink (pm_own m) ik (pm_ex x) ∈ lw_tbl ∧ Cond.initialized (pm_ex x) ∈ lw_tbl ∧ (pm_own m, is, text) ∈ strs ∧ ((∀ w ∈ vx_atS (pm_own m) ic (pm_ex x) pm_names, w ∈ lw_tbl ∧ pm_kw w = true ∧ vx_ot w = true) ∨
    ∃ (ix : Nat) (b : ByteArray), decode b 0 = .ok (.aload_n 0, 1) ∧ decode b 1 = .ok (.aload_n 1, 1) ∧ decode b 2 = .ok (.invokespecial ix, 3) ∧ decode b 5 = .ok (.return_, 1) ∧ ∀ w ∈ px_at (pm_own m) ic (pm_ex x) "java/lang/RuntimeException" ["java/lang/Exception"] ix b, w ∈ lw_tbl ∧ pm_kw w = true ∧ vx_ot w = true) ∧
  decode (pm_cc m) pc = .ok (.new ik, 3) ∧ decode (pm_cc m) (pc + 3) = .ok (.dup, 1) ∧
  ((decode (pm_cc m) (pc + 4) = .ok (.ldc is, 2) ∧ decode (pm_cc m) (pc + 6) = .ok (.invokespecial ic, 3) ∧ decode (pm_cc m) (pc + 9) = .ok (.athrow, 1)) ∨
   (decode (pm_cc m) (pc + 4) = .ok (.ldc_w is, 3) ∧ decode (pm_cc m) (pc + 7) = .ok (.invokespecial ic, 3) ∧ decode (pm_cc m) (pc + 10) = .ok (.athrow, 1)))
def pm_isx (i : Instr) : Bool := match i with
  | .monitorenter => true
  | .athrow => true
  | .tableswitch _ _ _ _ => true
  | _ => false
def pm_eok (NM : Nat) (strs : List (String × Nat × String)) (ncs : List (String × String)) (m : Nat) (e : pm_E) : Prop := match e with
  | (pc, i, len, v, x, y, nx, _, f2, _, c2, hs) => (i = .athrow → pm_tok strs m pc x) ∧
    (∀ d lo hi offs, i = .tableswitch d lo hi offs → decode (pm_cc m) pc = .ok (i, len) ∧ pm_jok (pm_cd' m) pc i x y f2) ∧
    (pm_isx i = false → pm_dc (pm_cc m) pc i y ∧ pm_sok (pm_nl m) i v = true ∧ pm_kcw (pm_own m) i v ∧ pm_rok (pm_own m) i v x y ∧ pm_wok (pm_own m) (decide ((pm_y m).name = "<init>")) i v x y ∧
        pm_cdw (pm_own m) i y ∧
        (pm_falls i = true → ∃ e', (pm_cd' m)[nx]? = some e' ∧ e'.1 = pc + pm_len i) ∧ pm_jok (pm_cd' m) pc i x y f2 ∧ pm_reo (pm_ret m) i x ∧ pm_cok NM (pm_own m) i x y c2 ∧ (pm_isc i = true → pm_hok ncs m pc c2 hs))
theorem pm_sop_dc {i : Instr} {v : Value} {L S : List Value} {q : List Value × List Value} {cc : ByteArray} {pc y : Nat} (h : pm_sop i v L S = some q) : pm_isx i = false ∧ pm_falls i = true ∧ (pm_dc cc pc i y → decode cc pc = .ok (i, pm_len i)) := by
  unfold pm_sop at h
  split at h <;> first | exact ⟨rfl, rfl, id⟩ | cases h
theorem pm_rd_dc {i : Instr} {v : Value} {x y : Nat} {S : List Value} {σ : pm_H} {q : Option Prop × Value × List Value} {cc : ByteArray} {pc y' : Nat} (h : pm_rd i v x y S σ = some q) : pm_isx i = false ∧ pm_falls i = true ∧ (pm_dc cc pc i y' → decode cc pc = .ok (i, pm_len i)) := by
  unfold pm_rd at h
  split at h <;> first | exact ⟨rfl, rfl, id⟩ | cases h
theorem pm_wr_dc {i : Instr} {v : Value} {x y : Nat} {S : List Value} {σ : pm_H} {q : Option Prop × List Value × pm_H} (h : pm_wr i v x y S σ = some q) : pm_isx i = false ∧ pm_falls i = true := by
  unfold pm_wr at h
  split at h <;> first | exact ⟨rfl, rfl⟩ | cases h
theorem pm_cd_dc {i : Instr} {S : List Value} {q : Option Prop × List Value} (h : pm_cd i S = some q) : pm_isx i = false ∧ pm_falls i = true := by
  unfold pm_cd at h
  split at h <;> first | exact ⟨rfl, rfl⟩ | cases h
theorem pm_bop_dc {i : Instr} {S : List Value} {q : Prop × Bool × List Value} {cc : ByteArray} {pc y : Nat} (h : pm_bop i S = some q) : pm_isx i = false ∧ pm_falls i = true ∧ pm_len i = 3 ∧ (pm_dc cc pc i y → decode cc pc = .ok (i, 3)) ∧ ∀ (C : List pm_E) (x y : Nat) (f2 : List Nat), pm_jok C pc i x y f2 → ∃ e : pm_E, C[x]? = some e ∧ pm_bt pc i e.1 := by
  unfold pm_bop at h
  split at h <;> first | exact ⟨rfl, rfl, rfl, id, fun _ _ _ _ h => h⟩ | cases h
theorem pm_rop_dc {i : Instr} {x : Nat} {S : List Value} {q : Option Prop} {o : pm_O} {cc : ByteArray} {pc y : Nat} (h : pm_rop i x S = some (q, o)) : pm_isx i = false ∧ (pm_dc cc pc i y → decode cc pc = .ok (i, 1)) ∧ ∃ r, o = .inl r := by
  unfold pm_rop at h
  split at h <;> first | (cases h; exact ⟨rfl, id, _, rfl⟩) | cases h
theorem pm_wr_le {i : Instr} {v : Value} {x y : Nat} {S S' : List Value} {σ σ' : pm_H} {q : Option Prop} (h : pm_wr i v x y S σ = some (q, S', σ')) : pm_n σ ≤ pm_n σ' ∧ pm_w σ ≤ pm_w σ' := by
  unfold pm_wr at h
  split at h <;> first | (cases h; exact ⟨Nat.le_refl _, Nat.le_refl _⟩) | (cases h; exact ⟨Nat.le_succ _, Nat.le_add_right _ _⟩) | cases h
