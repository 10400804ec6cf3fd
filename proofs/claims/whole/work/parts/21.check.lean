/-! ===== the table is checked against the bytecode ===== -/
def pm_dcb (cc : ByteArray) (pc : Nat) (i : Instr) (y : Nat) : Bool := match i with
  | .nop => decide (decode cc pc = .ok (.invokestatic y, 3))
  | .pop => decide (decode cc pc = .ok (.invokespecial y, 3))
  | .dup_x1 => decide (decode cc pc = .ok (.invokestatic y, 3))
  | .dup_x2 => decide (decode cc pc = .ok (.invokestatic y, 3))
  | i => decide (decode cc pc = .ok (i, pm_len i))
theorem pm_dcb_ok {cc : ByteArray} {pc y : Nat} {i : Instr} (h : pm_dcb cc pc i y = true) : pm_dc cc pc i y := by
  unfold pm_dcb at h
  unfold pm_dc
  split at h <;> split <;> first | exact of_decide_eq_true h | (exfalso; simp_all; done)
def pm_kcb (cn : Nat) (i : Instr) (v : Value) : Bool := match i, v with
  | .ldc idx, .int x => decide ((cn, idx, x) ∈ pm_kl)
  | .ldc_w idx, .int x => decide ((cn, idx, x) ∈ pm_kl)
  | .ldc2_w idx, .long x => decide ((cn, idx, x) ∈ pm_jl)
  | .ldc _, _ => false
  | .ldc_w _, _ => false
  | .ldc2_w _, _ => false
  | _, _ => true
theorem pm_kcb_ok {cn : Nat} {i : Instr} {v : Value} (h : pm_kcb cn i v = true) : pm_kcw (pm_cn cn) i v := by
  cases i <;> first
    | trivial
    | (cases v <;> first
        | (exfalso; exact Bool.noConfusion h)
        | (simp only [pm_kcb, decide_eq_true_eq] at h
           first
             | exact Exists.intro _ (And.intro rfl (pm_kl_ok _ h))
             | exact Exists.intro _ (And.intro rfl (pm_jl_ok _ h))))
def pm_rokb (cn : Nat) (i : Instr) (v : Value) (x y : Nat) : Bool := match i with
  | .getfield idx => decide ((cn, idx, x, y) ∈ pm_fl) && pm_mk (pm_fty (x - 1) (y - 100 * (x - 1))) v
  | .iaload => decide (x = 100 ∨ x = 200)
  | .baload => decide (x = 102 ∨ x = 103)
  | .caload => decide (x = 104)
  | .laload => decide (x = 101)
  | .daload => decide (x = 105)
  | .aaload => decide (x ∈ pm_tags ∧ 120 ≤ x)
  | .arraylength => decide (x ∈ pm_tags ∨ x = 200)
  | _ => true
theorem pm_rokb_ok {cn x y : Nat} {i : Instr} {v : Value} (h : pm_rokb cn i v x y = true) : pm_rok (pm_cn cn) i v x y := by
  cases i <;> first
    | trivial
    | (simp only [pm_rokb, Bool.and_eq_true, decide_eq_true_eq] at h
       first
         | exact h
         | exact And.intro (pm_fl_ok _ h.1) h.2)
def pm_wokb (cn : Nat) (ini : Bool) (i : Instr) (v : Value) (x y : Nat) : Bool := match i with
  | .putfield idx => decide ((cn, ini, idx, x, y) ∈ pm_pl) && pm_mkw (pm_fty (x - 1) (y - 100 * (x - 1))) v
  | .iastore => decide (x = 100)
  | .bastore => decide ((x = 102 ∧ v = .float 0) ∨ (x = 103 ∧ v = .int 0))
  | .castore => decide (x = 104)
  | .lastore => decide (x = 101)
  | .dastore => decide (x = 105)
  | .aastore => decide (x ∈ pm_tags ∧ 120 ≤ x ∧ y = x - 120 + 1)
  | .new idx => decide ((cn, idx, x, y) ∈ pm_nl')
  | .newarray t => decide (x ∈ pm_tags ∧ x < 120 ∧ newarray.typeOf t = pm_aty x)
  | .anewarray idx => decide (x ∈ pm_tags ∧ 120 ≤ x ∧ (cn, idx, x) ∈ pm_al)
  | .nop => decide ((x = 100 ∨ x = 101) ∧ (cn, y) ∈ pm_yl)
  | _ => true
theorem pm_acl {x : Nat} (h : x ∈ pm_tags) (h2 : x < 120) : Cond.arrayClass (pm_aty x) ∈ lw_tbl := by
  simp [pm_tags] at h
  rcases h with rfl | rfl | rfl | rfl | rfl | rfl | rfl | rfl | rfl | rfl <;> first | exact pm_w_ar100 | exact pm_w_ar101 | exact pm_w_ar102 | exact pm_w_ar103 | exact pm_w_ar104 | exact pm_w_ar105 | omega
theorem pm_wokb_ok {cn x y : Nat} {ini : Bool} {i : Instr} {v : Value} (h : pm_wokb cn ini i v x y = true) : pm_wok (pm_cn cn) ini i v x y := by
  cases i <;> first
    | trivial
    | (simp only [pm_wokb, Bool.and_eq_true, decide_eq_true_eq] at h
       first
         | exact h
         | exact And.intro (pm_pl_ok _ h.1) h.2
         | exact pm_nl'_ok _ h
         | exact And.intro h.1 (And.intro h.2.1 (And.intro h.2.2 (pm_acl h.1 h.2.1)))
         | exact And.intro h.1 (And.intro h.2.1 (pm_al_ok _ h.2.2))
         | exact And.intro h.1 (And.intro (pm_yl_ok _ h.2) pm_w_ac))
def pm_cdwb (cn : Nat) (i : Instr) (y : Nat) : Bool := match i with
  | .pop => decide ((cn, y) ∈ pm_ol)
  | .dup_x1 => decide ((cn, y) ∈ pm_xl)
  | .dup_x2 => decide ((cn, y) ∈ pm_il)
  | _ => true
theorem pm_cdwb_ok {cn y : Nat} {i : Instr} (h : pm_cdwb cn i y = true) : pm_cdw (pm_cn cn) i y := by
  cases i <;> first
    | trivial
    | (simp only [pm_cdwb, decide_eq_true_eq] at h
       first
         | exact And.intro (pm_ol_ok _ h) pm_w_oi
         | exact And.intro (pm_xl_ok _ h) pm_w_max
         | exact And.intro (pm_il_ok _ h) pm_w_min)
def pm_fab (C : List pm_E) (pc : Nat) (i : Instr) (nx : Nat) : Bool := !pm_falls i || (match C[nx]? with
  | some e => e.1 == pc + pm_len i
  | none => false)
theorem pm_fab_ok {C : List pm_E} {pc nx : Nat} {i : Instr} (h : pm_fab C pc i nx = true) : pm_falls i = true → ∃ e', C[nx]? = some e' ∧ e'.1 = pc + pm_len i := by
  intro hf
  unfold pm_fab at h
  rw [hf] at h
  simp only [Bool.not_true, Bool.false_or] at h
  split at h
  · rename_i e he; exact ⟨e, he, by simpa using h⟩
  · cases h
def pm_tob (C : List pm_E) (x : Nat) (q : Int) : Bool := match C[x]? with
  | some e => decide (q = (e.1 : Int))
  | none => false
theorem pm_tob_ok {C : List pm_E} {x : Nat} {q : Int} (h : pm_tob C x q = true) : ∃ e : pm_E, C[x]? = some e ∧ q = (e.1 : Int) := by
  unfold pm_tob at h
  split at h
  · rename_i e he; exact ⟨e, he, of_decide_eq_true h⟩
  · cases h
def pm_jokb (C : List pm_E) (pc : Nat) (i : Instr) (x y : Nat) (f2 : List Nat) : Bool := match i with
  | .ifCond _ off => pm_tob C x ((pc : Int) + off)
  | .if_icmp _ off => pm_tob C x ((pc : Int) + off)
  | .goto off => pm_tob C x ((pc : Int) + off)
  | .tableswitch d lo hi offs => decide (lo = (y : Int)) && decide (hi = (y : Int) + (f2.length : Int) - 1) && pm_tob C x ((pc : Int) + d) && (List.range f2.length).all (fun j => match f2[j]?, offs[j]? with
      | some t, some off => pm_tob C t ((pc : Int) + off)
      | _, _ => false)
  | _ => true
theorem pm_jokb_ok {C : List pm_E} {pc x y : Nat} {i : Instr} {f2 : List Nat} (h : pm_jokb C pc i x y f2 = true) : pm_jok C pc i x y f2 := by
  cases i <;> first
    | trivial
    | exact pm_tob_ok h
    | (simp only [pm_jokb, Bool.and_eq_true, decide_eq_true_eq, List.all_eq_true, List.mem_range] at h
       obtain ⟨⟨⟨h1, h2⟩, h3⟩, h4⟩ := h
       refine And.intro h1 (And.intro h2 (And.intro (pm_tob_ok h3) (fun j t hj => ?_)))
       have h5 := h4 j (List.getElem?_eq_some_iff.mp hj).1
       rw [hj] at h5
       split at h5
       · rename_i q1 q2 q3 q4 q5
         cases q4
         obtain ⟨e, e1, e2⟩ := pm_tob_ok h5
         exact ⟨e, _, e1, q5, e2⟩
       · cases h5)
def pm_reb (ret : Option FieldType) (i : Instr) (x : Nat) : Bool := match i with
  | .ireturn => decide ((x = 0 ∧ ret = some .int) ∨ (x = 1 ∧ ret = some .boolean))
  | .lreturn => decide (ret = some .long)
  | .dreturn => decide (ret = some .double)
  | .areturn => match ret with
    | some (.object _) => true
    | some (.array _) => true
    | _ => false
  | .return_ => decide (ret = none)
  | _ => true
theorem pm_reb_ok {ret : Option FieldType} {i : Instr} {x : Nat} (h : pm_reb ret i x = true) : pm_reo ret i x := by
  cases i <;> first
    | trivial
    | (simp only [pm_reb, decide_eq_true_eq] at h; exact h)
    | (simp only [pm_reb] at h
       split at h
       · exact Exists.intro _ (And.intro rfl (Or.inl (Exists.intro _ rfl)))
       · exact Exists.intro _ (And.intro rfl (Or.inr (Exists.intro _ rfl)))
       · cases h)
def pm_cob (cn : Nat) (i : Instr) (x y : Nat) (c2 : Bool) : Bool := match i with
  | .invokestatic idx => decide ((0, cn, idx, x, y, c2) ∈ pm_ml)
  | .invokevirtual idx => decide ((1, cn, idx, x, y, c2) ∈ pm_ml)
  | .invokespecial idx => decide ((2, cn, idx, x, y, c2) ∈ pm_ml)
  | _ => true
theorem pm_cob_ok {cn x y : Nat} {i : Instr} {c2 : Bool} (h : pm_cob cn i x y c2 = true) : pm_cok 283 (pm_cn cn) i x y c2 := by
  cases i <;> first
    | trivial
    | (simp only [pm_cob, decide_eq_true_eq] at h; exact pm_ml_ok _ h)
def pm_hob (m pc : Nat) (i : Instr) (c2 : Bool) (hs : List (Nat × Nat)) : Bool := !pm_isc i || ((hs.isEmpty && (c2 || (pm_hh m).isEmpty)) || decide ((m, pc, c2, hs) ∈ pm_hl))
theorem pm_hob_ok {m pc : Nat} {i : Instr} {c2 : Bool} {hs : List (Nat × Nat)} (h : pm_hob m pc i c2 hs = true) : pm_isc i = true → pm_hok pm_nc9 m pc c2 hs := by
  intro hc
  unfold pm_hob at h
  rw [hc] at h
  simp only [Bool.not_true, Bool.false_or, Bool.or_eq_true, Bool.and_eq_true, decide_eq_true_eq] at h
  rcases h with ⟨h1, h2⟩ | h
  · have e : hs = [] := List.isEmpty_iff.mp h1
    subst e
    refine ⟨fun _ => h2.imp id (fun h => List.isEmpty_iff.mp h), fun E h9 hl => ?_⟩
    cases hl
  · exact pm_hl_ok _ h
def pm_chkE (m : Nat) (e : pm_E) : Bool := match e with
  | (pc, i, len, v, x, y, nx, _, f2, _, c2, hs) => match i with
    | .monitorenter => true
    | .athrow => decide ((m, pc, x) ∈ pm_tl)
    | .tableswitch d lo hi offs => decide (decode (pm_cc m) pc = .ok (.tableswitch d lo hi offs, len)) && pm_jokb (pm_cd' m) pc (.tableswitch d lo hi offs) x y f2
    | i => pm_dcb (pm_cc m) pc i y && (pm_sok (pm_nl m) i v && (pm_kcb (pm_mm m).2.2.2.2 i v && (pm_rokb (pm_mm m).2.2.2.2 i v x y && (pm_wokb (pm_mm m).2.2.2.2 (decide ((pm_y m).name = "<init>")) i v x y && (pm_cdwb (pm_mm m).2.2.2.2 i y && (pm_fab (pm_cd' m) pc i nx && (pm_jokb (pm_cd' m) pc i x y f2 && (pm_reb (pm_ret m) i x && (pm_cob (pm_mm m).2.2.2.2 i x y c2 && pm_hob m pc i c2 hs)))))))))
theorem pm_chkE_ok {m : Nat} {e : pm_E} (h : pm_chkE m e = true) : pm_eok 283 pm_st9 pm_nc9 m e := by
  obtain ⟨pc, i, len, v, x, y, nx, f1, f2, c1, c2, hs⟩ := e
  unfold pm_chkE at h
  dsimp only at h
  split at h
  · exact ⟨fun h => (by cases h), fun _ _ _ _ h => (by cases h), fun h => (by cases h)⟩
  · simp only [decide_eq_true_eq] at h
    exact ⟨fun _ => pm_tl_ok _ h, fun _ _ _ _ h => (by cases h), fun h => (by cases h)⟩
  · simp only [Bool.and_eq_true] at h
    refine ⟨fun h => (by cases h), fun d lo hi offs h9 => ?_, fun h => (by cases h)⟩
    cases h9
    simp only [decide_eq_true_eq] at h
    exact ⟨h.1, pm_jokb_ok h.2⟩
  · rename_i h1 h2 h3
    simp only [Bool.and_eq_true] at h
    obtain ⟨a1, a2, a3, a4, a5, a6, a7, a8, a9, a10, a11⟩ := h
    exact ⟨fun h => (h2 h).elim, fun d lo hi offs h => (h3 d lo hi offs h).elim, fun _ => ⟨pm_dcb_ok a1, a2, pm_kcb_ok a3, pm_rokb_ok a4, pm_wokb_ok a5, pm_cdwb_ok a6, pm_fab_ok a7, pm_jokb_ok a8, pm_reb_ok a9, pm_cob_ok a10, pm_hob_ok a11⟩⟩
def pm_chkM (m : Nat) : Bool := (pm_cd' m).all (pm_chkE m)
theorem pm_chkM_ok {m : Nat} (h : pm_chkM m = true) (k : Nat) (e : pm_E) (he : (pm_cd' m)[k]? = some e) : pm_eok 283 pm_st9 pm_nc9 m e := pm_chkE_ok (List.all_eq_true.mp h e (List.mem_of_getElem? he))
