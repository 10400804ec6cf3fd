/-! ===== what holds at the law's entry ===== -/
section PMS
variable {s : State} {b : Nat}
theorem pg_1 {args : Array Value} (h : (Jvm.Cond.and given_1 narrow_1).before args s = true) : (∀ c ∈ flatC narrow_1_1, c.before args s = true) ∧ (∀ c ∈ flatC narrow_1_2, c.before args s = true) ∧ ∀ c ∈ flatC narrow_1_3, c.before args s = true := by
  have h9 : (Jvm.Cond.and given_1 (Jvm.Cond.and narrow_1_1 (Jvm.Cond.and narrow_1_2 narrow_1_3))).before args s = true := h
  rw [Cond.before_and, Bool.and_eq_true] at h9
  have h8 := h9.2
  rw [Cond.before_and, Bool.and_eq_true] at h8
  have h7 := h8.2
  rw [Cond.before_and, Bool.and_eq_true] at h7
  exact ⟨flat_of_before _ h8.1, flat_of_before _ h7.1, flat_of_before _ h7.2⟩
theorem ps_0 {args : Array Value} (h : (Jvm.Cond.and given_1 narrow_1).before args s = true) : (Cond.exactly (.string "TransducerBench" 101) "java/lang/String").before args s = true := (pg_1 h).1 _ (List.mem_of_getElem? (i := 266) (by decide +kernel))
theorem ps_1 {args : Array Value} (h : (Jvm.Cond.and given_1 narrow_1).before args s = true) : (Cond.exactly (.string "TransducerBench" 137) "java/lang/String").before args s = true := (pg_1 h).1 _ (List.mem_of_getElem? (i := 320) (by decide +kernel))
theorem ps_2 {args : Array Value} (h : (Jvm.Cond.and given_1 narrow_1).before args s = true) : (Cond.exactly (.string "TransducerBench" 143) "java/lang/String").before args s = true := (pg_1 h).1 _ (List.mem_of_getElem? (i := 354) (by decide +kernel))
theorem ps_3 {args : Array Value} (h : (Jvm.Cond.and given_1 narrow_1).before args s = true) : (Cond.exactly (.string "TransducerBench" 153) "java/lang/String").before args s = true := (pg_1 h).1 _ (List.mem_of_getElem? (i := 384) (by decide +kernel))
theorem ps_4 {args : Array Value} (h : (Jvm.Cond.and given_1 narrow_1).before args s = true) : (Cond.exactly (.string "TransducerBench" 176) "java/lang/String").before args s = true := (pg_1 h).2.1 _ (List.mem_of_getElem? (i := 31) (by decide +kernel))
theorem ps_5 {args : Array Value} (h : (Jvm.Cond.and given_1 narrow_1).before args s = true) : (Cond.exactly (.string "TransducerBench" 200) "java/lang/String").before args s = true := (pg_1 h).2.1 _ (List.mem_of_getElem? (i := 99) (by decide +kernel))
theorem ps_6 {args : Array Value} (h : (Jvm.Cond.and given_1 narrow_1).before args s = true) : (Cond.exactly (.string "TransducerBench" 219) "java/lang/String").before args s = true := (pg_1 h).2.1 _ (List.mem_of_getElem? (i := 144) (by decide +kernel))
theorem ps_7 {args : Array Value} (h : (Jvm.Cond.and given_1 narrow_1).before args s = true) : (Cond.exactly (.string "TransducerBench" 224) "java/lang/String").before args s = true := (pg_1 h).2.1 _ (List.mem_of_getElem? (i := 206) (by decide +kernel))
theorem ps_8 {args : Array Value} (h : (Jvm.Cond.and given_1 narrow_1).before args s = true) : (Cond.exactly (.string "TransducerBench" 231) "java/lang/String").before args s = true := (pg_1 h).2.1 _ (List.mem_of_getElem? (i := 255) (by decide +kernel))
theorem ps_9 {args : Array Value} (h : (Jvm.Cond.and given_1 narrow_1).before args s = true) : (Cond.exactly (.string "TransducerBench" 252) "java/lang/String").before args s = true := (pg_1 h).2.1 _ (List.mem_of_getElem? (i := 335) (by decide +kernel))
theorem ps_10 {args : Array Value} (h : (Jvm.Cond.and given_1 narrow_1).before args s = true) : (Cond.exactly (.string "TransducerBench" 255) "java/lang/String").before args s = true := (pg_1 h).2.1 _ (List.mem_of_getElem? (i := 376) (by decide +kernel))
theorem ps_11 {args : Array Value} (h : (Jvm.Cond.and given_1 narrow_1).before args s = true) : (Cond.exactly (.string "TransducerBench" 274) "java/lang/String").before args s = true := (pg_1 h).2.2 _ (List.mem_of_getElem? (i := 78) (by decide +kernel))
theorem ps_12 {args : Array Value} (h : (Jvm.Cond.and given_1 narrow_1).before args s = true) : (Cond.exactly (.string "TransducerBench" 288) "java/lang/String").before args s = true := (pg_1 h).2.2 _ (List.mem_of_getElem? (i := 119) (by decide +kernel))
theorem ps_13 {args : Array Value} (h : (Jvm.Cond.and given_1 narrow_1).before args s = true) : (Cond.exactly (.string "TransducerBench" 299) "java/lang/String").before args s = true := (pg_1 h).2.2 _ (List.mem_of_getElem? (i := 182) (by decide +kernel))
theorem ps_14 {args : Array Value} (h : (Jvm.Cond.and given_1 narrow_1).before args s = true) : (Cond.exactly (.string "TransducerBench" 305) "java/lang/String").before args s = true := (pg_1 h).2.2 _ (List.mem_of_getElem? (i := 243) (by decide +kernel))
theorem ps_15 {args : Array Value} (h : (Jvm.Cond.and given_1 narrow_1).before args s = true) : (Cond.exactly (.string "TransducerBench" 318) "java/lang/String").before args s = true := (pg_1 h).2.2 _ (List.mem_of_getElem? (i := 306) (by decide +kernel))
theorem ps_16 {args : Array Value} (h : (Jvm.Cond.and given_1 narrow_1).before args s = true) : (Cond.exactly (.string "TransducerBench" 324) "java/lang/String").before args s = true := (pg_1 h).1 _ (List.mem_of_getElem? (i := 165) (by decide +kernel))
theorem ps_17 {args : Array Value} (h : (Jvm.Cond.and given_1 narrow_1).before args s = true) : (Cond.exactly (.string "TransducerBench" 326) "java/lang/String").before args s = true := (pg_1 h).1 _ (List.mem_of_getElem? (i := 190) (by decide +kernel))
theorem ps_18 {args : Array Value} (h : (Jvm.Cond.and given_1 narrow_1).before args s = true) : (Cond.exactly (.string "TransducerBench" 328) "java/lang/String").before args s = true := (pg_1 h).1 _ (List.mem_of_getElem? (i := 217) (by decide +kernel))
theorem ps_19 {args : Array Value} (h : (Jvm.Cond.and given_1 narrow_1).before args s = true) : (Cond.exactly (.string "TransducerBench" 330) "java/lang/String").before args s = true := (pg_1 h).2.2 _ (List.mem_of_getElem? (i := 31) (by decide +kernel))
theorem ps_20 {args : Array Value} (h : (Jvm.Cond.and given_1 narrow_1).before args s = true) : (Cond.exactly (.string "TransducerBench" 332) "java/lang/String").before args s = true := (pg_1 h).1 _ (List.mem_of_getElem? (i := 291) (by decide +kernel))
theorem ps_21 {args : Array Value} (h : (Jvm.Cond.and given_1 narrow_1).before args s = true) : (Cond.exactly (.string "TransducerBench" 334) "java/lang/String").before args s = true := (pg_1 h).2.1 _ (List.mem_of_getElem? (i := 65) (by decide +kernel))
theorem ps_22 {args : Array Value} (h : (Jvm.Cond.and given_1 narrow_1).before args s = true) : (Cond.exactly (.string "TransducerBench" 336) "java/lang/String").before args s = true := (pg_1 h).2.1 _ (List.mem_of_getElem? (i := 295) (by decide +kernel))
theorem pr_0 {args : Array Value} (h : (Jvm.Cond.and given_1 narrow_1).before args s = true) : (Cond.isRef (.static Bundle.tN "UNASSIGNED_STACK" Bundle.steD)).before args s = true := (pg_1 h).1 _ (List.mem_of_getElem? (i := 2) (by decide +kernel))
theorem pr_1 {args : Array Value} (h : (Jvm.Cond.and given_1 narrow_1).before args s = true) : (Cond.isRef (.static Bundle.tN "SUPPRESSED_SENTINEL" Bundle.listD)).before args s = true := (pg_1 h).1 _ (List.mem_of_getElem? (i := 3) (by decide +kernel))
theorem pn_0 {args : Array Value} (h : (Jvm.Cond.and given_1 narrow_1).before args s = true) : (Cond.not (.castable "java/lang/IllegalStateException" "java/lang/IllegalArgumentException")).before args s = true := (pg_1 h).1 _ (List.mem_of_getElem? (i := 17) (by decide +kernel))
theorem pn_1 {args : Array Value} (h : (Jvm.Cond.and given_1 narrow_1).before args s = true) : (Cond.not (.castable "java/lang/IllegalStateException" "java/lang/IndexOutOfBoundsException")).before args s = true := (pg_1 h).1 _ (List.mem_of_getElem? (i := 52) (by decide +kernel))
theorem pn_2 {args : Array Value} (h : (Jvm.Cond.and given_1 narrow_1).before args s = true) : (Cond.not (.castable "java/lang/IndexOutOfBoundsException" "java/lang/IllegalArgumentException")).before args s = true := (pg_1 h).1 _ (List.mem_of_getElem? (i := 18) (by decide +kernel))
theorem pn_3 {args : Array Value} (h : (Jvm.Cond.and given_1 narrow_1).before args s = true) : (Cond.not (.castable "java/lang/UnsupportedOperationException" "java/lang/IllegalArgumentException")).before args s = true := (pg_1 h).1 _ (List.mem_of_getElem? (i := 20) (by decide +kernel))
theorem pn_4 {args : Array Value} (h : (Jvm.Cond.and given_1 narrow_1).before args s = true) : (Cond.not (.castable "java/util/NoSuchElementException" "java/lang/IllegalArgumentException")).before args s = true := (pg_1 h).1 _ (List.mem_of_getElem? (i := 19) (by decide +kernel))
theorem pi_0 : Cond.instantiable RX0 7 ∈ lw_tbl := List.mem_of_getElem? (i := 439) (by decide +kernel)
theorem pi_1 : Cond.instantiable RX1 14 ∈ lw_tbl := List.mem_of_getElem? (i := 333) (by decide +kernel)
theorem pi_2 : Cond.instantiable RX2 4 ∈ lw_tbl := List.mem_of_getElem? (i := 222) (by decide +kernel)
theorem pi_3 : Cond.instantiable RX3 8 ∈ lw_tbl := List.mem_of_getElem? (i := 296) (by decide +kernel)
theorem pi_4 : Cond.instantiable RX4 12 ∈ lw_tbl := List.mem_of_getElem? (i := 395) (by decide +kernel)
theorem pi_5 : Cond.instantiable RX5 7 ∈ lw_tbl := List.mem_of_getElem? (i := 244) (by decide +kernel)
theorem pi_6 : Cond.instantiable RX6 7 ∈ lw_tbl := List.mem_of_getElem? (i := 126) (by decide +kernel)
theorem pi_7 : Cond.instantiable RX7 2 ∈ lw_tbl := List.mem_of_getElem? (i := 339) (by decide +kernel)
theorem pi_8 : Cond.instantiable RX8 2 ∈ lw_tbl := List.mem_of_getElem? (i := 132) (by decide +kernel)
theorem pi_9 : Cond.instantiable RX9 3 ∈ lw_tbl := List.mem_of_getElem? (i := 119) (by decide +kernel)
theorem pi_10 : Cond.instantiable RX10 2 ∈ lw_tbl := List.mem_of_getElem? (i := 279) (by decide +kernel)
theorem pi_11 : Cond.instantiable RX11 10 ∈ lw_tbl := List.mem_of_getElem? (i := 110) (by decide +kernel)
theorem pi_12 : Cond.instantiable RX12 45 ∈ lw_tbl := List.mem_of_getElem? (i := 1439) (by decide +kernel)
theorem pm_inst : ∀ (ci : Nat) (r : vw_C), pm_cl[ci]? = some r → Cond.instantiable r.1 r.2.2 ∈ lw_tbl := by
  intro ci r h
  match ci, h with
  | 0, h => cases h; exact pi_0
  | 1, h => cases h; exact pi_1
  | 2, h => cases h; exact pi_2
  | 3, h => cases h; exact pi_3
  | 4, h => cases h; exact pi_4
  | 5, h => cases h; exact pi_5
  | 6, h => cases h; exact pi_6
  | 7, h => cases h; exact pi_7
  | 8, h => cases h; exact pi_8
  | 9, h => cases h; exact pi_9
  | 10, h => cases h; exact pi_10
  | 11, h => cases h; exact pi_11
  | 12, h => cases h; exact pi_12
  | n + 13, h => cases h
theorem po_126 : Cond.arrayOver (.object (pm_cn (126 - 120))) ∈ lw_tbl := List.mem_of_getElem? (i := 125) (by decide +kernel)
theorem po_128 : Cond.arrayOver (.object (pm_cn (128 - 120))) ∈ lw_tbl := List.mem_of_getElem? (i := 445) (by decide +kernel)
theorem po_129 : Cond.arrayOver (.object (pm_cn (129 - 120))) ∈ lw_tbl := List.mem_of_getElem? (i := 118) (by decide +kernel)
theorem po_130 : Cond.arrayOver (.object (pm_cn (130 - 120))) ∈ lw_tbl := List.mem_of_getElem? (i := 302) (by decide +kernel)
theorem pl_0 : Cond.laysStatic Bundle.tN "UNASSIGNED_STACK" Bundle.steD ∈ lw_tbl := List.mem_of_getElem? (i := 546) (by decide +kernel)
theorem pl_1 : Cond.laysStatic Bundle.tN "SUPPRESSED_SENTINEL" Bundle.listD ∈ lw_tbl := List.mem_of_getElem? (i := 548) (by decide +kernel)
theorem pl_2 : Cond.initialized Bundle.tN ∈ lw_tbl := List.mem_of_getElem? (i := 97) (by decide +kernel)
theorem pt_0 : Cond.stringRef "TransducerBench" 101 "there are 40 rules" ∈ lw_tbl := List.mem_of_getElem? (i := 651) (by decide +kernel)
theorem pt_1 : Cond.stringRef "TransducerBench" 137 "the value is out of range" ∈ lw_tbl := List.mem_of_getElem? (i := 723) (by decide +kernel)
theorem pt_2 : Cond.stringRef "TransducerBench" 143 "the rule has 6 terms" ∈ lw_tbl := List.mem_of_getElem? (i := 724) (by decide +kernel)
theorem pt_3 : Cond.stringRef "TransducerBench" 153 "there is no such number about a rule" ∈ lw_tbl := List.mem_of_getElem? (i := 768) (by decide +kernel)
theorem pt_4 : Cond.stringRef "TransducerBench" 176 "there is no such range" ∈ lw_tbl := List.mem_of_getElem? (i := 792) (by decide +kernel)
theorem pt_5 : Cond.stringRef "TransducerBench" 200 "the buffer holds 120 characters" ∈ lw_tbl := List.mem_of_getElem? (i := 830) (by decide +kernel)
theorem pt_6 : Cond.stringRef "TransducerBench" 219 "a state, a range or a rule of the text is wrong" ∈ lw_tbl := List.mem_of_getElem? (i := 913) (by decide +kernel)
theorem pt_7 : Cond.stringRef "TransducerBench" 224 "there would be more than 40 rules" ∈ lw_tbl := List.mem_of_getElem? (i := 914) (by decide +kernel)
theorem pt_8 : Cond.stringRef "TransducerBench" 231 "the word has 10 symbols" ∈ lw_tbl := List.mem_of_getElem? (i := 927) (by decide +kernel)
theorem pt_9 : Cond.stringRef "TransducerBench" 252 "the word has no output" ∈ lw_tbl := List.mem_of_getElem? (i := 1019) (by decide +kernel)
theorem pt_10 : Cond.stringRef "TransducerBench" 255 "the result has more than 10 symbols" ∈ lw_tbl := List.mem_of_getElem? (i := 1040) (by decide +kernel)
theorem pt_11 : Cond.stringRef "TransducerBench" 274 "the domain is empty" ∈ lw_tbl := List.mem_of_getElem? (i := 1128) (by decide +kernel)
theorem pt_12 : Cond.stringRef "TransducerBench" 288 "one of the transducers is not functional" ∈ lw_tbl := List.mem_of_getElem? (i := 1272) (by decide +kernel)
theorem pt_13 : Cond.stringRef "TransducerBench" 299 "the composition has no room in a slot" ∈ lw_tbl := List.mem_of_getElem? (i := 1363) (by decide +kernel)
theorem pt_14 : Cond.stringRef "TransducerBench" 305 "a rule has other terms than one offset" ∈ lw_tbl := List.mem_of_getElem? (i := 1378) (by decide +kernel)
theorem pt_15 : Cond.stringRef "TransducerBench" 318 "there is no change to take back" ∈ lw_tbl := List.mem_of_getElem? (i := 1433) (by decide +kernel)
theorem pt_16 : Cond.stringRef "TransducerBench" 324 "there is no such slot" ∈ lw_tbl := List.mem_of_getElem? (i := 562) (by decide +kernel)
theorem pt_17 : Cond.stringRef "TransducerBench" 326 "there is no such state" ∈ lw_tbl := List.mem_of_getElem? (i := 592) (by decide +kernel)
theorem pt_18 : Cond.stringRef "TransducerBench" 328 "there is no such symbol or range of symbols" ∈ lw_tbl := List.mem_of_getElem? (i := 637) (by decide +kernel)
theorem pt_19 : Cond.stringRef "TransducerBench" 330 "the length is out of range" ∈ lw_tbl := List.mem_of_getElem? (i := 1052) (by decide +kernel)
theorem pt_20 : Cond.stringRef "TransducerBench" 332 "there is no such rule" ∈ lw_tbl := List.mem_of_getElem? (i := 699) (by decide +kernel)
theorem pt_21 : Cond.stringRef "TransducerBench" 334 "there is no such term" ∈ lw_tbl := List.mem_of_getElem? (i := 811) (by decide +kernel)
theorem pt_22 : Cond.stringRef "TransducerBench" 336 "there is no such index" ∈ lw_tbl := List.mem_of_getElem? (i := 942) (by decide +kernel)
theorem pm_str {args : Array Value} {own tx : String} {k : Nat} (h1 : (Cond.stringRef own k tx).before args s = true) (h2 : (Cond.exactly (.string own k) "java/lang/String").before args s = true) : ∃ sa, vk_R own k tx sa s := by
  obtain ⟨a, c, cA, kA, q1, q2, q3, q4, q5, q6, -⟩ := Cond.exactly_spec (args := args) (first := s) (o := none) (s := s) (idx := []) (t := .string own k) (cls := "java/lang/String") h2
  exact ⟨a, vk_R.of h1 q1⟩
/-- the pure heap at the law's entry: the script alone -/
def pm_s0 (N b L : Nat) (xs : Nat → Int32) : pm_H := ((N, 0), (fun a => if a = b then (200, L) else (0, 0)), (fun _ _ => .null), fun a j => if a = b then .int (xs j) else .null)
theorem pm_arrP {args : Array Value} {ty : FieldType} (h : (Cond.arrayClass ty).before args s = true) (hty : ∀ C, ty ≠ .object C) : ∃ cA, ArrOfT s cA ty ∧ va_RA s cA ty := by
  obtain ⟨c, k, comp, h1, h2, h3⟩ := Cond.arrayClass_spec h
  refine ⟨c, fun n z => ⟨fun k h => (by cases h), k, h2, comp, h3⟩, ?_⟩
  cases ty with
  | object C => exact absurd rfl (hty C)
  | _ => exact h1
theorem pm_arrQ {C : String} (h : va_AO C s) : ∃ cA, ArrOfT s cA (.object C) ∧ va_RA s cA (.object C) := by
  obtain ⟨comp, c, k, h1, h2, h3, h4, h5⟩ := Cond.arrayOver_spec h
  exact ⟨c, fun n z => ⟨fun k h => (by cases h), k, h3, comp, h4⟩, k, comp, h3, h4, h1, h5⟩
theorem pm_start {L : Nat} {xs : Nat → Int32} (hts : ∀ w ∈ lw_tbl, w.before #[Value.ref b] s = true) (hX : va_X b L xs s s.heap) (hbl : b < s.heap.size) (hgv : (Jvm.Cond.and given_1 narrow_1).before #[Value.ref b] s = true) :
    ∃ (D : va_G) (DA : Nat → ClassId), pm_amb D DA s.heap.size pm_st9 pm_nc9 s s.heap ∧ pm_rep D DA s.heap.size s (pm_s0 s.heap.size b L xs) s.heap := by
  have hk : pm_known s := fun w hw hkw A => pm_kw_warm hkw (State.WarmedH.refl s) (hts w hw)
  have hA : ∀ a : Nat, a < s.heap.size → ¬ s.heap.size ≤ a := fun a h => Nat.not_le.mpr h
  have hcl : ∀ ci : Nat, ∃ q : ClassId × (Nat → Nat), ∀ r, pm_cl[ci]? = some r → u_Kn s r.1 r.2.1 r.2.2 q.1 q.2 := by
    intro ci
    cases hc : pm_cl[ci]? with
    | none => exact ⟨(0, fun _ => 0), fun r h => by cases h⟩
    | some r =>
      obtain ⟨cC, iS, h⟩ := u_known (C := r.1) (T := r.2.1) (N := r.2.2) hts (pm_clok_all ci r hc).1 (hts _ (pm_inst ci r hc))
      exact ⟨(cC, iS), fun r' h' => by cases h'; exact h⟩
  obtain ⟨dd, hdd⟩ := Classical.axiomOfChoice hcl
  have hAO : ∀ t ∈ pm_tags, 120 ≤ t → va_AO (pm_cn (t - 120)) s := by
    intro t ht h120
    simp [pm_tags] at ht
    rcases ht with rfl | rfl | rfl | rfl | rfl | rfl | rfl | rfl | rfl | rfl <;> first | omega | exact va_AO.of (hts _ po_126) | exact va_AO.of (hts _ po_128) | exact va_AO.of (hts _ po_129) | exact va_AO.of (hts _ po_130)
  have harr : ∀ t : Nat, ∃ cA : ClassId, t ∈ pm_tags → ArrOfT s cA (pm_aty t) ∧ va_RA s cA (pm_aty t) := by
    intro t
    by_cases ht : t ∈ pm_tags
    · by_cases h120 : 120 ≤ t
      · obtain ⟨cA, h⟩ := pm_arrQ (hAO t ht h120)
        have ety : pm_aty t = .object (pm_cn (t - 120)) := by
          unfold pm_aty
          rw [if_neg (by omega), if_neg (by omega), if_neg (by omega), if_neg (by omega), if_neg (by omega), if_neg (by omega)]
        exact ⟨cA, fun _ => by rw [ety]; exact h⟩
      · have h2 : ∀ C, pm_aty t ≠ .object C := by
          intro C
          simp [pm_tags] at ht
          rcases ht with rfl | rfl | rfl | rfl | rfl | rfl | rfl | rfl | rfl | rfl <;> first | omega | (intro h; cases h)
        obtain ⟨cA, h⟩ := pm_arrP (hts _ (pm_acl ht (by omega))) h2
        exact ⟨cA, fun _ => h⟩
    · exact ⟨0, fun h => absurd h ht⟩
  obtain ⟨da, hda⟩ := Classical.axiomOfChoice harr
  refine ⟨(fun c => (dd c).1, fun c => (dd c).2), da, ⟨⟨fun c q h => hdd c q h, fun k q h => by cases h⟩, fun t ht => hda t ht, hk, ?_, vx_Zqof (hts _ pl_0) (hts _ pl_2) (pr_0 hgv) hA, vx_Zqof (hts _ pl_1) (hts _ pl_2) (pr_1 hgv) hA, ?_, hAO⟩, ?_⟩
  · unfold pm_st9
    exact List.forall_mem_cons.mpr ⟨pm_str (hts _ pt_0) (ps_0 hgv), List.forall_mem_cons.mpr ⟨pm_str (hts _ pt_1) (ps_1 hgv), List.forall_mem_cons.mpr ⟨pm_str (hts _ pt_2) (ps_2 hgv), List.forall_mem_cons.mpr ⟨pm_str (hts _ pt_3) (ps_3 hgv), List.forall_mem_cons.mpr ⟨pm_str (hts _ pt_4) (ps_4 hgv), List.forall_mem_cons.mpr ⟨pm_str (hts _ pt_5) (ps_5 hgv), List.forall_mem_cons.mpr ⟨pm_str (hts _ pt_6) (ps_6 hgv), List.forall_mem_cons.mpr ⟨pm_str (hts _ pt_7) (ps_7 hgv), List.forall_mem_cons.mpr ⟨pm_str (hts _ pt_8) (ps_8 hgv), List.forall_mem_cons.mpr ⟨pm_str (hts _ pt_9) (ps_9 hgv), List.forall_mem_cons.mpr ⟨pm_str (hts _ pt_10) (ps_10 hgv), List.forall_mem_cons.mpr ⟨pm_str (hts _ pt_11) (ps_11 hgv), List.forall_mem_cons.mpr ⟨pm_str (hts _ pt_12) (ps_12 hgv), List.forall_mem_cons.mpr ⟨pm_str (hts _ pt_13) (ps_13 hgv), List.forall_mem_cons.mpr ⟨pm_str (hts _ pt_14) (ps_14 hgv), List.forall_mem_cons.mpr ⟨pm_str (hts _ pt_15) (ps_15 hgv), List.forall_mem_cons.mpr ⟨pm_str (hts _ pt_16) (ps_16 hgv), List.forall_mem_cons.mpr ⟨pm_str (hts _ pt_17) (ps_17 hgv), List.forall_mem_cons.mpr ⟨pm_str (hts _ pt_18) (ps_18 hgv), List.forall_mem_cons.mpr ⟨pm_str (hts _ pt_19) (ps_19 hgv), List.forall_mem_cons.mpr ⟨pm_str (hts _ pt_20) (ps_20 hgv), List.forall_mem_cons.mpr ⟨pm_str (hts _ pt_21) (ps_21 hgv), List.forall_mem_cons.mpr ⟨pm_str (hts _ pt_22) (ps_22 hgv), fun _ h => absurd h List.not_mem_nil⟩⟩⟩⟩⟩⟩⟩⟩⟩⟩⟩⟩⟩⟩⟩⟩⟩⟩⟩⟩⟩⟩⟩
  · unfold pm_nc9
    exact List.forall_mem_cons.mpr ⟨va_Nc.of (pn_0 hgv), List.forall_mem_cons.mpr ⟨va_Nc.of (pn_1 hgv), List.forall_mem_cons.mpr ⟨va_Nc.of (pn_2 hgv), List.forall_mem_cons.mpr ⟨va_Nc.of (pn_3 hgv), List.forall_mem_cons.mpr ⟨va_Nc.of (pn_4 hgv), fun _ h => absurd h List.not_mem_nil⟩⟩⟩⟩⟩
  · have ht : ∀ a, pm_t (pm_s0 s.heap.size b L xs) a = if a = b then 200 else 0 := fun a => by
      unfold pm_t pm_s0; simp only; split <;> rfl
    refine ⟨rfl, Nat.le_refl _, fun a h1 h2 => ?_, fun a => ⟨fun ci r h1 h2 => ?_, fun h1 => ?_⟩, fun a ha => ?_⟩
    · rw [ht] at h1 h2
      split at h1
      · rename_i e
        rw [if_pos e] at h2
        exact absurd rfl h2
      · exact absurd rfl h1
    · rw [ht] at h1
      have := pm_cl_lt h2
      split at h1 <;> omega
    · rw [ht] at h1
      split at h1
      · exact absurd h1 (by decide)
      · exact absurd h1 (by decide)
    · rw [ht] at ha
      split at ha
      · rename_i e
        subst e
        obtain ⟨scr, q1, q2, q3, q4, q5⟩ := hX
        have hl : pm_l (pm_s0 s.heap.size a L xs) a = L := by simp [pm_l, pm_s0]
        have hAa : ∀ j, pm_A (pm_s0 s.heap.size a L xs) a j = .int (xs j) := fun j => by simp [pm_A, pm_s0]
        refine ⟨hbl, scr, q1, q2, q3, by rw [hl]; exact q4, fun j hj => ?_⟩
        rw [hl] at hj
        rw [hAa]
        exact q5 j hj
      · cases ha
end PMS
