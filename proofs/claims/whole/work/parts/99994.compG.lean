/-! ===== compose: the model joins ===== -/
def mpP (τ : pm_H) (m : Nat) (ps : List Nat) : Prop := iv (pm_F τ 1240 m) = Int32.ofInt (ps.length : Int) ∧ (ps.length ≤ 12 ∧ ∀ q, q ∈ ps → q < 144) ∧ ∀ (i p : Nat), ps[i]? = some p → iv (pm_A τ (m + 30) i) = Int32.ofInt ((p / 12 : Nat) : Int) ∧ iv (pm_A τ (m + 31) i) = Int32.ofInt ((p % 12 : Nat) : Int)
theorem mpP_X {m : Nat} {Fs As Sl : Nat → Prop} {σ σ' : pm_H} {ps : List Nat} (h : mpP σ m ps) (f : frX m Fs As Sl σ σ') (h1 : ¬ Fs 1240) (h2 : ¬ As 30 ∧ ¬ As 31) : mpP σ' m ps :=
  ⟨by rw [f.F h1]; exact h.1, h.2.1, fun i p hi => by rw [f.A (by omega) h2.1, f.A (by omega) h2.2]; exact h.2.2 i p hi⟩
def fdF (m : Nat) (σ σ' : pm_H) : Prop := frX m (fun f => f = 1240 ∨ f = 1241) (fun i => i = 30 ∨ i = 31) (fun _ => False) σ σ'
def fdP (m p : Nat) (ps : List Nat) (σ σ' : pm_H) : Prop := fdF m σ σ' ∧ if 12 ≤ fnd p ps then iv (pm_F σ' 1241 m) = 1 else mpP σ' m (addP p ps) ∧ pm_F σ' 1241 m = pm_F σ 1241 m
theorem s_M_finds {σ : pm_H} {m a b : Nat} {ps : List Nat} (hm : mS σ m) (h : mpP σ m ps) (ha : a < 12) (hb : b < 12) : cIP 0 235 [.ref m, .int (Int32.ofInt (a : Int)), .int (Int32.ofInt (b : Int))] σ (Int32.ofInt ((if 12 ≤ fnd (a * 12 + b) ps then 0 else fnd (a * 12 + b) ps : Nat) : Int)) (fdP m (a * 12 + b) ps σ) := by
  have hl := h.2.1.1
  have fl := fnd_le (a * 12 + b) ps
  generalize hp : a * 12 + b = p at *
  have p144 : p < 144 := by omega
  refine w_M_finds_0 ?_
  have fin : pm_R 0 235 2 [.ref m, .int (Int32.ofInt (a : Int)), .int (Int32.ofInt (b : Int)), .int (Int32.ofInt ((fnd p ps : Nat) : Int))] [] σ (fun o σ' => o = .inl (some (.int (Int32.ofInt ((if 12 ≤ fnd p ps then 0 else fnd p ps : Nat) : Int)))) ∧ fdP m p ps σ σ') := by
    by_cases c : fnd p ps < ps.length
    · have q6 : ¬ Int32.ofInt (ps.length : Int) ≤ Int32.ofInt ((fnd p ps : Nat) : Int) := by rw [oi_le (by omega)]; omega
      have v := vi (show fnd p ps < 12 by omega) (by omega)
      have w := vc (show fnd p ps < 2000000 by omega)
      have at0 := h.2.2 _ _ (fnd_eq ps c)
      have e1 : p / 12 = a := by omega
      have e2 : p % 12 = b := by omega
      rw [e1, e2] at at0
      refine w_M_finds_2 ?_
      rw [if_neg (by omega)]
      simp only [hm.1, h.1, hm.f30, hm.t30, hm.l30, hm.f31, hm.t31, hm.l31, q6, v, w, at0.1, at0.2, iv_int, isr_ref, rv_ref, not_false_eq_true, false_implies, true_implies, true_and, forall_eq, and_true, not_true_eq_false]
      refine ⟨frX.rf, ?_⟩
      rw [if_neg (by omega)]
      have ea : addP p ps = ps := if_pos c
      rw [ea]
      exact ⟨h, rfl⟩
    · have ce : fnd p ps = ps.length := by omega
      rw [ce]
      by_cases c12 : ps.length < 12
      · have v := vi (show ps.length < 12 by omega) (by omega)
        have w := vc (show ps.length < 2000000 by omega)
        have ea : addP p ps = ps ++ [p] := by unfold addP; rw [if_neg c, if_pos c12]
        have n12 : ¬ Int32.ofInt (ps.length : Int) = 12 := by
          refine fun q => absurd ((oi_eql (n := 12) ⟨by omega, by decide⟩).mp q) ?_
          show ¬ (ps.length : Int) = 12
          omega
        have post : fdP m p ps σ (pm_sF (pm_sA (pm_sA σ (m + 30) ps.length (.int (Int32.ofInt (a : Int)))) (m + 31) ps.length (.int (Int32.ofInt (b : Int)))) 1240 m (.int (Int32.ofInt ((ps.length + 1 : Nat) : Int)))) := by
          have f1 : fdF m σ (pm_sA σ (m + 30) ps.length (.int (Int32.ofInt (a : Int)))) := (frX_sA (i := 30) (by omega) (by omega)).mono (fun _ q => q.elim) (fun _ q => Or.inl q) (fun _ q => q)
          have f2 : fdF m (pm_sA σ (m + 30) ps.length (.int (Int32.ofInt (a : Int)))) (pm_sA (pm_sA σ (m + 30) ps.length (.int (Int32.ofInt (a : Int)))) (m + 31) ps.length (.int (Int32.ofInt (b : Int)))) := (frX_sA (i := 31) (by omega) (by omega)).mono (fun _ q => q.elim) (fun _ q => Or.inr q) (fun _ q => q)
          refine ⟨frX.tr (frX.tr f1 f2) (frX_sF.mono (fun _ q => Or.inl q) (fun _ q => q.elim) (fun _ q => q)), ?_⟩
          rw [if_neg (by omega), ea]
          refine ⟨⟨?_, ⟨?_, fun q hq => ?_⟩, fun i q hq => ?_⟩, ?_⟩
          · rw [F_sF, if_pos ⟨rfl, rfl⟩, List.length_append]; rfl
          · rw [List.length_append]; show ps.length + 1 ≤ 12; omega
          · rcases List.mem_append.mp hq with q1 | q1
            · exact h.2.1.2 q q1
            · rw [List.mem_singleton.mp q1]; exact p144
          · rw [A_sF, A_sF, A_sA, if_neg (by omega), A_sA]
            by_cases ci : i = ps.length
            · subst ci
              rw [List.getElem?_append_right (Nat.le_refl _), Nat.sub_self] at hq
              cases hq
              rw [if_pos ⟨rfl, rfl⟩, A_sA, if_pos ⟨rfl, rfl⟩]
              refine ⟨?_, ?_⟩
              · rw [show p / 12 = a by omega]; rfl
              · rw [show p % 12 = b by omega]; rfl
            · have li := (List.getElem?_eq_some_iff.mp hq).1
              rw [List.length_append] at li
              replace li : i < ps.length + 1 := li
              rw [List.getElem?_append_left (by omega)] at hq
              rw [if_neg (fun x => ci x.2), A_sA, if_neg (fun x => ci x.2), A_sA, if_neg (by omega)]
              exact h.2.2 i q hq
          · rw [F_sF, if_neg (by omega), F_sA, F_sA]
        generalize hP : fdP m p ps σ = P at post ⊢
        refine w_M_finds_2 ?_
        rw [if_neg (by omega)]
        simp only [hm.1, h.1, hm.f30, hm.t30, hm.l30, hm.f31, hm.t31, hm.l31, v, w, n12, t_sA, l_sA, iv_int, isr_ref, rv_ref, F_sA, F_sF, t_sF, and_self, if_true, not_false_eq_true, false_implies, true_implies, true_and, forall_eq, oi_s, oi_pm1]
        exact ⟨fun _ => post, fun q => absurd (Int32.le_refl _) q⟩
      · have e12 : ps.length = 12 := by omega
        have post : fdP m p ps σ (pm_sF σ 1241 m (.int ((1 : Int32)))) := by
          refine ⟨frX_sF.mono (fun _ q => Or.inr q) (fun _ q => q.elim) (fun _ q => q), ?_⟩
          rw [if_pos (by omega), F_sF, if_pos ⟨rfl, rfl⟩]; rfl
        generalize hP : fdP m p ps σ = P at post ⊢
        refine w_M_finds_2 ?_
        rw [if_pos (by omega)]
        simp only [hm.1, h.1, e12, iv_int, true_and, forall_eq]
        exact ⟨fun _ => ⟨fun _ => ⟨rfl, rfl, post⟩, fun q => absurd rfl q⟩, fun q => absurd (Int32.le_refl _) q⟩
  refine lp0 (fun i => [.ref m, .int (Int32.ofInt (a : Int)), .int (Int32.ofInt (b : Int)), .int (Int32.ofInt (i : Nat))]) (fnd p ps) (fun i hi next => ?_) fin 0 (Nat.zero_le _)
  have hq := List.getElem?_eq_getElem (show i < ps.length by omega)
  generalize ps[i] = q at hq
  have ne := fnd_lt ps i q hi hq
  have q1 := h.2.1.2 q (List.mem_of_getElem? hq)
  have q6 : ¬ Int32.ofInt (ps.length : Int) ≤ Int32.ofInt (i : Nat) := by rw [oi_le (by omega)]; omega
  have v := vi (show i < 12 by omega) (by omega)
  have w := vc (show i < 2000000 by omega)
  refine w_M_finds_2 ?_
  simp only [hm.1, h.1, hm.f30, hm.t30, hm.l30, hm.f31, hm.t31, hm.l31, q6, v, w, (h.2.2 i q hq).1, (h.2.2 i q hq).2, iv_int, isr_ref, rv_ref, not_false_eq_true, false_implies, true_implies, true_and, forall_eq, oi_s]
  refine ⟨fun x => ⟨fun y => ?_, fun _ => next⟩, fun _ => next⟩
  rw [oi_eq (by omega)] at x y
  omega
theorem tv_out {c u : Nat} (hc : okT c) (hu : okT u) (ho : okT (outT2 c u)) (h : 100 ≤ u → 1000 ≤ c + u) : tv (outT2 c u) = (if 100 ≤ u then tv c + tv u else tv u) ∧ decide (100 ≤ outT2 c u) = (decide (100 ≤ u) && decide (100 ≤ c)) := by
  unfold okT at hc hu ho
  unfold outT2 at ho ⊢
  by_cases c1 : u < 100
  · rw [if_pos c1, if_neg (by omega), decide_eq_false (by omega), Bool.false_and]
    exact ⟨rfl, rfl⟩
  · rw [if_neg c1] at ho ⊢
    have h1 := h (by omega)
    rw [if_pos (by omega), decide_eq_true (show 100 ≤ u by omega), Bool.true_and]
    unfold tv
    rw [if_neg c1]
    by_cases c2 : c < 100
    · rw [if_pos c2, if_pos (by omega)]
      refine ⟨by omega, ?_⟩
      rw [decide_eq_decide]; omega
    · rw [if_neg c2, if_neg (by omega)]
      refine ⟨by omega, ?_⟩
      rw [decide_eq_decide]; omega
def mxI (τ : pm_H) (m S : Nat) (st : CS) : Prop := iv (pm_F τ 1241 m) = 0 ∧ mpP τ m st.1 ∧ mTr τ m 4 (S, st.2) ∧ ∀ r, r ∈ st.2 → okR r
def mxS (τ : pm_H) (m S : Nat) (o : Option CS) : Prop := match o with
  | some st => mxI τ m S st
  | none => iv (pm_F τ 1241 m) = 1
def mcC (τ : pm_H) (m sb : Nat) (B : Tr) (zs : List (Nat × Rl)) : Prop := ∀ (i c : Nat) (t : Rl), zs[i]? = some (c, t) → ∃ j : Nat, iv (pm_A τ (m + 32) i) = Int32.ofInt ((40 * sb + j : Nat) : Int) ∧ B.2[j]? = some t
def jnF (m : Nat) (σ σ' : pm_H) : Prop := frX m (fun f => f = 1240 ∨ f = 1241) (fun i => (1 ≤ i ∧ i ≤ 9) ∨ i = 30 ∨ i = 31) (fun s => s = 4) σ σ'
theorem jnF_mS {m : Nat} {σ σ' : pm_H} (h : jnF m σ σ') (hm : mS σ m) : mS σ' m := frX.mS h hm (fun f hf => by rcases hf with e | e <;> (rw [e]; decide))
theorem n40 {n : Nat} (h : n < 100000) : Int32.ofInt (n : Int) = 40 ↔ n = 40 := by
  refine (oi_eql (n := 40) ⟨by omega, by decide⟩).trans ?_
  show (n : Int) = 40 ↔ _
  omega
theorem n6lt {n : Nat} (h : n < 100000) : (6 : Int32) < Int32.ofInt (n : Int) ↔ 6 < n := by
  refine (oi_llt (n := 6) ⟨by omega, by decide⟩).trans ?_
  show (6 : Int) < (n : Int) ↔ _
  omega
theorem oi_100 (k s : Nat) : (100 : Int32) * Int32.ofInt (k : Int) + Int32.ofInt (s : Int) = Int32.ofInt ((100 * k + s : Nat) : Int) := by
  rw [show (100 : Int32) * Int32.ofInt (k : Int) = Int32.ofInt (100 * (k : Int)) from oi_lmul _ 100, oi_add]; congr 1
theorem jT_big {zs : List (Nat × Rl)} (h : okZ zs) : ∀ i, i ≤ zs.length → (jT (zs.take i)).length ≤ 6 * i := by
  intro i
  induction i with
  | zero => intro _; exact Nat.le_refl _
  | succ i ih =>
    intro hi
    have hz := List.getElem?_eq_getElem (show i < zs.length by omega)
    generalize zs[i] = z at hz
    obtain ⟨c, t⟩ := z
    have l6 : (rTs t).length ≤ 6 := (h _ (List.mem_of_getElem? hz)).2.1.2.2.2.1
    rw [jT_s hz, List.length_append, List.length_map]
    have := ih (by omega)
    omega
theorem s_M_joins {σ : pm_H} {m sa sb i n q S : Nat} {r : Rl} {A B : Tr} {zs : List (Nat × Rl)} {g F : Nat → Bool} {st : CS} (hm : mS σ m) (ha : mTr σ m sa A) (hA : okTr A) (hr : A.2[i]? = some r) (hsa : sa < 4) (hb : mTr σ m sb B) (hB : okTr B) (hsb : sb < 4) (hi : mxI σ m S st) (hS : S < 4096) (hz : zs.map Prod.fst = rTs r) (hZ : okZ zs) (hch : mcC σ m sb B zs) (hF : ∀ s, s < 100 → iv (pm_A σ (m + 33) (100 * (rTs r).length + s)) = bI (F s)) (hFg : ∀ s, s < 100 → F s = g s) (hn : n < 12) (hq : q < 12) : cV 1 236 [.ref m, .int (Int32.ofInt (n : Int)), .int (Int32.ofInt ((40 * sa + i : Nat) : Int)), .int (Int32.ofInt (q : Int))] σ (fun σ' => mxS σ' m S (joinA r n q g zs st) ∧ jnF m σ σ') := by
  obtain ⟨ps, rs⟩ := st
  obtain ⟨h0, hP, hT, hR⟩ := hi
  dsimp only at hP hT hR
  have ok := hA.at hr
  have l6 := ok.2.2.2.1
  have la := ha.2.2.1
  have lb := hb.2.2.1
  have lr := hT.2.2.1
  dsimp only at lr
  have hi' := (List.getElem?_eq_some_iff.mp hr).1
  have rT12 := ok.2.1
  have zl : zs.length = (rTs r).length := by rw [← hz, List.length_map]
  have vR := vi (show 40 * sa + i < 520 by omega) (by omega)
  have wR := vc (show 40 * sa + i < 2000000 by omega)
  have r0 := ha.2.2.2 i r hr
  have em : (mk F).1 = (mk g).1 ∧ (mk F).2 = (mk g).2 := mk_c hFg
  have jb := jT_big hZ zs.length (Nat.le_refl _)
  rw [List.take_length] at jb
  refine w_M_joins_0 ?_
  -- how many terms
  have many : (pm_R 1 236 4 [.ref m, .int (Int32.ofInt (n : Int)), .int (Int32.ofInt ((40 * sa + i : Nat) : Int)), .int (Int32.ofInt (q : Int)), .int (Int32.ofInt ((jT zs).length : Int)), .int (Int32.ofInt ((rTs r).length : Int)), pm_U, pm_U, pm_U, pm_U] [] σ (fun o σ' => o = .inl none ∧ mxS σ' m S (joinA r n q g zs (ps, rs)) ∧ jnF m σ σ')) → pm_R 1 236 4 [.ref m, .int (Int32.ofInt (n : Int)), .int (Int32.ofInt ((40 * sa + i : Nat) : Int)), .int (Int32.ofInt (q : Int)), .int ((0 : Int32)), .int ((0 : Int32)), pm_U, pm_U, pm_U, pm_U] [] σ (fun o σ' => o = .inl none ∧ mxS σ' m S (joinA r n q g zs (ps, rs)) ∧ jnF m σ σ') := by
    intro fin
    refine lp0 (fun k => [.ref m, .int (Int32.ofInt (n : Int)), .int (Int32.ofInt ((40 * sa + i : Nat) : Int)), .int (Int32.ofInt (q : Int)), .int (Int32.ofInt ((jT (zs.take k)).length : Int)), .int (Int32.ofInt (k : Nat)), pm_U, pm_U, pm_U, pm_U]) (rTs r).length (fun k hk next => ?_) (by rw [← zl, List.take_length, zl]; exact fin) 0 (Nat.zero_le _)
    have hzi := List.getElem?_eq_getElem (show k < zs.length by omega)
    generalize zs[k] = z at hzi
    obtain ⟨c, t⟩ := z
    obtain ⟨j, j1, j2⟩ := hch k c t hzi
    have jl := (List.getElem?_eq_some_iff.mp j2).1
    have rt := hb.2.2.2 j t j2
    have q6 : ¬ Int32.ofInt ((rTs r).length : Int) ≤ Int32.ofInt (k : Nat) := by rw [oi_le (by omega)]; omega
    have vk := vi (show k < 6 by omega) (by omega)
    have wk := vc (show k < 2000000 by omega)
    have vj := vi (show 40 * sb + j < 520 by omega) (by omega)
    have wj := vc (show 40 * sb + j < 2000000 by omega)
    have es : Int32.ofInt ((jT (zs.take k)).length : Int) + Int32.ofInt ((rTs t).length : Int) = Int32.ofInt ((jT (zs.take (k + 1))).length : Int) := by
      rw [jT_s hzi, List.length_append, List.length_map, oi_add]; rfl
    refine w_M_joins_4 ?_
    simp only [hm.1, hm.f7, hm.t7, hm.l7, hm.f32, hm.t32, hm.l32, isr_ref, rv_ref, vR, wR, r0.2.2.2.2.1, q6, vk, wk, j1, vj, wj, rt.2.2.2.2.1, es, not_false_eq_true, false_implies, true_implies, true_and, forall_eq, oi_s]
    exact next
  refine many ?_
  have v4 : vp_in (4 : Int32) 13 := by rw [vp_in_iff]; decide
  have c4 : (4 : Int32).toNatClampNeg = 4 := by decide
  have over : joinA r n q g zs (ps, rs) = none → pm_R 1 236 34 [.ref m, .int (Int32.ofInt (n : Int)), .int (Int32.ofInt ((40 * sa + i : Nat) : Int)), .int (Int32.ofInt (q : Int)), pm_U, pm_U, pm_U, pm_U, pm_U, pm_U] [] (pm_sF σ 1241 m (.int ((1 : Int32)))) (fun o σ' => o = .inl none ∧ mxS σ' m S (joinA r n q g zs (ps, rs)) ∧ jnF m σ σ') := by
    intro e
    have x1 : iv (pm_F (pm_sF σ 1241 m (.int ((1 : Int32)))) 1241 m) = 1 := by rw [F_sF, if_pos ⟨rfl, rfl⟩]; rfl
    refine w_M_joins_34 ⟨hm.1, fun z ez => ⟨fun q => ?_, fun _ => ⟨rfl, ?_, ?_⟩⟩⟩
    · rw [ez, x1] at q; exact absurd q (by decide)
    · rw [e]; exact x1
    · exact frX_sF.mono (fun _ q => Or.inr q) (fun _ q => q.elim) (fun _ q => q.elim)
  have jun : joinA r n q g zs (ps, rs) = if 12 ≤ fnd (rT r * 12 + q) ps then none else if 40 ≤ rs.length then none else if 6 < (jT zs).length then none else some (addP (rT r * 12 + q) ps, rs ++ [(n, fnd (rT r * 12 + q) ps, (mk g).1, (mk g).2, jT zs)]) := rfl
  have jn1 : 6 < (jT zs).length → joinA r n q g zs (ps, rs) = none := fun h => by
    rw [jun]; split
    · rfl
    · split
      · rfl
      · first | rfl | rw [if_pos h]
  have jn2 : rs.length = 40 → joinA r n q g zs (ps, rs) = none := fun h => by
    rw [jun]; split
    · rfl
    · rw [if_pos (by omega)]
  refine w_M_joins_4 ?_
  simp only [hm.1, hm.f7, hm.t7, hm.l7, hm.f2, hm.t2, hm.l2, isr_ref, rv_ref, vR, wR, r0.2.2.2.2.1, v4, c4, hT.2.1, true_and, forall_eq]
  rw [n6lt (by omega), n40 (by omega)]
  refine ⟨fun _ => ⟨fun c6 => ⟨rfl, over (jn1 c6)⟩, fun c6 => ⟨fun c40 => ⟨rfl, over (jn2 c40)⟩, fun c40 => ?_⟩⟩, fun q => absurd (Int32.le_refl _) q⟩
  clear many over
  refine w_M_joins_34 ?_
  simp only [hm.1, h0, hm.f4, hm.t4, hm.l4, isr_ref, rv_ref, vR, wR, r0.2.1, not_true_eq_false, false_implies, true_implies, and_true, true_and, forall_eq]
  refine (s_M_finds hm hP rT12 hq).use (by omega) (fun σ1 p1 => ?_)
  obtain ⟨f1, p1⟩ := p1
  have F1 : jnF m σ σ1 := frX.mono f1 (fun _ q => q) (fun _ q => Or.inr q) (fun _ q => q.elim)
  have m1 := jnF_mS F1 hm
  have fl := fnd_le (rT r * 12 + q) ps
  have pl := hP.2.1.1
  have k12 : (if 12 ≤ fnd (rT r * 12 + q) ps then 0 else fnd (rT r * 12 + q) ps) < 12 := by split <;> omega
  have hk0 : ¬ 12 ≤ fnd (rT r * 12 + q) ps → (if 12 ≤ fnd (rT r * 12 + q) ps then 0 else fnd (rT r * 12 + q) ps) = fnd (rT r * 12 + q) ps := fun h => if_neg h
  generalize (if 12 ≤ fnd (rT r * 12 + q) ps then 0 else fnd (rT r * 12 + q) ps) = k0 at *
  have okW : okTr (S, rs) := ⟨hS, hR⟩
  have t4 := frX.T f1 hT okW id
  have okW1 : okTr (S, rs ++ [((n, k0, 0, 0, []) : Rl)]) := ⟨hS, fun y hy => by
    rcases List.mem_append.mp hy with x | x
    · exact hR y x
    · rw [List.mem_singleton.mp x]
      exact ⟨hn, k12, okG_0, by show 0 ≤ 6; omega, fun u hu => by cases hu⟩⟩
  have e4 : (4 : Int32) = Int32.ofInt ((4 : Nat) : Int) := rfl
  rw [e4]
  refine ⟨m1.1, (s_M_opens (x := n) (y := k0) m1 t4 okW (by omega) (show rs.length < 40 by omega)).use (by omega) (fun σ2 p2 => ?_)⟩
  dsimp only at p2
  have m2 := p2.2.mS m1
  have hk : (rs ++ [((n, k0, 0, 0, []) : Rl)])[rs.length]? = some (n, k0, 0, 0, []) := by simp
  have ru2 := p2.1.2.2.2 rs.length _ hk
  have ha2 := p2.2.mTr (frX.T f1 ha hA id) hA (by omega)
  have hb2 := p2.2.mTr (frX.T f1 hb hB id) hB (by omega)
  have A33 : ∀ s, s < 100 → iv (pm_A σ2 (m + 33) (100 * (rTs r).length + s)) = bI (F s) := fun s hs => by
    rw [p2.2.1.A (by omega), f1.A (by omega) (by omega)]; exact hF s hs
  have ch2 : mcC σ2 m sb B zs := fun k c t h => by
    rw [p2.2.1.A (by omega), f1.A (by omega) (by omega)]; exact hch k c t h
  have fin : ∀ τ, mRu τ m (40 * 4 + rs.length) (n, k0, (mk F).1, (mk F).2, jT zs) → frR m (40 * 4 + rs.length) σ2 τ → mxS τ m S (joinA r n q g zs (ps, rs)) ∧ jnF m σ τ := by
    intro τ h1 h2
    have fM : frM m (fun s => s = 4) σ1 τ := p2.2.tr (h2.M (by omega) (by omega))
    have fJ : jnF m σ τ := frX.tr F1 (frX.mono fM.X (fun _ q => q.elim) (fun _ q => Or.inl q) (fun _ q => q))
    refine ⟨?_, fJ⟩
    rw [jun]
    by_cases c : 12 ≤ fnd (rT r * 12 + q) ps
    · rw [if_pos c] at p1 ⊢
      show iv (pm_F τ 1241 m) = 1
      rw [fM.X.F id]; exact p1
    · rw [if_neg c] at p1 ⊢
      rw [if_neg (by omega), if_neg c6]
      have t5 := mTr_upd p2.1 okW1 (k := rs.length) (by simp) h2 h1
      dsimp only at t5
      rw [mid_set rfl, em.1, em.2] at t5
      have e0 := hk0 c
      rw [e0] at t5
      refine ⟨by rw [fM.X.F id, p1.2]; exact h0, mpP_X p1.1 fM.X id ⟨by omega, by omega⟩, t5, fun r' hr' => ?_⟩
      rcases List.mem_append.mp hr' with x | x
      · exact hR r' x
      · rw [List.mem_singleton.mp x]
        exact ⟨hn, by show fnd (rT r * 12 + q) ps < 12; omega, mk_g g, by show (jT zs).length ≤ 6; omega, fun u hu => okZ_u hZ hu⟩
  have c0l : 40 * 4 + rs.length < 520 := by omega
  have cne1 : 40 * sa + i ≠ 40 * 4 + rs.length := by omega
  have cne2 : ∀ j, j < 40 → 40 * sb + j ≠ 40 * 4 + rs.length := fun j hj => by omega
  generalize 40 * 4 + rs.length = c0 at *
  have rk2 : ∀ τ, frR m c0 σ2 τ → mRu τ m (40 * sa + i) r := fun τ h => mRu_eq (ha2.2.2.2 i r hr) l6 (h.2 _ cne1)
  have tk2 : ∀ τ, frR m c0 σ2 τ → ∀ j t, B.2[j]? = some t → mRu τ m (40 * sb + j) t := fun τ h j t ht => mRu_eq (hb2.2.2.2 j t ht) (hB.at ht).2.2.2.1 (h.2 _ (cne2 j (by have := (List.getElem?_eq_some_iff.mp ht).1; omega)))
  -- the symbols
  refine lp (fun s => [.ref m, pm_U, .int (Int32.ofInt ((40 * sa + i : Nat) : Int)), pm_U, pm_U, .int (Int32.ofInt (c0 : Int)), .int (Int32.ofInt (s : Nat)), pm_U, pm_U, pm_U]) (fun s τ => mRu τ m c0 (n, k0, (mkS F s).1, (mkS F s).2, []) ∧ frR m c0 σ2 τ) 100 (fun s hs τ hh next => ?_) (fun τ hh => ?_) 0 (Nat.zero_le _) σ2 ⟨ru2, frR.rf⟩
  · obtain ⟨j1, j2⟩ := hh
    have mt := j2.mS m2
    have rk := rk2 τ j2
    have vf := vi (show 100 * (rTs r).length + s < 700 by omega) (by omega)
    have wf := vc (show 100 * (rTs r).length + s < 2000000 by omega)
    have af : iv (pm_A τ (m + 33) (100 * (rTs r).length + s)) = bI (F s) := by rw [j2.1.A (by omega)]; exact A33 s hs
    have ms : mkS F (s + 1) = if F s then (addLo (mkS F s).1 s, addHi (mkS F s).2 s) else mkS F s := rfl
    refine w_M_joins_52 ⟨fun q => ?_, fun _ => ?_⟩
    · rw [i32_100 (by omega)] at q; omega
    simp only [mt.1, mt.f33, mt.t33, mt.l33, mt.f7, mt.t7, mt.l7, isr_ref, rv_ref, vR, wR, rk.2.2.2.2.1, oi_100, vf, wf, af, true_and, forall_eq, oi_s]
    rw [bI_0, Bool.not_eq_false]
    refine ⟨fun e => next τ ⟨?_, j2⟩, fun e => (s_M_adds mt j1 c0l hs).use (by omega) (fun τ2 p => next τ2 ⟨?_, j2.tr p.2⟩)⟩
    · rw [ms, if_neg (by rw [e]; decide)]; exact j1
    · rw [ms, if_pos e]; exact p.1
  · obtain ⟨j1, j2⟩ := hh
    refine w_M_joins_52 ⟨fun _ => ?_, fun q => absurd (Int32.le_refl _) q⟩
    refine lp (fun k => [.ref m, pm_U, .int (Int32.ofInt ((40 * sa + i : Nat) : Int)), pm_U, pm_U, .int (Int32.ofInt (c0 : Int)), .int (Int32.ofInt (k : Nat)), pm_U, pm_U, pm_U]) (fun k τ => mRu τ m c0 (n, k0, (mk F).1, (mk F).2, jT (zs.take k)) ∧ frR m c0 σ2 τ) (rTs r).length (fun k hk τ hh next => ?_) (fun τ hh => ?_) 0 (Nat.zero_le _) τ ⟨j1, j2⟩
    · obtain ⟨j1, j2⟩ := hh
      have mt := j2.mS m2
      have rk := rk2 τ j2
      have hzi := List.getElem?_eq_getElem (show k < zs.length by omega)
      generalize zs[k] = z at hzi
      obtain ⟨c, t⟩ := z
      have zok := hZ _ (List.mem_of_getElem? hzi)
      have js := jT_s hzi
      have jl := jT_le zs (k + 1)
      rw [js, List.length_append, List.length_map] at jl
      have tl : (rTs t).length ≤ 6 := zok.2.1.2.2.2.1
      have hrc : (rTs r)[k]? = some c := by rw [← hz, List.getElem?_map, hzi]; rfl
      obtain ⟨j, hj1, hj2⟩ := ch2 k c t hzi
      have jlt := (List.getElem?_eq_some_iff.mp hj2).1
      have q6 : ¬ Int32.ofInt ((rTs r).length : Int) ≤ Int32.ofInt (k : Nat) := by rw [oi_le (by omega)]; omega
      have vk := vi (show k < 6 by omega) (by omega)
      have wk := vc (show k < 2000000 by omega)
      have vj := vi (show 40 * sb + j < 520 by omega) (by omega)
      have wj := vc (show 40 * sb + j < 2000000 by omega)
      have v9 := vi (show 6 * (40 * sa + i) + k < 3120 by omega) (by omega)
      have w9 := vc (show 6 * (40 * sa + i) + k < 2000000 by omega)
      refine w_M_joins_75 ?_
      simp only [mt.1, mt.f7, mt.t7, mt.l7, isr_ref, rv_ref, vR, wR, rk.2.2.2.2.1, q6, not_false_eq_true, false_implies, true_implies, true_and, forall_eq]
      refine lp (fun l => [.ref m, pm_U, .int (Int32.ofInt ((40 * sa + i : Nat) : Int)), pm_U, pm_U, .int (Int32.ofInt (c0 : Int)), .int (Int32.ofInt (k : Nat)), .int (Int32.ofInt (l : Nat)), pm_U, pm_U]) (fun l τ => mRu τ m c0 (n, k0, (mk F).1, (mk F).2, jT (zs.take k) ++ ((rTs t).take l).map (outT2 c)) ∧ frR m c0 σ2 τ) (rTs t).length (fun l hl τ hh next1 => ?_) (fun τ hh => ?_) 0 (Nat.zero_le _) τ ⟨by rw [List.take_zero, List.map_nil, List.append_nil]; exact j1, j2⟩
      · obtain ⟨k1, k2⟩ := hh
        have mt := k2.mS m2
        have rk := rk2 τ k2
        have tt := tk2 τ k2 j t hj2
        have hu := List.getElem?_eq_getElem hl
        generalize (rTs t)[l] = u at hu
        have um := List.mem_of_getElem? hu
        have uok := zok.2.2 u um
        have okc := zok.1
        have oku := zok.2.1.2.2.2.2 u um
        have tvo := tv_out okc oku uok.1 uok.2
        have ms := map_take_s (f := outT2 c) hu
        have aj : iv (pm_A τ (m + 32) k) = Int32.ofInt ((40 * sb + j : Nat) : Int) := by rw [k2.1.A (by omega)]; exact hj1
        have q7 : ¬ Int32.ofInt ((rTs t).length : Int) ≤ Int32.ofInt (l : Nat) := by rw [oi_le (by omega)]; omega
        have v8 := vi (show 6 * (40 * sb + j) + l < 3120 by omega) (by omega)
        have w8 := vc (show 6 * (40 * sb + j) + l < 2000000 by omega)
        have tu := tt.2.2.2.2.2 l u hu
        have tc := rk.2.2.2.2.2 k c hrc
        have ll : (jT (zs.take k) ++ ((rTs t).take l).map (outT2 c)).length < 6 := by
          rw [List.length_append, List.length_map, List.length_take]; omega
        have app : ∀ σ', (mRu σ' m c0 (rApp (n, k0, (mk F).1, (mk F).2, jT (zs.take k) ++ ((rTs t).take l).map (outT2 c)) (outT2 c u)) ∧ frR m c0 τ σ') → mRu σ' m c0 (n, k0, (mk F).1, (mk F).2, jT (zs.take k) ++ ((rTs t).take (l + 1)).map (outT2 c)) ∧ frR m c0 σ2 σ' := fun σ' h => by
          refine ⟨?_, k2.tr h.2⟩
          have h1 := h.1
          unfold rApp at h1
          replace h1 : mRu σ' m c0 (n, k0, (mk F).1, (mk F).2, (jT (zs.take k) ++ ((rTs t).take l).map (outT2 c)) ++ [outT2 c u]) := h1
          rw [List.append_assoc, ← ms] at h1
          exact h1
        have key : ∀ xs : Int32, xs = bI (decide (100 ≤ outT2 c u)) → pm_R 1 236 122 [.ref m, pm_U, .int (Int32.ofInt ((40 * sa + i : Nat) : Int)), pm_U, pm_U, .int (Int32.ofInt (c0 : Int)), .int (Int32.ofInt (k : Nat)), .int (Int32.ofInt (l : Nat)), .int (Int32.ofInt ((6 * (40 * sb + j) + l : Nat) : Int)), .int (Int32.ofInt ((6 * (40 * sa + i) + k : Nat) : Int))] [.int xs, .int (Int32.ofInt (c0 : Int)), .ref m] τ (fun o σ' => o = .inl none ∧ mxS σ' m S (joinA r n q g zs (ps, rs)) ∧ jnF m σ σ') := by
          intro xs hx
          subst hx
          refine w_M_joins_122 ?_
          simp only [mt.1, mt.f9, mt.t9, mt.l9, mt.f8, mt.t8, mt.l8, isr_ref, rv_ref, v8, w8, v9, w9, tu.1, tu.2, tc.1, true_and, forall_eq, oi_s]
          rw [bI_0, Bool.not_eq_false]
          refine ⟨fun e => ?_, fun e => ?_⟩
          · have h100 : ¬ 100 ≤ u := of_decide_eq_false e
            rw [if_neg h100] at tvo
            exact (s_M_addsTerm (t := outT2 c u) mt k1 c0l ll tvo.1.symm rfl).use (by omega) (fun σ' p => next1 σ' (app σ' p))
          · have h100 : 100 ≤ u := of_decide_eq_true e
            rw [if_pos h100] at tvo
            rw [oi_add]
            exact (s_M_addsTerm (t := outT2 c u) mt k1 c0l ll tvo.1.symm rfl).use (by omega) (fun σ' p => next1 σ' (app σ' p))
        refine w_M_joins_83 ?_
        simp only [mt.1, mt.f7, mt.t7, mt.l7, mt.f32, mt.t32, mt.l32, mt.f9, mt.t9, mt.l9, isr_ref, rv_ref, vk, wk, aj, vj, wj, tt.2.2.2.2.1, q7, oi_row6, v8, w8, v9, w9, tu.2, tc.2, not_false_eq_true, false_implies, true_implies, true_and, forall_eq]
        rw [bI_0, bI_0, Bool.not_eq_false, Bool.not_eq_false]
        refine ⟨fun e => key 0 ?_, fun e => ⟨fun e2 => key 0 ?_, fun e2 => key 1 ?_⟩⟩
        · rw [tvo.2, e]; rfl
        · rw [tvo.2, e2, Bool.and_false]; rfl
        · rw [tvo.2, e, e2]; rfl
      · obtain ⟨k1, k2⟩ := hh
        have mt := k2.mS m2
        have tt := tk2 τ k2 j t hj2
        have aj : iv (pm_A τ (m + 32) k) = Int32.ofInt ((40 * sb + j : Nat) : Int) := by rw [k2.1.A (by omega)]; exact hj1
        rw [List.take_length, ← js] at k1
        refine w_M_joins_83 ?_
        simp only [mt.1, mt.f7, mt.t7, mt.l7, mt.f32, mt.t32, mt.l32, isr_ref, rv_ref, vk, wk, aj, vj, wj, tt.2.2.2.2.1, true_and, forall_eq, oi_s]
        exact ⟨fun _ => next τ ⟨k1, k2⟩, fun q => absurd (Int32.le_refl _) q⟩
    · obtain ⟨j1, j2⟩ := hh
      have mt := j2.mS m2
      have rk := rk2 τ j2
      rw [← zl, List.take_length] at j1
      refine w_M_joins_75 ?_
      simp only [mt.1, mt.f7, mt.t7, mt.l7, isr_ref, rv_ref, vR, wR, rk.2.2.2.2.1, true_and, forall_eq]
      exact ⟨fun _ => fin τ j1 j2, fun q => absurd (Int32.le_refl _) q⟩
