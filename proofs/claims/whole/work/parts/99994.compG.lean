/-! ===== compose: the model joins ===== -/
def mpP (τ : pm_H) (m : Nat) (ps : List Nat) : Prop := iv (pm_F τ 1240 m) = Int32.ofInt (ps.length : Int) ∧ (ps.length ≤ 12 ∧ ∀ q, q ∈ ps → q < 144) ∧ ∀ (i p : Nat), ps[i]? = some p → iv (pm_A τ (m + 30) i) = Int32.ofInt ((p / 12 : Nat) : Int) ∧ iv (pm_A τ (m + 31) i) = Int32.ofInt ((p % 12 : Nat) : Int)
theorem mpP_X {m : Nat} {Fs As Sl : Nat → Prop} {σ σ' : pm_H} {ps : List Nat} (h : mpP σ m ps) (f : frX m Fs As Sl σ σ') (h1 : ¬ Fs 1240) (h2 : ¬ As 30 ∧ ¬ As 31) : mpP σ' m ps :=
  ⟨by rw [f.F h1]; exact h.1, h.2.1, fun i p hi => by rw [f.A (by omega) h2.1, f.A (by omega) h2.2]; exact h.2.2 i p hi⟩
def fdF (m : Nat) (σ σ' : pm_H) : Prop := frX m (fun f => f = 1240 ∨ f = 1241) (fun i => i = 30 ∨ i = 31) (fun _ => False) σ σ'
def fdP (m p : Nat) (ps : List Nat) (σ σ' : pm_H) : Prop := fdF m σ σ' ∧ if 12 ≤ fnd p ps then iv (pm_F σ' 1241 m) = 1 else mpP σ' m (addP p ps) ∧ pm_F σ' 1241 m = pm_F σ 1241 m
theorem s_M_finds {σ : pm_H} {m a b : Nat} {ps : List Nat} (hm : mS σ m) (h : mpP σ m ps) (ha : a < 12) (hb : b < 12) : cIP 0 235 [.ref m, .int (Int32.ofInt (a : Int)), .int (Int32.ofInt (b : Int))] σ (Int32.ofInt ((if 12 ≤ fnd (a * 12 + b) ps then 0 else fnd (a * 12 + b) ps : Nat) : Int)) (fdP m (a * 12 + b) ps σ) := by
  have hl := h.2.1.1
  have fl := fnd_le (a * 12 + b) ps
  generalize hp : a * 12 + b = p at *
  have p144 : p < 144 := by omega
  refine w_M_finds_0 ?_
  have fin : pm_R 0 235 2 [.ref m, .int (Int32.ofInt (a : Int)), .int (Int32.ofInt (b : Int)), .int (Int32.ofInt ((fnd p ps : Nat) : Int))] [] σ (fun o σ' => o = .inl (some (.int (Int32.ofInt ((if 12 ≤ fnd p ps then 0 else fnd p ps : Nat) : Int)))) ∧ fdP m p ps σ σ') := by
    by_cases c : fnd p ps < ps.length
    · have q6 : ¬ Int32.ofInt (ps.length : Int) ≤ Int32.ofInt ((fnd p ps : Nat) : Int) := by rw [oi_le (by omega)]; omega
      have v := vi (show fnd p ps < 12 by omega) (by omega)
      have w := vc (show fnd p ps < 2000000 by omega)
      have at0 := h.2.2 _ _ (fnd_eq ps c)
      have e1 : p / 12 = a := by omega
      have e2 : p % 12 = b := by omega
      rw [e1, e2] at at0
      refine w_M_finds_2 ?_
      rw [if_neg (by omega)]
      simp only [hm.1, h.1, hm.f30, hm.t30, hm.l30, hm.f31, hm.t31, hm.l31, q6, v, w, at0.1, at0.2, iv_int, isr_ref, rv_ref, not_false_eq_true, false_implies, true_implies, true_and, forall_eq, and_true, not_true_eq_false]
      refine ⟨frX.rf, ?_⟩
      rw [if_neg (by omega)]
      have ea : addP p ps = ps := if_pos c
      rw [ea]
      exact ⟨h, rfl⟩
    · have ce : fnd p ps = ps.length := by omega
      rw [ce]
      by_cases c12 : ps.length < 12
      · have v := vi (show ps.length < 12 by omega) (by omega)
        have w := vc (show ps.length < 2000000 by omega)
        have ea : addP p ps = ps ++ [p] := by unfold addP; rw [if_neg c, if_pos c12]
        have n12 : ¬ Int32.ofInt (ps.length : Int) = 12 := by
          refine fun q => absurd ((oi_eql (n := 12) ⟨by omega, by decide⟩).mp q) ?_
          show ¬ (ps.length : Int) = 12
          omega
        have post : fdP m p ps σ (pm_sF (pm_sA (pm_sA σ (m + 30) ps.length (.int (Int32.ofInt (a : Int)))) (m + 31) ps.length (.int (Int32.ofInt (b : Int)))) 1240 m (.int (Int32.ofInt ((ps.length + 1 : Nat) : Int)))) := by
          have f1 : fdF m σ (pm_sA σ (m + 30) ps.length (.int (Int32.ofInt (a : Int)))) := (frX_sA (i := 30) (by omega) (by omega)).mono (fun _ q => q.elim) (fun _ q => Or.inl q) (fun _ q => q)
          have f2 : fdF m (pm_sA σ (m + 30) ps.length (.int (Int32.ofInt (a : Int)))) (pm_sA (pm_sA σ (m + 30) ps.length (.int (Int32.ofInt (a : Int)))) (m + 31) ps.length (.int (Int32.ofInt (b : Int)))) := (frX_sA (i := 31) (by omega) (by omega)).mono (fun _ q => q.elim) (fun _ q => Or.inr q) (fun _ q => q)
          refine ⟨frX.tr (frX.tr f1 f2) (frX_sF.mono (fun _ q => Or.inl q) (fun _ q => q.elim) (fun _ q => q)), ?_⟩
          rw [if_neg (by omega), ea]
          refine ⟨⟨?_, ⟨?_, fun q hq => ?_⟩, fun i q hq => ?_⟩, ?_⟩
          · rw [F_sF, if_pos ⟨rfl, rfl⟩, List.length_append]; rfl
          · rw [List.length_append]; show ps.length + 1 ≤ 12; omega
          · rcases List.mem_append.mp hq with q1 | q1
            · exact h.2.1.2 q q1
            · rw [List.mem_singleton.mp q1]; exact p144
          · rw [A_sF, A_sF, A_sA, if_neg (by omega), A_sA]
            by_cases ci : i = ps.length
            · subst ci
              rw [List.getElem?_append_right (Nat.le_refl _), Nat.sub_self] at hq
              cases hq
              rw [if_pos ⟨rfl, rfl⟩, A_sA, if_pos ⟨rfl, rfl⟩]
              refine ⟨?_, ?_⟩
              · rw [show p / 12 = a by omega]; rfl
              · rw [show p % 12 = b by omega]; rfl
            · have li := (List.getElem?_eq_some_iff.mp hq).1
              rw [List.length_append] at li
              replace li : i < ps.length + 1 := li
              rw [List.getElem?_append_left (by omega)] at hq
              rw [if_neg (fun x => ci x.2), A_sA, if_neg (fun x => ci x.2), A_sA, if_neg (by omega)]
              exact h.2.2 i q hq
          · rw [F_sF, if_neg (by omega), F_sA, F_sA]
        generalize hP : fdP m p ps σ = P at post ⊢
        refine w_M_finds_2 ?_
        rw [if_neg (by omega)]
        simp only [hm.1, h.1, hm.f30, hm.t30, hm.l30, hm.f31, hm.t31, hm.l31, v, w, n12, t_sA, l_sA, iv_int, isr_ref, rv_ref, F_sA, F_sF, t_sF, and_self, if_true, not_false_eq_true, false_implies, true_implies, true_and, forall_eq, oi_s, oi_pm1]
        exact ⟨fun _ => post, fun q => absurd (Int32.le_refl _) q⟩
      · have e12 : ps.length = 12 := by omega
        have post : fdP m p ps σ (pm_sF σ 1241 m (.int ((1 : Int32)))) := by
          refine ⟨frX_sF.mono (fun _ q => Or.inr q) (fun _ q => q.elim) (fun _ q => q), ?_⟩
          rw [if_pos (by omega), F_sF, if_pos ⟨rfl, rfl⟩]; rfl
        generalize hP : fdP m p ps σ = P at post ⊢
        refine w_M_finds_2 ?_
        rw [if_pos (by omega)]
        simp only [hm.1, h.1, e12, iv_int, true_and, forall_eq]
        exact ⟨fun _ => ⟨fun _ => ⟨rfl, rfl, post⟩, fun q => absurd rfl q⟩, fun q => absurd (Int32.le_refl _) q⟩
  refine lp0 (fun i => [.ref m, .int (Int32.ofInt (a : Int)), .int (Int32.ofInt (b : Int)), .int (Int32.ofInt (i : Nat))]) (fnd p ps) (fun i hi next => ?_) fin 0 (Nat.zero_le _)
  have hq := List.getElem?_eq_getElem (show i < ps.length by omega)
  generalize ps[i] = q at hq
  have ne := fnd_lt ps i q hi hq
  have q1 := h.2.1.2 q (List.mem_of_getElem? hq)
  have q6 : ¬ Int32.ofInt (ps.length : Int) ≤ Int32.ofInt (i : Nat) := by rw [oi_le (by omega)]; omega
  have v := vi (show i < 12 by omega) (by omega)
  have w := vc (show i < 2000000 by omega)
  refine w_M_finds_2 ?_
  simp only [hm.1, h.1, hm.f30, hm.t30, hm.l30, hm.f31, hm.t31, hm.l31, q6, v, w, (h.2.2 i q hq).1, (h.2.2 i q hq).2, iv_int, isr_ref, rv_ref, not_false_eq_true, false_implies, true_implies, true_and, forall_eq, oi_s]
  refine ⟨fun x => ⟨fun y => ?_, fun _ => next⟩, fun _ => next⟩
  rw [oi_eq (by omega)] at x y
  omega
theorem tv_out {c u : Nat} (hc : okT c) (hu : okT u) (ho : okT (outT2 c u)) (h : 100 ≤ u → 1000 ≤ c + u) : tv (outT2 c u) = (if 100 ≤ u then tv c + tv u else tv u) ∧ decide (100 ≤ outT2 c u) = (decide (100 ≤ u) && decide (100 ≤ c)) := by
  unfold okT at hc hu ho
  unfold outT2 at ho ⊢
  by_cases c1 : u < 100
  · rw [if_pos c1, if_neg (by omega), decide_eq_false (by omega), Bool.false_and]
    exact ⟨rfl, rfl⟩
  · rw [if_neg c1] at ho ⊢
    have h1 := h (by omega)
    rw [if_pos (by omega), decide_eq_true (show 100 ≤ u by omega), Bool.true_and]
    unfold tv
    rw [if_neg c1]
    by_cases c2 : c < 100
    · rw [if_pos c2, if_pos (by omega)]
      refine ⟨by omega, ?_⟩
      rw [decide_eq_decide]; omega
    · rw [if_neg c2, if_neg (by omega)]
      refine ⟨by omega, ?_⟩
      rw [decide_eq_decide]; omega
