/-! ===== transducers: copying and removing ===== -/
/-- the object of a transducer, with whatever rules -/
def isTr0 (σ : pm_H) (a : Nat) (π : Nat → Nat) : Prop := trS σ a ∧ trP σ a π
theorem isTr.z {σ : pm_H} {a : Nat} {T : Tr} {π : Nat → Nat} (h : isTr σ a T π) : isTr0 σ a π := ⟨h.1, h.2.1⟩
theorem isTr0_fr {P : Nat → Prop} {σ σ' : pm_H} {a : Nat} {π : Nat → Nat} (h : isTr0 σ a π) (hf : fr P σ σ') (hp : ∀ b, pTr a b → ¬ P b) : isTr0 σ' a π := by
  obtain ⟨⟨h1, h2, h3, h4, h5⟩, ⟨g1, g2⟩⟩ := h
  have p0 := hp a ⟨by omega, by omega⟩
  have p1 := hp (a + 1) ⟨by omega, by omega⟩
  exact ⟨⟨by rw [hf.t, h1], by rw [hf.F p0, h2], by rw [hf.t, h3], by rw [hf.l, h4], fun k hk => ruS_fr (h5 k hk) hf (hp _ ⟨by omega, by omega⟩)⟩, ⟨fun k hk => ⟨(g1 k hk).1, by rw [hf.A p1, (g1 k hk).2]⟩, g2⟩⟩
/-- a rule's object changes, the transducer's object stays one -/
theorem isTr0_ru {σ σ' : pm_H} {a k : Nat} {π : Nat → Nat} (h : isTr0 σ a π) (hk : k < 40) (hf : fr (pRu (a + 2 + 3 * k)) σ σ') (hr : ruS σ' (a + 2 + 3 * k)) : isTr0 σ' a π := by
  obtain ⟨⟨h1, h2, h3, h4, h5⟩, ⟨g1, g2⟩⟩ := h
  have p0 : ¬ pRu (a + 2 + 3 * k) a := fun q => by have := q.1; omega
  have p1 : ¬ pRu (a + 2 + 3 * k) (a + 1) := fun q => by have := q.1; omega
  refine ⟨⟨by rw [hf.t, h1], by rw [hf.F p0, h2], by rw [hf.t, h3], by rw [hf.l, h4], fun j hj => ?_⟩, ⟨fun j hj => ⟨(g1 j hj).1, by rw [hf.A p1, (g1 j hj).2]⟩, g2⟩⟩
  by_cases e : j = k
  · subst e; exact hr
  · exact ruS_fr (h5 j hj) hf (fun q => by have := q.1; have := q.2; omega)
theorem s_Tr_copyFrom {σ : pm_H} {a b : Nat} {T : Tr} {π π' : Nat → Nat} (h : isTr0 σ a π) (h' : isTr σ b T π') (hts : okTr T) (hd : (b = a ∧ π' = π) ∨ b + 122 ≤ a ∨ a + 122 ≤ b) : cV 2 96 [.ref a, .ref b] σ (fun σ' => isTr σ' a T π ∧ fr (pTr a) σ σ') := by
  have hl := h'.2.2.2.2.1
  refine w_Tr_copyFrom_0 ?_
  have key := lp (d := 2) (m := 96) (k := 2) (Q := fun o σ' => o = .inl none ∧ isTr σ' a T π ∧ fr (pTr a) σ σ') (fun i => [.ref a, .ref b, .int (Int32.ofInt (i : Nat))]) (fun i τ => isTr0 τ a π ∧ isTr τ b T π' ∧ fr (pTr a) σ τ ∧ ∀ k r, k < i → T.2[k]? = some r → isRu τ (a + 2 + 3 * π k) r) T.2.length ?_ ?_ 0 (Nat.zero_le _) σ ⟨h, h', fr.rf, fun k r hk => absurd hk (Nat.not_lt_zero _)⟩
  · exact key
  · rintro i hi τ ⟨i1, i2, i3, i4⟩ next
    have hr := List.getElem?_eq_getElem hi
    obtain ⟨qi, qc, qa, qr⟩ := i2.at hr
    have q6 : ¬ Int32.ofInt (T.2.length) ≤ Int32.ofInt (i : Nat) := by rw [oi_le (by omega)]; omega
    have hb := i1.2.1 i (by omega)
    have hb' := i2.2.1.1 i (by omega)
    have hS := i1.1.2.2.2.2 _ hb.1
    refine w_Tr_copyFrom_2 ?_
    simp only [i2.1.1, i2.2.2.1, iv_int, q6, not_false_eq_true, false_implies, true_implies, true_and, forall_eq, i1.1.1, i1.1.2.1, i1.1.2.2.1, i1.1.2.2.2.1, i2.1.2.1, i2.1.2.2.1, i2.1.2.2.2.1, isr_ref, rv_ref, qi, qc, qa, hb.2, hS.1]
    refine (s_Ru_copyFrom hS qr (okTr.at hts hr).2.2.2.1).use (Nat.le_refl _) (fun σ' ⟨r1, r2⟩ => ?_)
    rw [oi_s]
    refine next σ' ⟨isTr0_ru i1 hb.1 r2 r1.1, ?_, i3.tr (r2.mono (fun c q => ⟨by have := q.1; omega, by have := q.2; omega⟩)), fun k r hk hkr => ?_⟩
    · rcases hd with ⟨rfl, rfl⟩ | hd
      · have := isTr_upd i2 hi r2 r1
        rw [List.set_getElem_self] at this
        exact this
      · exact isTr_fr i2 r2 (fun c hc q => by have := q.1; have := q.2; have := hc.1; have := hc.2; omega)
    · by_cases e : k = i
      · subst e
        rw [hr] at hkr
        cases hkr
        exact r1
      · have : π k ≠ π i := fun q => e (i1.2.2 k i (by omega) (by omega) q)
        exact isRu_fr (i4 k r (by omega) hkr) r2 (fun c hc q => by have := q.1; have := q.2; have := hc.1; have := hc.2; omega)
  · rintro τ ⟨i1, i2, i3, i4⟩
    have q6 : Int32.ofInt (T.2.length) ≤ Int32.ofInt (T.2.length) := Int32.le_refl _
    refine w_Tr_copyFrom_2 ?_
    simp only [i2.1.1, i2.2.2.1, i2.2.2.2.1, iv_int, q6, not_true_eq_false, false_implies, true_implies, true_and, and_true, forall_eq, i1.1.1, t_sF, F_sF, Nat.reduceEqDiff, false_and, if_false]
    have pa : pTr a a := ⟨by omega, by omega⟩
    have hf2 : fr (fun c => c = a) τ (pm_sF (pm_sF τ 901 a (.int (Int32.ofInt T.2.length))) 902 a (.int (Int32.ofInt T.1))) := (fr_sF (P := fun c => c = a) rfl).tr (fr_sF (P := fun c => c = a) rfl)
    refine ⟨?_, i3.tr (hf2.mono (fun c q => by subst q; exact pa))⟩
    obtain ⟨⟨h1, h2, h3, h4, h5⟩, ⟨g1, g2⟩⟩ := i1
    refine ⟨⟨h1, ?_, h3, h4, fun k hk => ruS_fr (h5 k hk) hf2 (by omega)⟩, ⟨fun k hk => ⟨(g1 k hk).1, (g1 k hk).2⟩, g2⟩, ?_, ?_, hl, fun k r hr => ?_⟩
    · simp only [F_sF, Nat.reduceEqDiff, false_and, if_false, h2]
    · simp only [F_sF, Nat.reduceEqDiff, false_and, if_false, true_and, if_true, iv_int]
    · simp only [F_sF, true_and, if_true, iv_int]
    · exact isRu_fr (i4 k r (List.getElem?_eq_some_iff.mp hr).1 hr) hf2 (fun c hc q => by have := hc.1; omega)
/-- how removing moves the objects -/
def πrm (π : Nat → Nat) (k n : Nat) (j : Nat) : Nat := if k ≤ j ∧ j + 1 < n then π (j + 1) else if j + 1 = n then π k else π j
theorem s_Tr_remove {σ : pm_H} {a k : Nat} {T : Tr} {π : Nat → Nat} (h : isTr σ a T π) (hk : k < T.2.length) : cV 0 99 [.ref a, .int (Int32.ofInt k)] σ (fun σ' => isTr σ' a (T.1, T.2.eraseIdx k) (πrm π k T.2.length) ∧ fr (pTr a) σ σ') := by
  have hl := h.2.2.2.2.1
  have hr := List.getElem?_eq_getElem hk
  obtain ⟨qi, qc, qa, qr⟩ := h.at hr
  obtain ⟨⟨h1, h2, h3, h4, h5⟩, ⟨g1, g2⟩, e1, e2, e3, e4⟩ := h
  have pa : pTr a a := ⟨by omega, by omega⟩
  have pa1 : pTr a (a + 1) := ⟨by omega, by omega⟩
  refine w_Tr_remove_0 ?_
  simp only [h1, h2, h3, h4, isr_ref, rv_ref, qi, qc, qa, true_and, forall_eq]
  rw [oi_s]
  have key := lp (d := 0) (m := 99) (k := 9) (Q := fun o σ' => o = .inl none ∧ isTr σ' a (T.1, T.2.eraseIdx k) (πrm π k T.2.length) ∧ fr (pTr a) σ σ') (fun i => [.ref a, pm_U, .ref (a + 2 + 3 * π k), .int (Int32.ofInt (i : Nat))]) (fun i τ => k < i ∧ fr (fun b => b = a + 1) σ τ ∧ ∀ j, pm_A τ (a + 1) j = if k ≤ j ∧ j + 1 < i then pm_A σ (a + 1) (j + 1) else pm_A σ (a + 1) j) T.2.length ?_ ?_ (k + 1) hk σ ⟨by omega, fr.rf, fun j => by rw [if_neg (by omega)]⟩
  · exact key
  · rintro i hi τ ⟨i1, i2, i3⟩ next
    have q6 : ¬ Int32.ofInt (T.2.length) ≤ Int32.ofInt (i : Nat) := by rw [oi_le (by omega)]; omega
    have pn : ¬ (a = a + 1) := by omega
    have ei : Int32.ofInt (i : Nat) - 1 = Int32.ofInt ((i : Int) - 1) := oi_subl _ _
    have qi1 : vp_in (Int32.ofInt ((i : Int) - 1)) 40 := (oi_in (by omega)).mpr (by omega)
    have qc1 : (Int32.ofInt ((i : Int) - 1)).toNatClampNeg = i - 1 := by rw [oi_nc (by omega)]; omega
    have qi2 : vp_in (Int32.ofInt (i : Int)) 40 := (oi_in (by omega)).mpr (by omega)
    have qc2 : (Int32.ofInt (i : Int)).toNatClampNeg = i := by rw [oi_nc (by omega), nat_tn]
    have ea : pm_A τ (a + 1) i = .ref (a + 2 + 3 * π i) := by rw [i3, if_neg (by omega), (g1 i (by omega)).2]
    refine w_Tr_remove_9 ?_
    simp only [i2.t, i2.l, h1, h3, h4, i2.F pn, h2, e1, iv_int, q6, not_false_eq_true, false_implies, true_implies, true_and, forall_eq, isr_ref, rv_ref, ei, qi1, qc1, qi2, qc2, ea, (h5 _ (g1 i (by omega)).1).1]
    rw [oi_s]
    refine next _ ⟨by omega, i2.tr (fr_sA (P := fun b => b = a + 1) rfl), fun j => ?_⟩
    rw [A_sA]
    by_cases ej : j = i - 1
    · subst ej
      rw [if_pos ⟨rfl, rfl⟩, if_pos (by omega), show i - 1 + 1 = i by omega, (g1 i (by omega)).2]
    · rw [if_neg (by omega), i3]
      by_cases ej2 : k ≤ j ∧ j + 1 < i
      · rw [if_pos ej2, if_pos (by omega)]
      · rw [if_neg ej2, if_neg (by omega)]
  · rintro τ ⟨i1, i2, i3⟩
    have q6 : Int32.ofInt (T.2.length) ≤ Int32.ofInt (T.2.length) := Int32.le_refl _
    have pn : ¬ (a = a + 1) := by omega
    have ei : Int32.ofInt (T.2.length : Nat) - 1 = Int32.ofInt ((T.2.length : Int) - 1) := oi_subl _ _
    have qi1 : vp_in (Int32.ofInt ((T.2.length : Int) - 1)) 40 := (oi_in (by omega)).mpr (by omega)
    have qc1 : (Int32.ofInt ((T.2.length : Int) - 1)).toNatClampNeg = T.2.length - 1 := by rw [oi_nc (by omega)]; omega
    refine w_Tr_remove_9 ?_
    simp only [i2.t, i2.l, h1, h3, h4, i2.F pn, h2, e1, iv_int, q6, not_true_eq_false, false_implies, true_implies, true_and, and_true, forall_eq, isr_ref, rv_ref, ei, qi1, qc1, (h5 _ (g1 k (by omega)).1).1, t_sA, F_sA]
    have hf2 : fr (fun c => c = a ∨ c = a + 1) σ (pm_sF (pm_sA τ (a + 1) (T.2.length - 1) (.ref (a + 2 + 3 * π k))) 901 a (.int (Int32.ofInt ((T.2.length : Int) - 1)))) := ((i2.mono (fun c q => Or.inr q)).tr (fr_sA (P := fun c => c = a ∨ c = a + 1) (Or.inr rfl))).tr (fr_sF (P := fun c => c = a ∨ c = a + 1) (Or.inl rfl))
    refine ⟨?_, hf2.mono (fun c q => by rcases q with rfl | rfl <;> assumption)⟩
    refine ⟨⟨by rw [hf2.t, h1], ?_, by rw [hf2.t, h3], by rw [hf2.l, h4], fun j hj => ruS_fr (h5 j hj) hf2 (by omega)⟩, ⟨fun j hj => ?_, ?_⟩, ?_, ?_, ?_, fun j r hj => ?_⟩
    · rw [F_sF, if_neg (by omega), F_sA, i2.F pn, h2]
    · by_cases ej : j = T.2.length - 1
      · have e0 : πrm π k T.2.length j = π k := by unfold πrm; rw [if_neg (by omega), if_pos (by omega)]
        rw [e0, A_sF, A_sA, if_pos ⟨rfl, ej⟩]
        exact ⟨(g1 k (by omega)).1, rfl⟩
      · by_cases ej2 : k ≤ j ∧ j + 1 < T.2.length
        · have e0 : πrm π k T.2.length j = π (j + 1) := by unfold πrm; rw [if_pos ej2]
          rw [e0, A_sF, A_sA, if_neg (fun q => ej q.2), i3, if_pos ej2]
          exact g1 (j + 1) (by omega)
        · have e0 : πrm π k T.2.length j = π j := by unfold πrm; rw [if_neg ej2, if_neg (by omega)]
          rw [e0, A_sF, A_sA, if_neg (fun q => ej q.2), i3, if_neg ej2]
          exact g1 j hj
    · intro x y hx hy exy
      unfold πrm at exy
      repeat' split at exy
      all_goals (have := g2 _ _ (by omega) (by omega) exy; omega)
    · rw [F_sF, if_pos ⟨rfl, rfl⟩, iv_int, List.length_eraseIdx, if_pos hk]
      have : ((T.2.length - 1 : Nat) : Int) = (T.2.length : Int) - 1 := by omega
      rw [this]
    · rw [F_sF, if_neg (by omega), F_sA, i2.F pn, e2]
    · rw [List.length_eraseIdx]; split <;> omega
    · dsimp only at hj
      rw [List.getElem?_eraseIdx] at hj
      have hj' : j + 1 < T.2.length ∨ (j < k) := by
        split at hj
        · right; assumption
        · left; exact (List.getElem?_eq_some_iff.mp hj).1
      have e5 : ∃ j', T.2[j']? = some r ∧ πrm π k T.2.length j = π j' := by
        unfold πrm
        split at hj
        · exact ⟨j, hj, by rw [if_neg (by omega), if_neg (by omega)]⟩
        · exact ⟨j + 1, hj, by rw [if_pos (by omega)]⟩
      obtain ⟨j', f1, f2⟩ := e5
      rw [f2]
      exact isRu_fr (e4 j' r f1) hf2 (fun c hc q => by have := hc.1; omega)
