/-! ===== the model: terms, copying, removing ===== -/
theorem vp_nb (b : Bool) : vp_nar .boolean (bI b) = bI b := by cases b <;> decide
theorem s_M_addsTerm {σ : pm_H} {m j t : Nat} {r : Rl} (hm : mS σ m) (h : mRu σ m j r) (hj : j < 520) (hl : (rTs r).length < 6) {v : Int} (hv : v = tv t) {b : Bool} (hb : b = decide (100 ≤ t)) : cV 0 183 [.ref m, .int (Int32.ofInt (j : Int)), .int (bI b), .int (Int32.ofInt v)] σ (fun σ' => mRu σ' m j (rApp r t) ∧ frR m j σ σ') := by
  obtain ⟨h1, h2, h3, h4, h5, h6⟩ := h
  have qi := vi hj (by omega)
  have qc := vc (show j < 2000000 by omega)
  have qj := vi (show 6 * j + (rTs r).length < 3120 by omega) (by omega)
  have qd := vc (show 6 * j + (rTs r).length < 2000000 by omega)
  have e1 : ∀ v, pm_A (pm_sA σ (m + 8) (6 * j + (rTs r).length) v) (m + 7) j = pm_A σ (m + 7) j := fun v => by rw [A_sA, if_neg (by omega)]
  have e2 : ∀ v w, pm_A (pm_sA (pm_sA σ (m + 8) (6 * j + (rTs r).length) v) (m + 9) (6 * j + (rTs r).length) w) (m + 7) j = pm_A σ (m + 7) j := fun v w => by rw [A_sA, if_neg (by omega), e1]
  refine w_M_addsTerm_0 ?_
  simp only [hm.1, hm.f7, hm.t7, hm.l7, hm.f8, hm.t8, hm.l8, hm.f9, hm.t9, hm.l9, isr_ref, rv_ref, qi, qc, h5, oi_row6, qj, qd, true_and, forall_eq, t_sA, l_sA, F_sA, e1, e2, vp_nb, oi_s]
  refine ⟨⟨?_, ?_, ?_, ?_, ?_, fun k t' ht => ?_⟩, ?_, fun s hs => ?_⟩
  · iterate 3 rw [A_sA, if_neg (by omega)]
    exact h1
  · iterate 3 rw [A_sA, if_neg (by omega)]
    exact h2
  · iterate 3 rw [A_sA, if_neg (by omega)]
    exact h3
  · iterate 3 rw [A_sA, if_neg (by omega)]
    exact h4
  · rw [A_sA, if_pos ⟨rfl, rfl⟩, iv_int]
    simp [rApp, rTs]
  · rcases getElem?_app1 ht with q | ⟨rfl, rfl⟩
    · have := (List.getElem?_eq_some_iff.mp q).1
      iterate 3 rw [A_sA, if_neg (by omega)]
      iterate 3 rw [A_sA, if_neg (by omega)]
      exact h6 k t' q
    · constructor
      · rw [A_sA, if_neg (by omega), A_sA, if_neg (by omega), A_sA, if_pos ⟨rfl, rfl⟩, iv_int, hv]
      · rw [A_sA, if_neg (by omega), A_sA, if_pos ⟨rfl, rfl⟩, iv_int, hb]
  · exact ((fr_sA (P := fun b => m + 3 ≤ b ∧ b ≤ m + 9) (by omega)).tr (fr_sA (by omega))).tr (fr_sA (by omega))
  · exact ((mEqR_sA (by omega)).tr (mEqR_sA (by omega))).tr (mEqR_sA (by omega))
theorem s_M_copiesRule {σ : pm_H} {m sl k tg at_ : Nat} {r : Rl} (hm : mS σ m) (h : mRu σ m (40 * sl + k) r) (hj : 40 * sl + k < 520) (hl : (rTs r).length ≤ 6) (hb : 40 * tg + at_ < 520) (hne : 40 * sl + k ≠ 40 * tg + at_) : cV 0 167 [.ref m, .int (Int32.ofInt (sl : Int)), .int (Int32.ofInt (k : Int)), .int (Int32.ofInt (tg : Int)), .int (Int32.ofInt (at_ : Int))] σ (fun σ' => mRu σ' m (40 * tg + at_) r ∧ frR m (40 * tg + at_) σ σ') := by
  obtain ⟨h1, h2, h3, h4, h5, h6⟩ := h
  have qi := vi hj (by omega)
  have qc := vc (show 40 * sl + k < 2000000 by omega)
  have qj := vi hb (by omega)
  have qd := vc (show 40 * tg + at_ < 2000000 by omega)
  refine w_M_copiesRule_0 ?_
  simp only [oi_row]
  generalize 40 * sl + k = a at *
  generalize 40 * tg + at_ = b at *
  simp only [hm.1, hm.f3, hm.t3, hm.l3, hm.f4, hm.t4, hm.l4, hm.f5, hm.t5, hm.l5, hm.f6, hm.t6, hm.l6, hm.f7, hm.t7, hm.l7, isr_ref, rv_ref, qi, qc, qj, qd, true_and, forall_eq, t_sA, l_sA, F_sA, A_sA, Nat.add_left_cancel_iff, Nat.reduceEqDiff, false_and, if_false, h1, h2, h3, h4, h5]
  refine lp (d := 0) (m := 167) (k := 54) (fun i => [.ref m, pm_U, pm_U, pm_U, pm_U, .int (Int32.ofInt (a : Int)), .int (Int32.ofInt (b : Int)), .int (Int32.ofInt (i : Nat))]) (fun i τ => frR m b σ τ ∧ iv (pm_A τ (m + 3) b) = Int32.ofInt (rF r) ∧ iv (pm_A τ (m + 4) b) = Int32.ofInt (rT r) ∧ jv (pm_A τ (m + 5) b) = rLo r ∧ jv (pm_A τ (m + 6) b) = rHi r ∧ iv (pm_A τ (m + 7) b) = Int32.ofInt ((rTs r).length) ∧ ∀ k t, k < i → (rTs r)[k]? = some t → iv (pm_A τ (m + 8) (6 * b + k)) = Int32.ofInt (tv t) ∧ iv (pm_A τ (m + 9) (6 * b + k)) = bI (decide (100 ≤ t))) 6 ?_ ?_ 0 (Nat.zero_le _) _ ⟨⟨?_, fun s hs => ?_⟩, ?_, ?_, ?_, ?_, ?_, fun k t hk => absurd hk (Nat.not_lt_zero _)⟩
  · rintro i hi τ ⟨f, e3, e4, e5, e6, e7, e8⟩ next
    have hm' := f.mS hm
    have q6 : ¬ (6 : Int32) ≤ Int32.ofInt (i : Nat) := by rw [oi_lle ⟨by omega, by decide⟩]; omega
    have va := vi (show 6 * a + i < 3120 by omega) (by omega)
    have wa := vc (show 6 * a + i < 2000000 by omega)
    have vb := vi (show 6 * b + i < 3120 by omega) (by omega)
    have wb := vc (show 6 * b + i < 2000000 by omega)
    have g8 := ((f.2 a hne).2.2.2.2.2 i hi).1
    have g9 : ∀ v, pm_A (pm_sA τ (m + 8) (6 * b + i) v) (m + 9) (6 * a + i) = pm_A σ (m + 9) (6 * a + i) := fun v => by rw [A_sA, if_neg (by omega)]; exact ((f.2 a hne).2.2.2.2.2 i hi).2
    refine w_M_copiesRule_54 ⟨fun q => absurd q q6, fun _ => ?_⟩
    simp only [hm'.1, hm'.f8, hm'.t8, hm'.l8, hm'.f9, hm'.t9, hm'.l9, isr_ref, rv_ref, oi_row6, va, wa, vb, wb, true_and, forall_eq, t_sA, l_sA, F_sA, g8, g9, oi_s]
    refine next _ ⟨f.tr ⟨(fr_sA (by omega)).tr (fr_sA (by omega)), fun j' hj' => (mEqR_sA (by omega)).tr (mEqR_sA (by omega))⟩, ?_, ?_, ?_, ?_, ?_, fun k t hk ht => ?_⟩
    · rw [A_sA, if_neg (by omega), A_sA, if_neg (by omega)]; exact e3
    · rw [A_sA, if_neg (by omega), A_sA, if_neg (by omega)]; exact e4
    · rw [A_sA, if_neg (by omega), A_sA, if_neg (by omega)]; exact e5
    · rw [A_sA, if_neg (by omega), A_sA, if_neg (by omega)]; exact e6
    · rw [A_sA, if_neg (by omega), A_sA, if_neg (by omega)]; exact e7
    · by_cases ek : k = i
      · subst ek
        obtain ⟨x1, x2⟩ := h6 k t ht
        constructor
        · rw [A_sA, if_neg (by omega), A_sA, if_pos ⟨rfl, rfl⟩, iv_int, x1]
        · rw [A_sA, if_pos ⟨rfl, rfl⟩, iv_int, x2, vp_nb]
      · iterate 2 rw [A_sA, if_neg (by omega)]
        iterate 2 rw [A_sA, if_neg (by omega)]
        exact e8 k t (by omega) ht
  · rintro τ ⟨f, e3, e4, e5, e6, e7, e8⟩
    refine w_M_copiesRule_54 ⟨fun _ => ⟨rfl, ⟨e3, e4, e5, e6, e7, fun k t ht => e8 k t ?_ ht⟩, f⟩, fun q => absurd (Int32.le_refl _) q⟩
    have := (List.getElem?_eq_some_iff.mp ht).1
    omega
  · exact ((((fr_sA (P := fun b => m + 3 ≤ b ∧ b ≤ m + 9) (by omega)).tr (fr_sA (by omega))).tr (fr_sA (by omega))).tr (fr_sA (by omega))).tr (fr_sA (by omega))
  · exact ((((mEqR_sA (by omega)).tr (mEqR_sA (by omega))).tr (mEqR_sA (by omega))).tr (mEqR_sA (by omega))).tr (mEqR_sA (by omega))
  · iterate 4 rw [A_sA, if_neg (by omega)]
    rw [A_sA, if_pos ⟨rfl, rfl⟩]; rfl
  · iterate 3 rw [A_sA, if_neg (by omega)]
    rw [A_sA, if_pos ⟨rfl, rfl⟩]; rfl
  · iterate 2 rw [A_sA, if_neg (by omega)]
    rw [A_sA, if_pos ⟨rfl, rfl⟩]; rfl
  · iterate 1 rw [A_sA, if_neg (by omega)]
    rw [A_sA, if_pos ⟨rfl, rfl⟩]; rfl
  · rw [A_sA, if_pos ⟨rfl, rfl⟩]; rfl
theorem s_M_copies {σ : pm_H} {m sl tg : Nat} {T : Tr} (hm : mS σ m) (h : mTr σ m sl T) (hT : okTr T) (hsl : sl < 13) (htg : tg < 13) : cV 1 168 [.ref m, .int (Int32.ofInt (sl : Int)), .int (Int32.ofInt (tg : Int))] σ (fun σ' => mTr σ' m tg T ∧ frM m (fun s => s = tg) σ σ') := by
  refine w_M_copies_0 ⟨fun q => ?_, fun q => ?_⟩
  · rw [oi_eq (by omega)] at q
    have : sl = tg := by omega
    subst this
    exact ⟨rfl, h, frM.rf⟩
  · rw [oi_eq (by omega)] at q
    have hne : sl ≠ tg := by omega
    obtain ⟨h1, h2, h3, h4⟩ := h
    have qi := vi hsl (by omega)
    have qc := vc (show sl < 2000000 by omega)
    have qj := vi htg (by omega)
    have qd := vc (show tg < 2000000 by omega)
    have e1 : ∀ v, pm_A (pm_sA σ (m + 1) tg v) (m + 2) sl = pm_A σ (m + 2) sl := fun v => by rw [A_sA, if_neg (by omega)]
    simp only [hm.1, hm.f1, hm.t1, hm.l1, hm.f2, hm.t2, hm.l2, isr_ref, rv_ref, qi, qc, qj, qd, true_and, forall_eq, t_sA, l_sA, F_sA, h1, h2, e1]
    refine lp (d := 1) (m := 168) (k := 22) (fun i => [.ref m, .int (Int32.ofInt (sl : Int)), .int (Int32.ofInt (tg : Int)), .int (Int32.ofInt (i : Nat))]) (fun i τ => frM m (fun s => s = tg) σ τ ∧ iv (pm_A τ (m + 1) tg) = Int32.ofInt T.1 ∧ iv (pm_A τ (m + 2) tg) = Int32.ofInt T.2.length ∧ ∀ k r, k < i → T.2[k]? = some r → mRu τ m (40 * tg + k) r) T.2.length ?_ ?_ 0 (Nat.zero_le _) _ ⟨⟨(fr_sA (by omega)).tr (fr_sA (by omega)), fun s hs => (mEq_sA (by omega)).tr (mEq_sA (by omega))⟩, ?_, ?_, fun k r hk => absurd hk (Nat.not_lt_zero _)⟩
    · rintro i hi τ ⟨f, e1, e2, e3⟩ next
      have hm' := f.mS hm
      have hr := List.getElem?_eq_getElem hi
      generalize T.2[i] = r at hr
      have q6 : ¬ Int32.ofInt (T.2.length) ≤ Int32.ofInt (i : Nat) := by rw [oi_le (by omega)]; omega
      have h2' : iv (pm_A τ (m + 2) sl) = Int32.ofInt T.2.length := by rw [(f.2 sl hne).2.1, h2]
      refine w_M_copies_22 ?_
      simp only [hm'.1, hm'.f2, hm'.t2, hm'.l2, isr_ref, rv_ref, qi, qc, h2', q6, not_false_eq_true, false_implies, true_implies, true_and, forall_eq]
      refine (s_M_copiesRule hm' (mRu_eq (h4 i r hr) (hT.at hr).2.2.2.1 ((f.2 sl hne).2.2 _ (by omega) (by omega))) (by omega) (hT.at hr).2.2.2.1 (by omega) (by omega)).use (by omega) (fun σ' ⟨r1, r2⟩ => ?_)
      rw [oi_s]
      refine next σ' ⟨f.tr (r2.M (by omega) (by omega)), by rw [r2.1.A (by omega), e1], by rw [r2.1.A (by omega), e2], fun k r' hk hkr => ?_⟩
      by_cases ek : k = i
      · subst ek; rw [hr] at hkr; cases hkr; exact r1
      · exact mRu_eq (e3 k r' (by omega) hkr) (hT.at hkr).2.2.2.1 (r2.2 _ (by omega))
    · rintro τ ⟨f, e1, e2, e3⟩
      have hm' := f.mS hm
      have q6 : Int32.ofInt (T.2.length) ≤ Int32.ofInt (T.2.length) := Int32.le_refl _
      have h2' : iv (pm_A τ (m + 2) sl) = Int32.ofInt T.2.length := by rw [(f.2 sl hne).2.1, h2]
      refine w_M_copies_22 ?_
      simp only [hm'.1, hm'.f2, hm'.t2, hm'.l2, isr_ref, rv_ref, qi, qc, h2', q6, not_true_eq_false, false_implies, true_implies, true_and, and_true, forall_eq]
      exact ⟨⟨e1, e2, h3, fun k r hk => e3 k r (List.getElem?_eq_some_iff.mp hk).1 hk⟩, f⟩
    · rw [A_sA, if_neg (by omega), A_sA, if_pos ⟨rfl, rfl⟩]; rfl
    · rw [A_sA, if_pos ⟨rfl, rfl⟩]; rfl
theorem s_M_removes {σ : pm_H} {m sl k : Nat} {T : Tr} (hm : mS σ m) (h : mTr σ m sl T) (hT : okTr T) (hsl : sl < 13) (hk : k < T.2.length) : cV 1 185 [.ref m, .int (Int32.ofInt (sl : Int)), .int (Int32.ofInt (k : Int))] σ (fun σ' => mTr σ' m sl (T.1, T.2.eraseIdx k) ∧ frM m (fun s => s = sl) σ σ') := by
  obtain ⟨h1, h2, h3, h4⟩ := h
  have qi := vi hsl (by omega)
  have qc := vc (show sl < 2000000 by omega)
  refine w_M_removes_0 ?_
  rw [oi_s]
  refine lp (d := 1) (m := 185) (k := 4) (fun i => [.ref m, .int (Int32.ofInt (sl : Int)), pm_U, .int (Int32.ofInt (i : Nat))]) (fun i τ => k < i ∧ frM m (fun s => s = sl) σ τ ∧ iv (pm_A τ (m + 1) sl) = Int32.ofInt T.1 ∧ iv (pm_A τ (m + 2) sl) = Int32.ofInt T.2.length ∧ (∀ j r, j < k → T.2[j]? = some r → mRu τ m (40 * sl + j) r) ∧ (∀ j r, k ≤ j → j + 1 < i → T.2[j + 1]? = some r → mRu τ m (40 * sl + j) r) ∧ ∀ j r, i ≤ j → T.2[j]? = some r → mRu τ m (40 * sl + j) r) T.2.length ?_ ?_ (k + 1) hk σ ⟨by omega, frM.rf, h1, h2, fun j r _ hr => h4 j r hr, fun j r h1 h2 => by omega, fun j r _ hr => h4 j r hr⟩
  · rintro i hi τ ⟨i0, f, e1, e2, e3, e4, e5⟩ next
    have hm' := f.mS hm
    have hr := List.getElem?_eq_getElem hi
    generalize T.2[i] = r at hr
    have q6 : ¬ Int32.ofInt (T.2.length) ≤ Int32.ofInt (i : Nat) := by rw [oi_le (by omega)]; omega
    have ei : Int32.ofInt (i : Nat) - 1 = Int32.ofInt ((i - 1 : Nat) : Int) := by rw [oi_subl]; congr 1; omega
    refine w_M_removes_4 ?_
    simp only [hm'.1, hm'.f2, hm'.t2, hm'.l2, isr_ref, rv_ref, qi, qc, e2, q6, not_false_eq_true, false_implies, true_implies, true_and, forall_eq, ei]
    refine (s_M_copiesRule hm' (e5 i r (Nat.le_refl _) hr) (by omega) (hT.at hr).2.2.2.1 (by omega) (by omega)).use (by omega) (fun σ' ⟨r1, r2⟩ => ?_)
    rw [oi_s]
    refine next σ' ⟨by omega, f.tr (r2.M (by omega) (by omega)), by rw [r2.1.A (by omega), e1], by rw [r2.1.A (by omega), e2], fun j r' hj hjr => ?_, fun j r' hj1 hj2 hjr => ?_, fun j r' hj hjr => ?_⟩
    · exact mRu_eq (e3 j r' hj hjr) (hT.at hjr).2.2.2.1 (r2.2 _ (by omega))
    · by_cases ek : j + 1 = i
      · subst ek; rw [hr] at hjr; cases hjr; exact r1
      · exact mRu_eq (e4 j r' hj1 (by omega) hjr) (hT.at hjr).2.2.2.1 (r2.2 _ (by omega))
    · exact mRu_eq (e5 j r' (by omega) hjr) (hT.at hjr).2.2.2.1 (r2.2 _ (by omega))
  · rintro τ ⟨i0, f, e1, e2, e3, e4, e5⟩
    have hm' := f.mS hm
    have q6 : Int32.ofInt (T.2.length) ≤ Int32.ofInt (T.2.length) := Int32.le_refl _
    have ei : Int32.ofInt (T.2.length : Int) - 1 = Int32.ofInt ((T.2.length - 1 : Nat) : Int) := by rw [oi_subl]; congr 1; omega
    refine w_M_removes_4 ?_
    simp only [hm'.1, hm'.f2, hm'.t2, hm'.l2, isr_ref, rv_ref, qi, qc, e2, q6, not_true_eq_false, false_implies, true_implies, true_and, and_true, forall_eq, ei]
    refine ⟨⟨?_, ?_, ?_, fun j r hj => ?_⟩, f.tr ⟨fr_sA (by omega), fun s hs => mEq_sA (by omega)⟩⟩
    · rw [A_sA, if_neg (by omega)]; exact e1
    · rw [A_sA, if_pos ⟨rfl, rfl⟩, iv_int, List.length_eraseIdx, if_pos hk]
    · rw [List.length_eraseIdx]; split <;> omega
    · dsimp only at hj
      rw [List.getElem?_eraseIdx] at hj
      split at hj
      · exact mRu_eq (e3 j r (by assumption) hj) (hT.at hj).2.2.2.1 (mEqR_sA (by omega))
      · have := (List.getElem?_eq_some_iff.mp hj).1
        exact mRu_eq (e4 j r (by omega) this hj) (hT.at hj).2.2.2.1 (mEqR_sA (by omega))
