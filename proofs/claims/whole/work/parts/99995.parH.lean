/-! ===== parse: range, term of the model ===== -/
theorem h_lit {l : List Nat} {i : Nat} {σ : pm_H} {m : Nat} {w : Bool} (h : mOk σ m l i w) (c : Nat) (hc : c < 65536) : Int32.ofInt (hr l i) = Int32.ofInt (c : Int) ↔ isC l i c = true := hr_is hc h.2.2.1
theorem s_M_range2 {σ : pm_H} {m i c0 : Nat} {l : List Nat} {w : Bool} {r : Rl} (h : mOk σ m l i w) (hR : mRu σ m c0 r) (hl : (rTs r).length ≤ 6) (hG : okG (rHi r)) (hc1 : 160 ≤ c0) (hc2 : c0 < 200) : cV 3 199 [.ref m, .int (Int32.ofInt (c0 : Int))] σ (fun σ' => rR m c0 σ σ' ∧ match rRange l i with
    | .inl p => mEr σ' m p
    | .inr (x, j) => mngO σ' m c0 l w r [x] j) := by
  refine w_M_range2_0 ⟨h.1.1, (s_M_number h).use (by omega) (fun σ1 p1 => ?_)⟩
  obtain ⟨f1, p1⟩ := p1
  have g1 : rR m c0 σ σ1 := pF_R f1
  cases e1 : rNum l i with
  | inl p =>
    rw [e1] at p1
    have er : rRange l i = .inl p := by unfold rRange; rw [e1]
    rw [er]
    refine ⟨p1.1.1, fun z ez => ⟨fun _ => s_M_range_21e p1 ⟨rfl, g1, p1⟩, fun q => ?_⟩⟩
    rw [ez, p1.2.1] at q; exact absurd (le0p (by have := p1.2.2; omega)) q
  | inr x =>
    obtain ⟨lo, j⟩ := x
    rw [e1] at p1
    have n1 := rNum_le e1
    have p1' : mOk σ1 m l j w := p1
    have r1 := mRu_pF hR hl f1
    have h45 : Int32.ofInt (hr l j) = 45 ↔ isC l j 45 = true := h_lit p1' 45 (by decide)
    refine ⟨p1'.1.1, fun z ez => ⟨fun q => ?_, fun _ => ⟨p1'.1.1, (s_M_here p1').use (by omega) ?_⟩⟩⟩
    · rw [ez, p1'.2.2.2.2.2.1] at q; exact absurd q im_0
    rw [h45]
    refine ⟨fun ec => ?_, fun ec => ?_⟩
    · have h2 := mOk_at p1' (show j + 1 ≤ 200 by have := p1'.2.1.2.1; omega)
      have f2 : pF m σ1 (pm_sF σ1 1214 m (.int (Int32.ofInt ((j + 1 : Nat) : Int)))) := pF_sF (Or.inl rfl)
      simp only [p1'.1.1, p1'.2.2.2.1, oi_s, true_and, forall_eq]
      refine ⟨h2.1.1, (s_M_number h2).use (by omega) (fun σ3 p3 => ?_)⟩
      obtain ⟨f3, p3⟩ := p3
      have g3 : rR m c0 σ σ3 := rR_tr g1 (pF_R (frX.tr f2 f3))
      have r3 := mRu_pF (mRu_pF r1 hl f2) hl f3
      cases e3 : rNum l (j + 1) with
      | inl p =>
        rw [e3] at p3
        have er : rRange l i = .inl p := by unfold rRange; rw [e1]; dsimp only; rw [ec, if_pos rfl, e3]
        rw [er]
        exact s_M_range_21e p3 ⟨rfl, g3, p3⟩
      | inr x =>
        obtain ⟨hi, k⟩ := x
        rw [e3] at p3
        have n3 := rNum_le e3
        have er : rRange l i = .inr ((lo, hi), k) := by unfold rRange; rw [e1]; dsimp only; rw [ec, if_pos rfl, e3]
        rw [er]
        exact s_M_range_21 p3 r3 hl hG hc1 hc2 n1.1 n3.1 g3
    · have ec' : isC l j 45 = false := by cases q : isC l j 45 with | true => exact absurd q ec | false => rfl
      have er : rRange l i = .inr ((lo, lo), j) := by unfold rRange; rw [e1]; dsimp only; rw [ec']; rfl
      rw [er]
      exact s_M_range_21 p1' r1 hl hG hc1 hc2 n1.1 n1.1 g1
def mtmO (σ' : pm_H) (m c0 : Nat) (l : List Nat) (w : Bool) (r : Rl) (ts : List Nat) (j : Nat) : Prop := mOk σ' m l j (w || decide (6 < (rTs r).length + ts.length)) ∧ mRu σ' m c0 (rF r, rT r, rLo r, rHi r, (rTs r ++ ts).take 6)
theorem s_M_term_50 {σ0 σ : pm_H} {m i c0 t : Nat} {l : List Nat} {w b : Bool} {r : Rl} {d : Nat} {v : Int} (h : mOk σ m l i w) (hR : mRu σ m c0 r) (hl : (rTs r).length ≤ 6) (hc1 : 160 ≤ c0) (hc2 : c0 < 200) (hv : v = tv t) (hb : b = decide (100 ≤ t)) (f : rR m c0 σ0 σ) : pm_R (d + 1) 200 50 [.ref m, .int (Int32.ofInt (c0 : Int)), .int (bI b), .int (Int32.ofInt v), pm_U] [] σ (fun o σ' => o = .inl none ∧ rR m c0 σ0 σ' ∧ mtmO σ' m c0 l w r [t] i) := by
  have vR := vi (show c0 < 520 by omega) (by omega)
  have wR := vc (show c0 < 2000000 by omega)
  refine w_M_term2_50 ?_
  simp only [h.1.1, h.2.2.2.2.2.1, h.1.f7, h.1.t7, h.1.l7, isr_ref, rv_ref, vR, wR, hR.2.2.2.2.1, im_1, not_true_eq_false, false_implies, true_implies, and_true, true_and, forall_eq]
  rw [z_eq6 (nrg (show (rTs r).length < 2000000 by omega))]
  refine ⟨fun c => ⟨rfl, rR_tr f (pF_R (pF_sF (Or.inr (Or.inr rfl)))), ?_, ?_⟩, fun c => ?_⟩
  · rw [show decide (6 < (rTs r).length + ([t] : List Nat).length) = true from decide_eq_true (by show 6 < (rTs r).length + 1; omega), Bool.or_true]
    exact mOk_w (b := true) h
  · rw [List.take_append_of_le_length (by omega), List.take_of_length_le (by omega)]
    exact mRu_pF hR hl (pF_sF (Or.inr (Or.inr rfl)))
  · refine (s_M_addsTerm (t := t) h.1 hR (by omega) (show (rTs r).length < 6 by omega) hv hb).use (by omega) (fun σ1 p1 => ⟨rR_tr f (frR_R p1.2 hc1 hc2), ?_, ?_⟩)
    · rw [show decide (6 < (rTs r).length + ([t] : List Nat).length) = false from decide_eq_false (by show ¬ 6 < (rTs r).length + 1; omega), Bool.or_false]
      exact mOk_R h p1.2 hc1 hc2
    · rw [List.take_of_length_le (by rw [List.length_append]; show (rTs r).length + 1 ≤ 6; omega)]
      exact p1.1
theorem s_M_term_50e {σ : pm_H} {m p : Nat} {x1 x2 x3 : Int32} {d : Nat} {Q : pm_O → pm_H → Prop} (h : mEr σ m p) (hQ : Q (.inl none) σ) : pm_R (d + 1) 200 50 [.ref m, .int x1, .int x2, .int x3, pm_U] [] σ Q := by
  have := h.2.2
  refine w_M_term2_50 ⟨h.1.1, fun z ez => ⟨fun q => ?_, fun _ => hQ⟩⟩
  rw [ez, h.2.1] at q; exact absurd q (lt0p (by omega))
theorem s_M_term2 {σ : pm_H} {m i c0 : Nat} {l : List Nat} {w : Bool} {r : Rl} (h : mOk σ m l i w) (hR : mRu σ m c0 r) (hl : (rTs r).length ≤ 6) (hc1 : 160 ≤ c0) (hc2 : c0 < 200) : cV 3 200 [.ref m, .int (Int32.ofInt (c0 : Int))] σ (fun σ' => rR m c0 σ σ' ∧ match rTerm l i with
    | .inl p => mEr σ' m p
    | .inr (t, j) => mtmO σ' m c0 l w r [t] j) := by
  have hll := h.2.1.2.1
  have i10 : ¬ (1 : Int32) = 0 := by decide
  have h120 : Int32.ofInt (hr l i) = 120 ↔ isC l i 120 = true := h_lit h 120 (by decide)
  refine w_M_term2_0 ⟨h.1.1, fun z ez => ⟨fun q => ?_, fun _ => ⟨h.1.1, (s_M_here h).use (by omega) ?_⟩⟩⟩
  · rw [ez, h.2.2.2.2.2.1] at q; exact absurd q im_0
  rw [h120]
  refine ⟨fun ex => ?_, fun ex => ?_⟩
  rotate_left
  · have ex' : isC l i 120 = false := by cases q : isC l i 120 with | true => exact absurd q ex | false => rfl
    have et : rTerm l i = rNum l i := by unfold rTerm; rw [ex']; rfl
    rw [et]
    refine w_M_term2_10 ⟨fun _ => ⟨h.1.1, (s_M_number h).use (by omega) (fun σ1 p1 => ?_)⟩, fun q => absurd rfl q⟩
    obtain ⟨f1, p1⟩ := p1
    cases e1 : rNum l i with
    | inl p => rw [e1] at p1; exact s_M_term_50e p1 ⟨rfl, pF_R f1, p1⟩
    | inr x =>
      obtain ⟨v, j⟩ := x
      rw [e1] at p1
      have n1 := rNum_le e1
      exact s_M_term_50 (b := false) p1 (mRu_pF hR hl f1) hl hc1 hc2 (by unfold tv; rw [if_pos n1.1]; rfl) (decide_eq_false (by omega)).symm (pF_R f1)
  have lt := isC_lt ex
  have h1 := mOk_at h (show i + 1 ≤ 200 by omega)
  have f1 : pF m σ (pm_sF σ 1214 m (.int (Int32.ofInt ((i + 1 : Nat) : Int)))) := pF_sF (Or.inl rfl)
  have h43 : Int32.ofInt (hr l (i + 1)) = 43 ↔ isC l (i + 1) 43 = true := h_lit h1 43 (by decide)
  have h45 : Int32.ofInt (hr l (i + 1)) = 45 ↔ isC l (i + 1) 45 = true := h_lit h1 45 (by decide)
  refine w_M_term2_10 ⟨fun q => absurd q i10, fun _ => ?_⟩
  simp only [h.1.1, h.2.2.2.1, oi_s, true_and, forall_eq]
  refine ⟨h1.1.1, (s_M_here h1).use (by omega) ?_⟩
  rw [h43, h45]
  have r1 := mRu_pF hR hl f1
  -- a number after the sign
  have sgn : (isC l (i + 1) 43 = true ∨ isC l (i + 1) 45 = true) → pm_R 3 200 30 [.ref m, .int (Int32.ofInt (c0 : Int)), .int ((1 : Int32)), pm_U, .int (Int32.ofInt (hr l (i + 1)))] [] (pm_sF σ 1214 m (.int (Int32.ofInt ((i + 1 : Nat) : Int)))) (fun o σ' => o = .inl none ∧ rR m c0 σ σ' ∧ match rTerm l i with
    | .inl p => mEr σ' m p
    | .inr (t, j) => mtmO σ' m c0 l w r [t] j) := by
    intro hs
    have lt2 : i + 1 < l.length := hs.elim isC_lt isC_lt
    have h2 := mOk_at h1 (show i + 1 + 1 ≤ 200 by omega)
    have f2 : pF m σ (pm_sF (pm_sF σ 1214 m (.int (Int32.ofInt ((i + 1 : Nat) : Int)))) 1214 m (.int (Int32.ofInt ((i + 1 + 1 : Nat) : Int)))) := frX.tr f1 (pF_sF (Or.inl rfl))
    have r2 := mRu_pF hR hl f2
    refine w_M_term2_30 ?_
    simp only [h1.1.1, h1.2.2.2.1, oi_s, true_and, forall_eq]
    rw [h43]
    generalize pm_sF (pm_sF σ 1214 m (.int (Int32.ofInt ((i + 1 : Nat) : Int)))) 1214 m (.int (Int32.ofInt ((i + 1 + 1 : Nat) : Int))) = σ2 at *
    refine ⟨fun e43 => ⟨h2.1.1, (s_M_number h2).use (by omega) (fun σ3 p3 => ?_)⟩, fun n43 => ⟨h2.1.1, (s_M_number h2).use (by omega) (fun σ3 p3 => ?_)⟩⟩
    · obtain ⟨f3, p3⟩ := p3
      have f23 := frX.tr f2 f3
      cases e3 : rNum l (i + 1 + 1) with
      | inl p =>
        have et : rTerm l i = .inl p := by unfold rTerm; rw [ex, if_pos rfl, e43, if_pos rfl, show i + 2 = i + 1 + 1 from rfl, e3]
        rw [e3] at p3
        rw [et]
        exact s_M_term_50e p3 ⟨rfl, pF_R f23, p3⟩
      | inr x =>
        obtain ⟨v, j⟩ := x
        have et : rTerm l i = .inr (1000 + v, j) := by unfold rTerm; rw [ex, if_pos rfl, e43, if_pos rfl, show i + 2 = i + 1 + 1 from rfl, e3]
        rw [e3] at p3
        rw [et]
        have n3 := rNum_le e3
        exact s_M_term_50 (b := true) p3 (mRu_pF r2 hl f3) hl hc1 hc2 (by unfold tv; rw [if_neg (by omega)]; show (v : Int) = _; omega) (decide_eq_true (by omega)).symm (pF_R f23)
    · obtain ⟨f3, p3⟩ := p3
      have f23 := frX.tr f2 f3
      have e45 : isC l (i + 1) 45 = true := hs.elim (fun q => absurd q n43) id
      have e43 : isC l (i + 1) 43 = false := by cases q : isC l (i + 1) 43 with | true => exact absurd q n43 | false => rfl
      rw [oi_negs]
      cases e3 : rNum l (i + 1 + 1) with
      | inl p =>
        have et : rTerm l i = .inl p := by unfold rTerm; rw [ex, if_pos rfl, e43, if_neg (by decide), e45, if_pos rfl, show i + 2 = i + 1 + 1 from rfl, e3]
        rw [e3] at p3
        rw [et]
        exact s_M_term_50e p3 ⟨rfl, pF_R f23, p3⟩
      | inr x =>
        obtain ⟨v, j⟩ := x
        have et : rTerm l i = .inr (1000 - v, j) := by unfold rTerm; rw [ex, if_pos rfl, e43, if_neg (by decide), e45, if_pos rfl, show i + 2 = i + 1 + 1 from rfl, e3]
        rw [e3] at p3
        rw [et]
        have n3 := rNum_le e3
        exact s_M_term_50 (b := true) p3 (mRu_pF r2 hl f3) hl hc1 hc2 (by unfold tv; rw [if_neg (by omega)]; show -(v : Int) = _; omega) (decide_eq_true (by omega)).symm (pF_R f23)
  refine ⟨fun e43 => sgn (Or.inl e43), fun n43 => ⟨fun e45 => sgn (Or.inr e45), fun n45 => ?_⟩⟩
  have e43 : isC l (i + 1) 43 = false := by cases q : isC l (i + 1) 43 with | true => exact absurd q n43 | false => rfl
  have e45 : isC l (i + 1) 45 = false := by cases q : isC l (i + 1) 45 with | true => exact absurd q n45 | false => rfl
  have et : rTerm l i = .inr (1000, i + 1) := by unfold rTerm; rw [ex, if_pos rfl, e43, if_neg (by decide), e45, if_neg (by decide)]
  rw [et]
  exact s_M_term_50 (b := true) (v := 0) h1 r1 hl hc1 hc2 rfl rfl (pF_R f1)
