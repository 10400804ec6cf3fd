/-! ===== parse ===== -/
theorem isB_rd {σ σ' : pm_H} {x N0 : Nat} {A : AS} {π : Nat → Nat} (h : isB σ x N0 A) (f : fr (rdP (x + 1591) (x + 490)) σ σ') (hr : isRe σ' (x + 1591) (aL A)) (ht : isTr0 σ' (x + 490) π) : isB σ' x N0 A := by
  have k : ∀ b, ¬ pTr (x + 490) b → ¬ pRe (x + 1591) b → ¬ rdP (x + 1591) (x + 490) b := fun b h1 h2 q => q.elim h2 h1
  refine isB_mk h f ⟨k _ ?_ ?_, k _ ?_ ?_⟩ (fun i hi => Or.inl ⟨fun b hb => k _ ?_ ?_, rfl⟩) (Or.inr ⟨π, ht⟩) (Or.inl ⟨fun b hb => k _ ?_ ?_, rfl⟩) (Or.inr hr) (Or.inl ⟨fun b hb => k _ ?_ ?_, rfl⟩) (Or.inl ⟨fun b hb => k _ ?_ ?_, rfl⟩) (Or.inl (fun b hb => k _ ?_ ?_)) (Or.inl (fun b hb => k _ ?_ ?_)) (Or.inl (k _ ?_ ?_)) (Or.inl (fun b hb => k _ ?_ ?_))
  · unfold pTr; omega
  · unfold pRe; omega
  · unfold pTr; omega
  · unfold pRe; omega
  · unfold pTr at hb ⊢; omega
  · unfold pTr at hb; unfold pRe; omega
  · unfold pHi at hb; unfold pTr; omega
  · unfold pHi at hb; unfold pRe; omega
  · unfold pWo at hb; unfold pTr; omega
  · unfold pWo at hb; unfold pRe; omega
  · unfold pWo at hb; unfold pTr; omega
  · unfold pWo at hb; unfold pRe; omega
  · unfold pO at hb; unfold pTr; omega
  · unfold pO at hb; unfold pRe; omega
  · unfold pDo at hb; unfold pTr; omega
  · unfold pDo at hb; unfold pRe; omega
  · unfold pTr; omega
  · unfold pRe; omega
  · unfold pCo at hb; unfold pTr; omega
  · unfold pCo at hb; unfold pRe; omega
theorem isM_par {σ τ : pm_H} {m : Nat} {A : AS} (h : isM σ m A) (hA : okA A) (f : frX m (fun f => f = 1200 ∨ f = 1213 ∨ f = 1214 ∨ f = 1215 ∨ f = 1216) (fun i => 1 ≤ i ∧ i ≤ 9) (fun s => s = 4) σ τ) (z : iv (pm_F τ 1213 m) = 0) : isM τ m (aS A, aH A, [], aW A, aR A) := by
  refine isM_mk h hA f (fun f hf => ?_) (fun i hi => Or.inl ⟨fun q => by omega, rfl⟩) (Or.inl ⟨fun q => by omega, fun q => by omega, fun s hs q => by omega, rfl⟩) (Or.inr ⟨z, Nat.zero_le _, fun i c hc => by cases hc⟩) (Or.inl ⟨fun q => by omega, fun q => by omega, rfl⟩) (Or.inl ⟨fun q => by omega, fun q => by omega, rfl⟩)
  rcases hf with e | e | e | e | e <;> (rw [e]; decide)
theorem foldl_same : ∀ (as : List It) (T : Tr), as.any badI = false → as.foldl clsI T = as.foldl modI T := by
  intro as
  induction as with
  | nil => intro T _; rfl
  | cons a as ih =>
    intro T h
    rw [List.any_cons, Bool.or_eq_false_iff] at h
    show as.foldl clsI (clsI T a) = as.foldl modI (modI T a)
    rw [clsI_mod h.1]
    exact ih _ h.2
theorem s_M_parse_65 {σ0 σ : pm_H} {m sl : Nat} {l : List Nat} {Q : pm_O → pm_H → Prop} (hm : mS σ m) (h : txM m l false (0, []) (text l) σ)
    (h0 : ∀ p, text l = .inl p → Q (.inl (some (.int ((-100 : Int32) - Int32.ofInt (p : Int))))) (pm_sF σ 1213 m (.int ((0 : Int32)))))
    (h1 : ∀ as, text l = .inr as → as.any badI = true → pm_R 6 202 83 [.ref m, .int (Int32.ofInt (sl : Int))] [.int ((1 : Int32)), .ref m] (pm_sF σ 1213 m (.int ((0 : Int32)))) Q)
    (h2 : ∀ as, text l = .inr as → as.any badI = false → mTr (pm_sF σ 1213 m (.int ((0 : Int32)))) m 4 (as.foldl modI (0, [])) → okTr (as.foldl modI (0, [])) → pm_R 6 202 83 [.ref m, .int (Int32.ofInt (sl : Int))] [.int ((0 : Int32)), .ref m] (pm_sF σ 1213 m (.int ((0 : Int32)))) Q) : pm_R 6 202 65 [.ref m, .int (Int32.ofInt (sl : Int))] [] σ Q := by
  have f1 : frX m (fun f => f = 1213) (fun _ => False) (fun _ => False) σ (pm_sF σ 1213 m (.int ((0 : Int32)))) := frX_sF
  refine w_M_parse_65 ⟨hm.1, fun σ1 e1 => ?_⟩
  rw [e1]
  cases et : text l with
  | inl p =>
    rw [et] at h
    have h' : mEr σ m p := h
    have z : iv (pm_F (pm_sF σ 1213 m (.int ((0 : Int32)))) 1215 m) = Int32.ofInt (p : Int) := by rw [f1.F (by omega)]; exact h'.2.1
    refine ⟨hm.1, fun z2 ez => ⟨fun q => ?_, fun _ => ⟨hm.1, fun z3 e3 => ?_⟩⟩⟩
    · rw [ez, z] at q; exact absurd q (lt0p (by have := h'.2.2; omega))
    · rw [e3, z]; exact h0 p et
  | inr as =>
    rw [et] at h
    obtain ⟨⟨j, hj⟩, ht, hT⟩ := h
    have z : iv (pm_F (pm_sF σ 1213 m (.int ((0 : Int32)))) 1215 m) = -1 := by rw [f1.F (by omega)]; exact hj.2.2.2.2.2.1
    have z6 : iv (pm_F (pm_sF σ 1213 m (.int ((0 : Int32)))) 1216 m) = bI (as.any badI) := by
      rw [f1.F (by omega)]
      have := hj.2.2.2.2.2.2
      rw [Bool.false_or] at this
      exact this
    refine ⟨hm.1, fun z2 ez => ⟨fun _ => ⟨hm.1, fun z3 e3 => ?_⟩, fun q => ?_⟩⟩
    · rw [e3, z6]
      cases eb : as.any badI with
      | false => exact ⟨fun _ => h2 as et eb (f1.T ht hT id) hT, fun q => absurd rfl q⟩
      | true => exact ⟨fun q => absurd q (show ¬ (1 : Int32) = 0 by decide), fun _ => h1 as et eb⟩
    · rw [ez, z] at q; exact absurd im_1 q
theorem J_parse {x m N0 L : Nat} {A : AS} (hA : okA A) {z1 : Int} (r1 : rg z1) : ∃ k v A', okA A' ∧ (∀ σ, isB σ x N0 A → isL σ x N0 L → pm_C 39 261 [.ref x, .int (Int32.ofInt z1), .ref L] σ (bOut x N0 1 6 σ k v A' L)) ∧ ∀ σ, isM σ m A → pm_C 39 202 [.ref m, .int (Int32.ofInt z1)] σ (mOut m σ k v A') := by
  by_cases hv : 0 ≤ z1 ∧ z1 < 4
  rotate_left
  · refine ⟨1, 0, A, hA, fun σ h hL => ?_, fun σ h => ?_⟩
    · exact w_L_parse_0 ⟨h.1.1, w_B_parse_0 (q_slot r1 (fun s => absurd s hv) (fun n => k_L_parse_9 (L_thr i1_ne h)))⟩
    · exact w_M_parse_0 (gD (s_M_isSlot r1) (by omega) (fun n => w_M_parse_7 (thrK h.1 i1_ne (fun σ1 m1 f1 y1 => mOut_e i1_ne h hA f1 y1))) (fun s => absurd s hv))
  obtain ⟨sl, rfl⟩ : ∃ n : Nat, z1 = n := ⟨z1.toNat, by omega⟩
  have hsl : sl < 4 := by omega
  have k3 := hA.1 sl hsl
  have hl := hA.2.2.1.1
  have hc := hA.2.2.1.2
  have hA0 : okA (aS A, aH A, [], aW A, aR A) := okA_L hA (Nat.zero_le _) (fun c hc => by cases hc)
  have v13 := vi (show sl < 13 by omega) (by omega)
  have w3 := vc (show sl < 2000000 by omega)
  have v4 : vp_in (4 : Int32) 13 := by rw [vp_in_iff]; decide
  have c4 : (4 : Int32).toNatClampNeg = 4 := by decide
  -- the class up to the end of the reading
  have cls : ∀ σ, isB σ x N0 A → ∀ Q : pm_O → pm_H → Prop, (∀ σ6, isB σ6 x N0 (aS A, aH A, [], aW A, aR A) → fr (pB x) σ σ6 → (match text (aL A) with
      | .inl p => Q (.inl (some (.int ((-100 : Int32) - Int32.ofInt (p : Int))))) σ6
      | .inr as => if as.any badI then Q (.inr 0) (pm_thr σ6) else ∀ π, isTr σ6 (x + 490) (as.foldl clsI (0, [])) π → okTr (as.foldl clsI (0, [])) → pm_C 37 158 [.ref x, .int (Int32.ofInt (sl : Int)), .ref (x + 490)] σ6 (pm_kI (fun r12 σ12 => Q (.inl (some (.int r12))) σ12) (pm_kX 38 129 false [] Q)))) → pm_C 38 129 [.ref x, .int (Int32.ofInt (sl : Int))] σ Q := by
    intro σ h Q post
    obtain ⟨πd, td⟩ := h.2.2.1
    have hre := h.2.2.2.2.1
    refine w_B_parse_0 (q_slot r1 (fun _ => ?_) (fun n => absurd hv n))
    simp only [h.1.1, h.1.2.1.2.1, h.1.2.1.2.2.2.1, isr_ref, rv_ref, hre.1.1, true_and, forall_eq]
    refine (s_Re_readInto hre hc td (by omega)).use (by omega) (fun σ1 p1 => ?_)
    obtain ⟨f1, p1⟩ := p1
    have key : ∀ i w T, rs5 σ1 (x + 1591) (aL A) i w → isTr σ1 (x + 490) T πd → isB σ1 x N0 A := fun i w T hr ht => isB_rd h f1 hr.1 ht.z
    have fin : isB σ1 x N0 A → isB (pm_sF σ1 501 (x + 1591) (.int ((0 : Int32)))) x N0 (aS A, aH A, [], aW A, aR A) := fun b => by
      refine (isB_let b (fr_sF (by unfold pRe; omega)) ⟨reS_sF b.2.2.2.2.1.1 ⟨by decide, by decide⟩, ?_, Nat.zero_le _, fun i c hc => by cases hc⟩).1
      rw [F_sF, if_pos ⟨rfl, rfl⟩]; rfl
    have fr6 : fr (pB x) σ (pm_sF σ1 501 (x + 1591) (.int ((0 : Int32)))) := (f1.mono (fun b hb => by unfold rdP pRe pTr at hb; unfold pB; omega)).tr (fr_sF (by unfold pB; omega))
    have clr : ∀ (K : pm_H → Prop) (X : Nat → pm_H → Prop), pm_t σ1 (x + 1591) = 6 → K (pm_sF σ1 501 (x + 1591) (.int ((0 : Int32)))) → pm_C 37 43 [.ref (x + 1591)] σ1 (pm_kV K X) := fun K X h6 hK => w_Re_clear_0 ⟨h6, fun σ2 e2 => by rw [e2]; exact hK⟩
    cases et : text (aL A) with
    | inl p =>
      rw [et] at p1 post
      obtain ⟨⟨w', q1⟩, T', q2⟩ := p1
      have b1 := key _ _ _ q1 q2
      have b6 := fin b1
      have pp := post _ b6 fr6
      simp only [b1.1.1, b1.1.2.1.2.2.2.1, q1.1.1.1, isr_ref, rv_ref, true_and, forall_eq]
      refine clr _ _ q1.1.1.1 ⟨fun _ => ?_, fun q => absurd rfl q⟩
      have z : iv (pm_F (pm_sF σ1 501 (x + 1591) (.int ((0 : Int32)))) 502 (x + 1591)) = Int32.ofInt (p : Int) := by rw [F_sF, if_neg (by omega)]; exact q1.2.2.1
      simp only [b6.1.1, b6.1.2.1.2.2.2.1, b6.2.2.2.2.1.1.1, z, isr_ref, rv_ref, true_and, forall_eq]
      exact pp
    | inr as =>
      rw [et] at p1 post
      obtain ⟨⟨j, q1⟩, q2, q3⟩ := p1
      have b1 := key _ _ _ q1 q2
      have b6 := fin b1
      have pp := post _ b6 fr6
      simp only [b1.1.1, b1.1.2.1.2.2.2.1, q1.1.1.1, isr_ref, rv_ref, true_and, forall_eq]
      refine clr _ _ q1.1.1.1 ⟨fun q => absurd q (show ¬ (1 : Int32) = 0 by decide), fun _ => ?_⟩
      have z5 : iv (pm_F (pm_sF σ1 501 (x + 1591) (.int ((0 : Int32)))) 505 (x + 1591)) = bI (as.any badI) := by
        rw [F_sF, if_neg (by omega)]
        have := q1.2.2.2.2.1
        rw [Bool.false_or] at this
        exact this
      have z6 : iv (pm_F (pm_sF σ1 501 (x + 1591) (.int ((0 : Int32)))) 506 (x + 1591)) = 0 := by rw [F_sF, if_neg (by omega)]; exact q1.2.2.2.2.2
      have t6 : isTr (pm_sF σ1 501 (x + 1591) (.int ((0 : Int32)))) (x + 490) (as.foldl clsI (0, [])) πd := isTr_fr q2 (fr_sF (P := fun b => b = x + 1591) rfl) (fun b hb => by unfold pTr at hb; omega)
      simp only [b6.1.1, b6.1.2.1.2.1, b6.1.2.1.2.2.2.1, b6.2.2.2.2.1.1.1, z5, z6, isr_ref, rv_ref, not_true_eq_false, false_implies, true_implies, and_true, true_and, forall_eq, bI_0]
      cases eb : as.any badI with
      | true =>
        simp only [eb, if_true] at pp
        exact ⟨fun q => (by cases q), fun _ => pp⟩
      | false =>
        simp only [eb, Bool.false_eq_true, if_false] at pp
        exact ⟨fun _ => pp πd t6 q3, fun q => absurd rfl q⟩
  sorry
