/-! ===== parse ===== -/
theorem isB_rd {σ σ' : pm_H} {x N0 : Nat} {A : AS} {π : Nat → Nat} (h : isB σ x N0 A) (f : fr (rdP (x + 1591) (x + 490)) σ σ') (hr : isRe σ' (x + 1591) (aL A)) (ht : isTr0 σ' (x + 490) π) : isB σ' x N0 A := by
  have k : ∀ b, ¬ pTr (x + 490) b → ¬ pRe (x + 1591) b → ¬ rdP (x + 1591) (x + 490) b := fun b h1 h2 q => q.elim h2 h1
  refine isB_mk h f ⟨k _ ?_ ?_, k _ ?_ ?_⟩ (fun i hi => Or.inl ⟨fun b hb => k _ ?_ ?_, rfl⟩) (Or.inr ⟨π, ht⟩) (Or.inl ⟨fun b hb => k _ ?_ ?_, rfl⟩) (Or.inr hr) (Or.inl ⟨fun b hb => k _ ?_ ?_, rfl⟩) (Or.inl ⟨fun b hb => k _ ?_ ?_, rfl⟩) (Or.inl (fun b hb => k _ ?_ ?_)) (Or.inl (fun b hb => k _ ?_ ?_)) (Or.inl (k _ ?_ ?_)) (Or.inl (fun b hb => k _ ?_ ?_))
  · unfold pTr; omega
  · unfold pRe; omega
  · unfold pTr; omega
  · unfold pRe; omega
  · unfold pTr at hb ⊢; omega
  · unfold pTr at hb; unfold pRe; omega
  · unfold pHi at hb; unfold pTr; omega
  · unfold pHi at hb; unfold pRe; omega
  · unfold pWo at hb; unfold pTr; omega
  · unfold pWo at hb; unfold pRe; omega
  · unfold pWo at hb; unfold pTr; omega
  · unfold pWo at hb; unfold pRe; omega
  · unfold pO at hb; unfold pTr; omega
  · unfold pO at hb; unfold pRe; omega
  · unfold pDo at hb; unfold pTr; omega
  · unfold pDo at hb; unfold pRe; omega
  · unfold pTr; omega
  · unfold pRe; omega
  · unfold pCo at hb; unfold pTr; omega
  · unfold pCo at hb; unfold pRe; omega
theorem isM_par {σ τ : pm_H} {m : Nat} {A : AS} (h : isM σ m A) (hA : okA A) (f : frX m (fun f => f = 1200 ∨ f = 1213 ∨ f = 1214 ∨ f = 1215 ∨ f = 1216) (fun i => 1 ≤ i ∧ i ≤ 9) (fun s => s = 4) σ τ) (z : iv (pm_F τ 1213 m) = 0) : isM τ m (aS A, aH A, [], aW A, aR A) := by
  refine isM_mk h hA f (fun f hf => ?_) (fun i hi => Or.inl ⟨fun q => by omega, rfl⟩) (Or.inl ⟨fun q => by omega, fun q => by omega, fun s hs q => by omega, rfl⟩) (Or.inr ⟨z, Nat.zero_le _, fun i c hc => by cases hc⟩) (Or.inl ⟨fun q => by omega, fun q => by omega, rfl⟩) (Or.inl ⟨fun q => by omega, fun q => by omega, rfl⟩)
  rcases hf with e | e | e | e | e <;> (rw [e]; decide)
theorem foldl_same : ∀ (as : List It) (T : Tr), as.any badI = false → as.foldl clsI T = as.foldl modI T := by
  intro as
  induction as with
  | nil => intro T _; rfl
  | cons a as ih =>
    intro T h
    rw [List.any_cons, Bool.or_eq_false_iff] at h
    show as.foldl clsI (clsI T a) = as.foldl modI (modI T a)
    rw [clsI_mod h.1]
    exact ih _ h.2
theorem s_M_parse_65 {σ : pm_H} {m sl : Nat} {l : List Nat} {Q : pm_O → pm_H → Prop} (hm : mS σ m) (h : txM m l false (0, []) (text l) σ)
    (h0 : ∀ p, text l = .inl p → Q (.inl (some (.int ((-100 : Int32) - Int32.ofInt (p : Int))))) (pm_sF σ 1213 m (.int ((0 : Int32)))))
    (h1 : ∀ as, text l = .inr as → as.any badI = true → pm_R 6 202 83 [.ref m, .int (Int32.ofInt (sl : Int))] [.int ((1 : Int32)), .ref m] (pm_sF σ 1213 m (.int ((0 : Int32)))) Q)
    (h2 : ∀ as, text l = .inr as → as.any badI = false → mTr (pm_sF σ 1213 m (.int ((0 : Int32)))) m 4 (as.foldl modI (0, [])) → okTr (as.foldl modI (0, [])) → pm_R 6 202 83 [.ref m, .int (Int32.ofInt (sl : Int))] [.int ((0 : Int32)), .ref m] (pm_sF σ 1213 m (.int ((0 : Int32)))) Q) : pm_R 6 202 65 [.ref m, .int (Int32.ofInt (sl : Int))] [] σ Q := by
  have f1 : frX m (fun f => f = 1213) (fun _ => False) (fun _ => False) σ (pm_sF σ 1213 m (.int ((0 : Int32)))) := frX_sF
  refine w_M_parse_65 ⟨hm.1, fun σ1 e1 => ?_⟩
  rw [e1]
  cases et : text l with
  | inl p =>
    rw [et] at h
    have h' : mEr σ m p := h
    have z : iv (pm_F (pm_sF σ 1213 m (.int ((0 : Int32)))) 1215 m) = Int32.ofInt (p : Int) := by rw [f1.F (by omega)]; exact h'.2.1
    refine ⟨hm.1, fun z2 ez => ⟨fun q => ?_, fun _ => ⟨hm.1, fun z3 e3 => ?_⟩⟩⟩
    · rw [ez, z] at q; exact absurd q (lt0p (by have := h'.2.2; omega))
    · rw [e3, z]; exact h0 p et
  | inr as =>
    rw [et] at h
    obtain ⟨⟨j, hj⟩, ht, hT⟩ := h
    have z : iv (pm_F (pm_sF σ 1213 m (.int ((0 : Int32)))) 1215 m) = -1 := by rw [f1.F (by omega)]; exact hj.2.2.2.2.2.1
    have z6 : iv (pm_F (pm_sF σ 1213 m (.int ((0 : Int32)))) 1216 m) = bI (as.any badI) := by
      rw [f1.F (by omega)]
      have := hj.2.2.2.2.2.2
      rw [Bool.false_or] at this
      exact this
    refine ⟨hm.1, fun z2 ez => ⟨fun _ => ⟨hm.1, fun z3 e3 => ?_⟩, fun q => ?_⟩⟩
    · rw [e3, z6]
      cases eb : as.any badI with
      | false => exact ⟨fun _ => h2 as et eb (f1.T ht hT id) hT, fun q => absurd rfl q⟩
      | true => exact ⟨fun q => absurd q (show ¬ (1 : Int32) = 0 by decide), fun _ => h1 as et eb⟩
    · rw [ez, z] at q; exact absurd im_1 q
theorem J_parse {x m N0 L : Nat} {A : AS} (hA : okA A) {z1 : Int} (r1 : rg z1) : ∃ k v A', okA A' ∧ (∀ σ, isB σ x N0 A → isL σ x N0 L → pm_C 39 261 [.ref x, .int (Int32.ofInt z1), .ref L] σ (bOut x N0 1 6 σ k v A' L)) ∧ ∀ σ, isM σ m A → pm_C 39 202 [.ref m, .int (Int32.ofInt z1)] σ (mOut m σ k v A') := by
  by_cases hv : 0 ≤ z1 ∧ z1 < 4
  rotate_left
  · refine ⟨1, 0, A, hA, fun σ h hL => ?_, fun σ h => ?_⟩
    · exact w_L_parse_0 ⟨h.1.1, w_B_parse_0 (q_slot r1 (fun s => absurd s hv) (fun n => k_L_parse_9 (L_thr i1_ne h)))⟩
    · exact w_M_parse_0 (gD (s_M_isSlot r1) (by omega) (fun n => w_M_parse_7 (thrK h.1 i1_ne (fun σ1 m1 f1 y1 => mOut_e i1_ne h hA f1 y1))) (fun s => absurd s hv))
  obtain ⟨sl, rfl⟩ : ∃ n : Nat, z1 = n := ⟨z1.toNat, by omega⟩
  have hsl : sl < 4 := by omega
  have k3 := hA.1 sl hsl
  have hl := hA.2.2.1.1
  have hc := hA.2.2.1.2
  have hA0 : okA (aS A, aH A, [], aW A, aR A) := okA_L hA (Nat.zero_le _) (fun c hc => by cases hc)
  have v13 := vi (show sl < 13 by omega) (by omega)
  have w3 := vc (show sl < 2000000 by omega)
  have v4 : vp_in (4 : Int32) 13 := by rw [vp_in_iff]; decide
  have c4 : (4 : Int32).toNatClampNeg = 4 := by decide
  -- the class up to the end of the reading
  have cls : ∀ σ, isB σ x N0 A → ∀ Q : pm_O → pm_H → Prop, (∀ σ6, isB σ6 x N0 (aS A, aH A, [], aW A, aR A) → fr (pB x) σ σ6 → (match text (aL A) with
      | .inl p => Q (.inl (some (.int ((-100 : Int32) - Int32.ofInt (p : Int))))) σ6
      | .inr as => if as.any badI then Q (.inr 0) (pm_thr σ6) else ∀ π, isTr σ6 (x + 490) (as.foldl clsI (0, [])) π → okTr (as.foldl clsI (0, [])) → pm_C 37 158 [.ref x, .int (Int32.ofInt (sl : Int)), .ref (x + 490)] σ6 (pm_kI (fun r12 σ12 => Q (.inl (some (.int r12))) σ12) (pm_kX 38 129 false [] Q)))) → pm_C 38 129 [.ref x, .int (Int32.ofInt (sl : Int))] σ Q := by
    intro σ h Q post
    obtain ⟨πd, td⟩ := h.2.2.1
    have hre := h.2.2.2.2.1
    refine w_B_parse_0 (q_slot r1 (fun _ => ?_) (fun n => absurd hv n))
    simp only [h.1.1, h.1.2.1.2.1, h.1.2.1.2.2.2.1, isr_ref, rv_ref, hre.1.1, true_and, forall_eq]
    refine (s_Re_readInto hre hc td (by omega)).use (by omega) (fun σ1 p1 => ?_)
    obtain ⟨f1, p1⟩ := p1
    have key : ∀ i w T, rs5 σ1 (x + 1591) (aL A) i w → isTr σ1 (x + 490) T πd → isB σ1 x N0 A := fun i w T hr ht => isB_rd h f1 hr.1 ht.z
    have fin : isB σ1 x N0 A → isB (pm_sF σ1 501 (x + 1591) (.int ((0 : Int32)))) x N0 (aS A, aH A, [], aW A, aR A) := fun b => by
      refine (isB_let b (fr_sF (by unfold pRe; omega)) ⟨reS_sF b.2.2.2.2.1.1 ⟨by decide, by decide⟩, ?_, Nat.zero_le _, fun i c hc => by cases hc⟩).1
      rw [F_sF, if_pos ⟨rfl, rfl⟩]; rfl
    have fr6 : fr (pB x) σ (pm_sF σ1 501 (x + 1591) (.int ((0 : Int32)))) := (f1.mono (fun b hb => by unfold rdP pRe pTr at hb; unfold pB; omega)).tr (fr_sF (by unfold pB; omega))
    have clr : ∀ (K : pm_H → Prop) (X : Nat → pm_H → Prop), pm_t σ1 (x + 1591) = 6 → K (pm_sF σ1 501 (x + 1591) (.int ((0 : Int32)))) → pm_C 37 43 [.ref (x + 1591)] σ1 (pm_kV K X) := fun K X h6 hK => w_Re_clear_0 ⟨h6, fun σ2 e2 => by rw [e2]; exact hK⟩
    cases et : text (aL A) with
    | inl p =>
      rw [et] at p1 post
      obtain ⟨⟨w', q1⟩, T', q2⟩ := p1
      have b1 := key _ _ _ q1 q2
      have b6 := fin b1
      have pp := post _ b6 fr6
      simp only [b1.1.1, b1.1.2.1.2.2.2.1, q1.1.1.1, isr_ref, rv_ref, true_and, forall_eq]
      refine clr _ _ q1.1.1.1 ⟨fun _ => ?_, fun q => absurd rfl q⟩
      have z : iv (pm_F (pm_sF σ1 501 (x + 1591) (.int ((0 : Int32)))) 502 (x + 1591)) = Int32.ofInt (p : Int) := by rw [F_sF, if_neg (by omega)]; exact q1.2.2.1
      simp only [b6.1.1, b6.1.2.1.2.2.2.1, b6.2.2.2.2.1.1.1, z, isr_ref, rv_ref, true_and, forall_eq]
      exact pp
    | inr as =>
      rw [et] at p1 post
      obtain ⟨⟨j, q1⟩, q2, q3⟩ := p1
      have b1 := key _ _ _ q1 q2
      have b6 := fin b1
      have pp := post _ b6 fr6
      simp only [b1.1.1, b1.1.2.1.2.2.2.1, q1.1.1.1, isr_ref, rv_ref, true_and, forall_eq]
      refine clr _ _ q1.1.1.1 ⟨fun q => absurd q (show ¬ (1 : Int32) = 0 by decide), fun _ => ?_⟩
      have z5 : iv (pm_F (pm_sF σ1 501 (x + 1591) (.int ((0 : Int32)))) 505 (x + 1591)) = bI (as.any badI) := by
        rw [F_sF, if_neg (by omega)]
        have := q1.2.2.2.2.1
        rw [Bool.false_or] at this
        exact this
      have z6 : iv (pm_F (pm_sF σ1 501 (x + 1591) (.int ((0 : Int32)))) 506 (x + 1591)) = 0 := by rw [F_sF, if_neg (by omega)]; exact q1.2.2.2.2.2
      have t6 : isTr (pm_sF σ1 501 (x + 1591) (.int ((0 : Int32)))) (x + 490) (as.foldl clsI (0, [])) πd := isTr_fr q2 (fr_sF (P := fun b => b = x + 1591) rfl) (fun b hb => by unfold pTr at hb; omega)
      simp only [b6.1.1, b6.1.2.1.2.1, b6.1.2.1.2.2.2.1, b6.2.2.2.2.1.1.1, z5, z6, isr_ref, rv_ref, not_true_eq_false, false_implies, true_implies, and_true, true_and, forall_eq, bI_0]
      cases eb : as.any badI with
      | true =>
        simp only [eb, if_true] at pp
        exact ⟨fun q => (by cases q), fun _ => pp⟩
      | false =>
        simp only [eb, Bool.false_eq_true, if_false] at pp
        exact ⟨fun _ => pp πd t6 q3, fun q => absurd rfl q⟩
  -- the model
  have mdl : ∀ σ, isM σ m A → ∀ Q : pm_O → pm_H → Prop, (∀ τ, isM τ m (aS A, aH A, [], aW A, aR A) → iv (pm_F τ 1200 m) = 0 → fr (fun b => m ≤ b ∧ b ≤ m + 34) σ τ → (match text (aL A) with
      | .inl p => Q (.inl (some (.int ((-100 : Int32) - Int32.ofInt (p : Int))))) τ
      | .inr as => if as.any badI then pm_R 6 202 83 [.ref m, .int (Int32.ofInt (sl : Int))] [.int ((1 : Int32)), .ref m] τ Q else mTr τ m 4 (as.foldl modI (0, [])) → okTr (as.foldl modI (0, [])) → pm_R 6 202 83 [.ref m, .int (Int32.ofInt (sl : Int))] [.int ((0 : Int32)), .ref m] τ Q)) → pm_C 6 202 [.ref m, .int (Int32.ofInt (sl : Int))] σ Q := by
    intro σ h Q post
    refine w_M_parse_0 (gD (s_M_isSlot r1) (by omega) (fun n => absurd hv n) (fun _ => w_M_parse_7 (thr0 h.1 (fun σ1 m1 f1 y1 => ?_))))
    have n14 : (1214 : Nat) ∉ mTab.map (fun e => e.1) := by decide
    have n15 : (1215 : Nat) ∉ mTab.map (fun e => e.1) := by decide
    have n16 : (1216 : Nat) ∉ mTab.map (fun e => e.1) := by decide
    have mA := mS_sF (a := m) (v := .int ((0 : Int32))) m1 n14
    have mB := mS_sF (a := m) (v := .int ((-1 : Int32))) mA n15
    have mC := mS_sF (a := m) (v := .int ((0 : Int32))) mB n16
    have mD := mS_sA (a := m + 1) (j := 4) (v := .int ((0 : Int32))) mC
    have mE := mS_sA (a := m + 2) (j := 4) (v := .int ((0 : Int32))) mD
    have fP : pF m σ1 (pm_sF (pm_sF (pm_sF σ1 1214 m (.int ((0 : Int32)))) 1215 m (.int ((-1 : Int32)))) 1216 m (.int ((0 : Int32)))) := frX.tr (frX.tr (pF_sF (Or.inl rfl)) (pF_sF (Or.inr (Or.inl rfl)))) (pF_sF (Or.inr (Or.inr rfl)))
    have hL : mLt σ1 m (aL A) := mLt_X h.2.2.2.1 f1 (by decide) id
    have hLP : mLt (pm_sF (pm_sF (pm_sF σ1 1214 m (.int ((0 : Int32)))) 1215 m (.int ((-1 : Int32)))) 1216 m (.int ((0 : Int32)))) m (aL A) := mLt_X hL fP (by decide) id
    have z14 : iv (pm_F (pm_sF (pm_sF (pm_sF σ1 1214 m (.int ((0 : Int32)))) 1215 m (.int ((-1 : Int32)))) 1216 m (.int ((0 : Int32)))) 1214 m) = Int32.ofInt ((0 : Nat) : Int) := by
      rw [F_sF, if_neg (by omega), F_sF, if_neg (by omega), F_sF, if_pos ⟨rfl, rfl⟩]; rfl
    have z15 : iv (pm_F (pm_sF (pm_sF (pm_sF σ1 1214 m (.int ((0 : Int32)))) 1215 m (.int ((-1 : Int32)))) 1216 m (.int ((0 : Int32)))) 1215 m) = -1 := by
      rw [F_sF, if_neg (by omega), F_sF, if_pos ⟨rfl, rfl⟩]; rfl
    have z16 : iv (pm_F (pm_sF (pm_sF (pm_sF σ1 1214 m (.int ((0 : Int32)))) 1215 m (.int ((-1 : Int32)))) 1216 m (.int ((0 : Int32)))) 1216 m) = bI false := by
      rw [F_sF, if_pos ⟨rfl, rfl⟩]; rfl
    simp only [m1.1, m1.t1, m1.t2, t_sF, t_sA, mC.1, mC.f1, mC.t1, mC.l1, mD.1, mD.f2, mD.t2, mD.l2, mE.1, v4, c4, isr_ref, rv_ref, true_and, forall_eq]
    refine ⟨rfl, ?_⟩
    simp only [F_sA, hLP.1]
    generalize pm_sF (pm_sF (pm_sF σ1 1214 m (.int ((0 : Int32)))) 1215 m (.int ((-1 : Int32)))) 1216 m (.int ((0 : Int32))) = σ2 at *
    have fA : frM m (fun s => s = 4) σ2 (pm_sA σ2 (m + 1) 4 (.int ((0 : Int32)))) := ⟨fr_sA ⟨by omega, by omega⟩, fun s' hs' => mEq_sA (Or.inr (Or.inl ⟨by omega, fun q => hs' q.symm⟩))⟩
    have fB' : frM m (fun s => s = 4) (pm_sA σ2 (m + 1) 4 (.int ((0 : Int32)))) (pm_sA (pm_sA σ2 (m + 1) 4 (.int ((0 : Int32)))) (m + 2) 4 (.int ((0 : Int32)))) := ⟨fr_sA ⟨by omega, by omega⟩, fun s' hs' => mEq_sA (Or.inr (Or.inl ⟨by omega, fun q => hs' q.symm⟩))⟩
    have fM := (fA.tr fB').X
    have t3 : mTr (pm_sA (pm_sA σ2 (m + 1) 4 (.int ((0 : Int32)))) (m + 2) 4 (.int ((0 : Int32)))) m 4 (0, []) := by
      refine ⟨?_, ?_, Nat.zero_le _, fun k r hk => by simp at hk⟩
      · rw [A_sA, if_neg (by omega), A_sA, if_pos ⟨rfl, rfl⟩]; rfl
      · rw [A_sA, if_pos ⟨rfl, rfl⟩]; rfl
    have ok3 : mOk (pm_sA (pm_sA σ2 (m + 1) 4 (.int ((0 : Int32)))) (m + 2) 4 (.int ((0 : Int32)))) m (aL A) 0 false := ⟨mE, mLt_X hLP fM id (by omega), hc, z14, by decide, z15, z16⟩
    have f3 : itG m σ1 (pm_sA (pm_sA σ2 (m + 1) 4 (.int ((0 : Int32)))) (m + 2) 4 (.int ((0 : Int32)))) := frX.tr (pF_it fP) (frX.mono fM (fun _ q => q.elim) (fun _ q => q) (fun _ q => q))
    have okT0 : okTr (0, []) := ⟨by show (0 : Nat) < 4096; decide, fun r hr => by cases hr⟩
    generalize pm_sA (pm_sA σ2 (m + 1) 4 (.int ((0 : Int32)))) (m + 2) 4 (.int ((0 : Int32))) = σ3 at *
    have go : ∀ τ, itG m σ1 τ → txM m (aL A) false (0, []) (text (aL A)) τ → pm_R 6 202 65 [.ref m, .int (Int32.ofInt (sl : Int))] [] τ Q := by
      intro τ g tx
      have f' : frX m (fun f => f = 1200 ∨ f = 1213 ∨ f = 1214 ∨ f = 1215 ∨ f = 1216) (fun i => 1 ≤ i ∧ i ≤ 9) (fun s => s = 4) σ (pm_sF τ 1213 m (.int ((0 : Int32)))) := frX.tr (frX.mono f1 (fun _ q => Or.inl q) (fun _ q => q.elim) (fun _ q => q.elim)) (frX.tr (frX.mono g (fun _ q => Or.inr (Or.inr q)) (fun _ q => q) (fun _ q => q)) (frX.mono frX_sF (fun _ q => Or.inr (Or.inl q)) (fun _ q => q.elim) (fun _ q => q.elim)))
      have hM := isM_par h hA f' (by rw [F_sF, if_pos ⟨rfl, rfl⟩]; rfl)
      have z0 : iv (pm_F (pm_sF τ 1213 m (.int ((0 : Int32)))) 1200 m) = 0 := by rw [F_sF, if_neg (by omega), g.F (by omega)]; exact y1
      have pp := post _ hM z0 f'.fr
      refine s_M_parse_65 (itG_mS g m1) tx (fun p et => ?_) (fun as et eb => ?_) (fun as et eb ht hT => ?_)
      · rw [et] at pp; exact pp
      · rw [et] at pp; simp only [eb, if_true] at pp; exact pp
      · rw [et] at pp; simp only [eb, Bool.false_eq_true, if_false] at pp; exact pp ht hT
    rw [n_le0 (by omega)]
    refine ⟨fun q => ?_, fun q => ?_⟩
    · have en : aL A = [] := List.length_eq_zero_iff.mp q
      refine go σ3 f3 ?_
      have et : text (aL A) = .inr [] := if_pos en
      rw [et]
      exact ⟨⟨0, ok3⟩, t3, okT0⟩
    · have et : text (aL A) = rItems (aL A) 120 0 := if_neg (fun e => q (by rw [e]; rfl))
      rw [et] at go
      exact s_M_items (σ0 := σ1) 120 0 false (0, []) σ3 (by omega) (Nat.zero_le _) ok3 t3 okT0 (Nat.le_refl _) f3 go _
  cases et : text (aL A) with
  | inl p =>
    rw [et] at cls mdl
    refine ⟨0, ((-100 : Int32) - Int32.ofInt (p : Int)).toInt64, (aS A, aH A, [], aW A, aR A), hA0, fun σ h hL => ?_, fun σ h => ?_⟩
    · exact w_L_parse_0 ⟨h.1.1, cls σ h _ (fun σ6 b f => L_ok hL b (fB_fr f (fun _ q => q)))⟩
    · exact pm_C_up (mdl σ h _ (fun τ hM z f => ⟨⟨_, rfl, fun _ => rfl⟩, z, hM, f⟩)) (by omega)
  | inr as =>
    rw [et] at cls mdl
    cases eb : as.any badI with
    | true =>
      simp only [eb, if_true] at cls mdl
      refine ⟨1, 0, (aS A, aH A, [], aW A, aR A), hA0, fun σ h hL => ?_, fun σ h => ?_⟩
      · exact w_L_parse_0 ⟨h.1.1, cls σ h _ (fun σ6 b f => k_L_parse_9 (L_ex i1_ne (isB_thr b) (fB_thr f (fun _ q => q))))⟩
      · refine pm_C_up (mdl σ h _ (fun τ hM z f => w_M_parse_83 (thrK hM.1 i1_ne (fun σ1 m1 f1 y1 => ?_)))) (by omega)
        have e := mOut_e (r := 0) i1_ne hM hA0 f1 y1
        exact ⟨e.1, e.2.1, e.2.2.1, f.tr e.2.2.2⟩
    | false =>
      simp only [eb, Bool.false_eq_true, if_false] at cls mdl
      have es := foldl_same as (0, []) eb
      rw [es] at cls
      by_cases okT : okTr (as.foldl modI (0, []))
      rotate_left
      · refine ⟨0, 0, A, hA, fun σ h hL => ?_, fun σ h => ?_⟩
        · exact w_L_parse_0 ⟨h.1.1, cls σ h _ (fun σ6 b f π t ok => absurd ok okT)⟩
        · exact pm_C_up (mdl σ h _ (fun τ hM z f t ok => absurd ok okT)) (by omega)
      generalize as.foldl modI (0, []) = T at *
      refine ⟨0, (Int32.ofInt (T.2.length : Int)).toInt64, chg (aS A, aH A, [], aW A, aR A) sl T, okA_chg hA0 hsl okT, fun σ h hL => ?_, fun σ h => ?_⟩
      · refine w_L_parse_0 ⟨h.1.1, cls σ h _ (fun σ6 b f π t _ => ?_)⟩
        refine (s_B_replace b hA0 hsl t okT (Or.inr (by omega)) (by omega)).use (by omega) (fun σ2 p2 => ?_)
        exact L_ok hL p2.1 (fB_fr (f.tr (p2.2.mono (fun c hc => pRep_B hsl hc))) (fun _ q => q))
      · refine pm_C_up (mdl σ h _ (fun τ hM z f ht _ => w_M_parse_83 (thr0 hM.1 (fun σ1 m1 f1 y1 => ?_)))) (by omega)
        have g1 := isM_scr hM hA0 f1 (fun _ q => Or.inl q) (fun _ q => q.elim) (fun _ q => q.elim)
        have t1 := frX.T f1 ht okT id
        refine ⟨m1.1, (s_M_keeps m1 g1.2.2.1 hA0.2.1 (g1.2.1 sl hsl) k3 hsl).use (by omega) (fun τ3 p3 => ?_)⟩
        have m3 := p3.2.mS m1 (fun f hf => by rw [hf]; decide)
        have t3 := p3.2.T t1 okT (by omega)
        refine ⟨m3.1, (s_M_copies (sl := 4) m3 t3 okT (by omega) (by omega)).use (by omega) (fun τ4 p4 => ?_)⟩
        have m4 := p4.2.mS m3
        have g := isM_rf g1 hA0 hsl p3.1 p3.2 p4.2 p4.1
        simp only [m4.1, m4.f2, m4.t2, m4.l2, isr_ref, rv_ref, v13, w3, p4.1.2.1, true_and, forall_eq]
        exact ⟨⟨_, rfl, fun _ => rfl⟩, by rw [p4.2.X.F id, p3.2.F (by decide)]; exact y1, g.1, (f.tr f1.fr).tr g.2⟩
