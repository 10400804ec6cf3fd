/-! ===== compose ===== -/
theorem isM_rf {m : Nat} {σ σ2 σ3 : pm_H} {sl : Nat} {A : AS} {T : Tr} (h : isM σ m A) (hA : okA A) (hsl : sl < 4) (p1 : mHi σ2 m (hPush (aH A) (sl, aS A sl))) (f1 : frX m (fun f => f = 1211) (fun i => 1 ≤ i ∧ i ≤ 10) (fun s => 5 ≤ s) σ σ2) (f2 : frM m (fun s => s = sl) σ2 σ3) (t2 : mTr σ3 m sl T) : isM σ3 m (chg A sl T) ∧ fr (fun b => m ≤ b ∧ b ≤ m + 34) σ σ3 :=
  isM_chg h hA hsl (As0 := fun _ => False) frX.rf (fun _ q => q.elim) p1 f1 f2.X (fun _ q => q.elim) (fun i q => by omega) (fun _ q => q) t2
/-- the composer has worked -/
theorem isB_cx {σ σ' : pm_H} {x N0 : Nat} {A : AS} {π : Nat → Nat} (h : isB σ x N0 A) (f : fr (cxP (x + 1680) (x + 490)) σ σ') (hc : isCo σ' (x + 1680)) (ht : isTr0 σ' (x + 490) π) : isB σ' x N0 A := by
  have k : ∀ b, ¬ pTr (x + 490) b → ¬ pCo (x + 1680) b → ¬ cxP (x + 1680) (x + 490) b := fun b h1 h2 q => by
    rcases q with q | q
    · exact h1 q
    · exact h2 ⟨q.1, q.2.1⟩
  refine isB_mk h f ⟨k _ ?_ ?_, k _ ?_ ?_⟩ (fun i hi => Or.inl ⟨fun b hb => k _ ?_ ?_, rfl⟩) (Or.inr ⟨π, ht⟩) (Or.inl ⟨fun b hb => k _ ?_ ?_, rfl⟩) (Or.inl ⟨fun b hb => k _ ?_ ?_, rfl⟩) (Or.inl ⟨fun b hb => k _ ?_ ?_, rfl⟩) (Or.inl ⟨fun b hb => k _ ?_ ?_, rfl⟩) (Or.inl (fun b hb => k _ ?_ ?_)) (Or.inl (fun b hb => k _ ?_ ?_)) (Or.inl (k _ ?_ ?_)) (Or.inr hc)
  · unfold pTr; omega
  · unfold pCo; omega
  · unfold pTr; omega
  · unfold pCo; omega
  · unfold pTr at hb ⊢; omega
  · unfold pTr at hb; unfold pCo; omega
  · unfold pHi at hb; unfold pTr; omega
  · unfold pHi at hb; unfold pCo; omega
  · unfold pRe at hb; unfold pTr; omega
  · unfold pRe at hb; unfold pCo; omega
  · unfold pWo at hb; unfold pTr; omega
  · unfold pWo at hb; unfold pCo; omega
  · unfold pWo at hb; unfold pTr; omega
  · unfold pWo at hb; unfold pCo; omega
  · unfold pO at hb; unfold pTr; omega
  · unfold pO at hb; unfold pCo; omega
  · unfold pDo at hb; unfold pTr; omega
  · unfold pDo at hb; unfold pCo; omega
  · unfold pTr; omega
  · unfold pCo; omega
theorem J_compose {x m N0 L : Nat} {A : AS} (hA : okA A) {z1 z2 z3 : Int} (r1 : rg z1) (r2 : rg z2) (r3 : rg z3) : ∃ k v A', okA A' ∧ (∀ σ, isB σ x N0 A → isL σ x N0 L → pm_C 39 276 [.ref x, .int (Int32.ofInt z1), .int (Int32.ofInt z2), .int (Int32.ofInt z3), .ref L] σ (bOut x N0 1 6 σ k v A' L)) ∧ ∀ σ, isM σ m A → pm_C 39 238 [.ref m, .int (Int32.ofInt z1), .int (Int32.ofInt z2), .int (Int32.ofInt z3)] σ (mOut m σ k v A') := by
  by_cases hv : (0 ≤ z1 ∧ z1 < 4) ∧ (0 ≤ z2 ∧ z2 < 4) ∧ (0 ≤ z3 ∧ z3 < 4)
  · obtain ⟨s1, rfl⟩ : ∃ n : Nat, z1 = n := ⟨z1.toNat, by omega⟩
    obtain ⟨s2, rfl⟩ : ∃ n : Nat, z2 = n := ⟨z2.toNat, by omega⟩
    obtain ⟨s3, rfl⟩ : ∃ n : Nat, z3 = n := ⟨z3.toNat, by omega⟩
    have h1 : s1 < 4 := by omega
    have h2 : s2 < 4 := by omega
    have h3 : s3 < 4 := by omega
    have k1 := hA.1 s1 h1
    have k2 := hA.1 s2 h2
    have k3 := hA.1 s3 h3
    generalize eT1 : aS A s1 = T1 at k1
    generalize eT2 : aS A s2 = T2 at k2
    have v1 := vi (show s1 < 4 from h1) (by omega)
    have w1 := vc (show s1 < 2000000 by omega)
    have v2 := vi (show s2 < 4 from h2) (by omega)
    have w2 := vc (show s2 < 2000000 by omega)
    have v13 := vi (show s3 < 13 by omega) (by omega)
    have w3 := vc (show s3 < 2000000 by omega)
    have v4 : vp_in (4 : Int32) 13 := by rw [vp_in_iff]; decide
    have c4 : (4 : Int32).toNatClampNeg = 4 := by decide
    have cls : ∀ σ, isB σ x N0 A → ∀ (Q : pm_O → pm_H → Prop), (∀ σ' : pm_H, fr (pB x) σ σ' → isB σ' x N0 A → (match cmpS T1 T2 with
        | none => True
        | some st => (∃ π, isTr σ' (x + 490) (finA T1.1 T2.1 st.1 st.1.length, st.2) π) ∧ st.1.length ≤ 12 ∧ ∀ r, r ∈ st.2 → okR r) → (((bI (cmpS T1 T2).isSome) = 0 → Q (.inr 4) (pm_thr σ')) ∧ (¬ (bI (cmpS T1 T2).isSome) = 0 → pm_C 37 158 [.ref x, .int (Int32.ofInt (s3 : Int)), .ref (x + 490)] σ' (pm_kI (fun r12 σ12 => Q (.inl (some (.int r12))) σ12) (pm_kX 38 145 false [] Q))))) → pm_C 38 145 [.ref x, .int (Int32.ofInt (s1 : Int)), .int (Int32.ofInt (s2 : Int)), .int (Int32.ofInt (s3 : Int))] σ Q := by
      intro σ h Q post
      obtain ⟨π1, t1⟩ := h.2.1 s1 h1
      obtain ⟨π2, t2⟩ := h.2.1 s2 h2
      rw [eT1] at t1
      rw [eT2] at t2
      obtain ⟨πd, td⟩ := h.2.2.1
      have hc := h.2.2.2.2.2.2.2.2.2.2
      refine w_B_compose_0 (q_slot r1 (fun _ => q_slot r2 (fun _ => q_slot r3 (fun _ => ?_) (fun n => absurd hv.2.2 n)) (fun n => absurd hv.2.1 n)) (fun n => absurd hv.1 n))
      simp only [h.1.1, h.1.2.1.1, h.1.2.1.2.1, h.1.2.1.2.2.2.2.2.2.2.2.2, h.1.2.2.1, h.1.2.2.2.1, h.1.2.2.2.2 s1 h1, h.1.2.2.2.2 s2 h2, hc.1, isr_ref, rv_ref, v1, w1, v2, w2, true_and, forall_eq]
      refine (s_Co_build hc td t1 k1 t2 k2 (by omega) (by omega) (by omega)).use (by omega) (fun σ' p => ?_)
      obtain ⟨f, c, p⟩ := p
      have hpB : ∀ b, cxP (x + 1680) (x + 490) b → pB x b := fun b hb => by unfold cxP pTr at hb; unfold pB; omega
      have b : isB σ' x N0 A := by
        refine isB_cx (π := πd) h f c ?_
        cases eo : cmpS T1 T2 with
        | none => rw [eo] at p; exact p
        | some st => rw [eo] at p; exact p.1.z
      have pp := post σ' (f.mono hpB) b (by
        cases eo : cmpS T1 T2 with
        | none => trivial
        | some st => rw [eo] at p; exact ⟨⟨πd, p.1⟩, p.2⟩)
      simp only [b.1.1, b.1.2.1.2.1, isr_ref, rv_ref, true_and, forall_eq]
      exact pp
    have mdl : ∀ σ, isM σ m A → ∀ (Q : pm_O → pm_H → Prop), (∀ τ, isM τ m A → fr (fun b => m ≤ b ∧ b ≤ m + 34) σ τ → (match cmpS T1 T2 with
        | none => pm_R 12 238 156 [.ref m, pm_U, pm_U, .int (Int32.ofInt (s3 : Int)), pm_U, pm_U, pm_U, pm_U, pm_U] [.int ((2 : Int32)), .ref m] τ Q
        | some st => mTr τ m 4 (finA T1.1 T2.1 st.1 st.1.length, st.2) → (st.1.length ≤ 12 ∧ ∀ r, r ∈ st.2 → okR r) → pm_R 12 238 156 [.ref m, pm_U, pm_U, .int (Int32.ofInt (s3 : Int)), pm_U, pm_U, pm_U, pm_U, pm_U] [.int ((0 : Int32)), .ref m] τ Q)) → pm_C 39 238 [.ref m, .int (Int32.ofInt (s1 : Int)), .int (Int32.ofInt (s2 : Int)), .int (Int32.ofInt (s3 : Int))] σ Q := by
      intro σ h Q post
      have hm := h.1
      refine w_M_compose_0 (gD (s_M_isSlot r1) (by omega) (fun n => absurd hv.1 n) (fun _ => gD (s_M_isSlot r2) (by omega) (fun n => absurd hv.2.1 n) (fun _ => gD (s_M_isSlot r3) (by omega) (fun n => absurd hv.2.2 n) (fun _ => ?_))))
      refine w_M_compose_13 (thr0 hm (fun σ1 m1 f1 y1 => ?_))
      have ht1 := frX.T f1 (h.2.1 s1 h1) (hA.1 s1 h1) id
      have ht2 := frX.T f1 (h.2.1 s2 h2) (hA.1 s2 h2) id
      rw [eT1] at ht1
      rw [eT2] at ht2
      have n40 : (1240 : Nat) ∉ mTab.map (fun e => e.1) := by decide
      have n41 : (1241 : Nat) ∉ mTab.map (fun e => e.1) := by decide
      have mA := mS_sA (a := m + 1) (j := 4) (v := .int ((0 : Int32))) m1
      have mB := mS_sA (a := m + 2) (j := 4) (v := .int ((0 : Int32))) mA
      have mC := mS_sF (a := m) (v := .int ((0 : Int32))) mB n40
      have mD := mS_sF (a := m) (v := .int ((0 : Int32))) mC n41
      simp only [m1.1, m1.f1, m1.t1, m1.l1, mA.1, mA.f2, mA.t2, mA.l2, mB.1, mC.1, mD.1, v4, c4, isr_ref, rv_ref, true_and, forall_eq]
      refine ⟨rfl, ?_⟩
      have fA : frM m (fun s => s = 4) σ1 (pm_sA σ1 (m + 1) 4 (.int ((0 : Int32)))) := ⟨fr_sA ⟨by omega, by omega⟩, fun s' hs' => mEq_sA (Or.inr (Or.inl ⟨by omega, fun q => hs' q.symm⟩))⟩
      have fB' : frM m (fun s => s = 4) (pm_sA σ1 (m + 1) 4 (.int ((0 : Int32)))) (pm_sA (pm_sA σ1 (m + 1) 4 (.int ((0 : Int32)))) (m + 2) 4 (.int ((0 : Int32)))) := ⟨fr_sA ⟨by omega, by omega⟩, fun s' hs' => mEq_sA (Or.inr (Or.inl ⟨by omega, fun q => hs' q.symm⟩))⟩
      have f8 : cmF m σ1 (pm_sF (pm_sF (pm_sA (pm_sA σ1 (m + 1) 4 (.int ((0 : Int32)))) (m + 2) 4 (.int ((0 : Int32)))) 1240 m (.int ((0 : Int32)))) 1241 m (.int ((0 : Int32)))) := frX.tr (frX.tr (frX.mono (fA.tr fB').X (fun _ q => q.elim) (fun i q => Or.inl q) (fun _ q => q)) (frX.mono frX_sF (fun _ q => Or.inl q) (fun _ q => q.elim) (fun _ q => q.elim))) (frX.mono frX_sF (fun _ q => Or.inr q) (fun _ q => q.elim) (fun _ q => q.elim))
      have p8 : mpP (pm_sF (pm_sF (pm_sA (pm_sA σ1 (m + 1) 4 (.int ((0 : Int32)))) (m + 2) 4 (.int ((0 : Int32)))) 1240 m (.int ((0 : Int32)))) 1241 m (.int ((0 : Int32)))) m [] := by
        refine ⟨?_, ⟨by decide, fun q hq => by cases hq⟩, fun i p hi => by cases hi⟩
        rw [F_sF, if_neg (by omega), F_sF, if_pos ⟨rfl, rfl⟩]; rfl
      have i8 : iv (pm_F (pm_sF (pm_sF (pm_sA (pm_sA σ1 (m + 1) 4 (.int ((0 : Int32)))) (m + 2) 4 (.int ((0 : Int32)))) 1240 m (.int ((0 : Int32)))) 1241 m (.int ((0 : Int32)))) 1241 m) = 0 := by
        rw [F_sF, if_pos ⟨rfl, rfl⟩]; rfl
      have t8 : mTr (pm_sF (pm_sF (pm_sA (pm_sA σ1 (m + 1) 4 (.int ((0 : Int32)))) (m + 2) 4 (.int ((0 : Int32)))) 1240 m (.int ((0 : Int32)))) 1241 m (.int ((0 : Int32)))) m 4 (0, []) := by
        refine ⟨?_, ?_, Nat.zero_le _, fun k r hk => by simp at hk⟩
        · rw [A_sF, A_sF, A_sA, if_neg (by omega), A_sA, if_pos ⟨rfl, rfl⟩]; rfl
        · rw [A_sF, A_sF, A_sA, if_pos ⟨rfl, rfl⟩]; rfl
      generalize pm_sF (pm_sF (pm_sA (pm_sA σ1 (m + 1) 4 (.int ((0 : Int32)))) (m + 2) 4 (.int ((0 : Int32)))) 1240 m (.int ((0 : Int32)))) 1241 m (.int ((0 : Int32))) = σ8 at *
      have fin := s_M_finds (a := 0) (b := 0) mD p8 (by decide) (by decide)
      refine fin.use (by omega) (fun σ9 p9 => ?_)
      obtain ⟨f9, p9⟩ := p9
      rw [if_neg (show ¬ 12 ≤ fnd (0 * 12 + 0) [] by decide)] at p9
      have i9 : mxI σ9 m (finA T1.1 T2.1 ([0], ([] : List Rl)).1 0) ([0], []) := ⟨by rw [p9.2]; exact i8, p9.1, frX.T f9 t8 ⟨show (0 : Nat) < 4096 by decide, fun r hr => by cases hr⟩ id, fun r hr => by cases hr⟩
      have f19 : cmF m σ1 σ9 := frX.tr f8 (frX.mono f9 (fun _ q => q) (fun i q => by omega) (fun _ q => q.elim))
      have toM : ∀ τ, cmF m σ1 τ → isM τ m A ∧ fr (fun b => m ≤ b ∧ b ≤ m + 34) σ τ := fun τ f => by
        have f' : frX m (fun f => f = 1200 ∨ f = 1240 ∨ f = 1241) (fun i => (1 ≤ i ∧ i ≤ 9) ∨ (30 ≤ i ∧ i ≤ 34)) (fun s => s = 4) σ τ := frX.tr (frX.mono f1 (fun _ q => Or.inl q) (fun _ q => q.elim) (fun _ q => q.elim)) (frX.mono f (fun _ q => Or.inr q) (fun _ q => q) (fun _ q => q))
        exact ⟨isM_scr h hA f' (fun g hg => by omega) (fun i hi => by omega) (fun _ q => q), f'.fr⟩
      refine pm_R_up (s_M_pairs (tg := s3) m1 ht1 k1 h1 ht2 k2 h2 (fun τ f st hc ht hl => ?_) (fun τ f hc => ?_) 12 0 ([0], []) σ9 rfl (Nat.zero_le _) rfl i9 f19) (by omega)
      · have pp := post τ (toM τ f).1 (toM τ f).2
        rw [hc] at pp
        exact pp ht hl
      · have pp := post τ (toM τ f).1 (toM τ f).2
        rw [hc] at pp
        exact pp
    cases eo : cmpS T1 T2 with
    | none =>
      rw [eo] at cls mdl
      refine ⟨2, 0, A, hA, fun σ h hL => ?_, fun σ h => ?_⟩
      · refine w_L_compose_0 ⟨h.1.1, cls σ h _ (fun σ' f b _ => ⟨fun _ => ?_, fun q => absurd rfl q⟩)⟩
        exact k_L_compose_14 (L_ex i2_ne (isB_thr b) (fB_thr f (fun _ q => q)))
      · refine mdl σ h _ (fun τ hM f => w_M_compose_156 (thrK hM.1 i2_ne (fun σ1 m1 f1 y1 => ?_)))
        have e := mOut_e (r := 0) i2_ne hM hA f1 y1
        exact ⟨e.1, e.2.1, e.2.2.1, f.tr e.2.2.2⟩
    | some st =>
      rw [eo] at cls mdl
      by_cases hok : st.1.length ≤ 12 ∧ ∀ r, r ∈ st.2 → okR r
      rotate_left
      · refine ⟨0, 0, A, hA, fun σ h hL => ?_, fun σ h => ?_⟩
        · exact w_L_compose_0 ⟨h.1.1, cls σ h _ (fun σ' f b p => absurd p.2 hok)⟩
        · exact mdl σ h _ (fun τ hM f ht hl => absurd hl hok)
      have fl : finA T1.1 T2.1 st.1 st.1.length < 4096 := Nat.lt_of_lt_of_le (finA_lt T1.1 T2.1 st.1 _) (Nat.pow_le_pow_right (by decide) (show st.1.length ≤ 12 from hok.1))
      have okT' : okTr (finA T1.1 T2.1 st.1 st.1.length, st.2) := ⟨fl, hok.2⟩
      generalize eTT : ((finA T1.1 T2.1 st.1 st.1.length, st.2) : Tr) = TT at *
      refine ⟨0, (Int32.ofInt (TT.2.length : Int)).toInt64, chg A s3 TT, okA_chg hA h3 okT', fun σ h hL => ?_, fun σ h => ?_⟩
      · refine w_L_compose_0 ⟨h.1.1, cls σ h _ (fun σ' f b p => ⟨fun q => absurd q (show ¬ (1 : Int32) = 0 by decide), fun _ => ?_⟩)⟩
        obtain ⟨⟨πd, pt⟩, _⟩ := p
        try rw [eTT] at pt
        refine (s_B_replace b hA h3 pt okT' (Or.inr (by omega)) (by omega)).use (by omega) (fun σ2 p2 => ?_)
        exact L_ok hL p2.1 (fB_fr (f.tr (p2.2.mono (fun c hc => pRep_B h3 hc))) (fun _ q => q))
      · refine mdl σ h _ (fun τ hM f ht hl => ?_)
        try rw [eTT] at ht
        refine w_M_compose_156 (thr0 hM.1 (fun σ1 m1 f1 y1 => ?_))
        have g1 := isM_scr hM hA f1 (fun _ q => Or.inl q) (fun _ q => q.elim) (fun _ q => q.elim)
        have t1 := frX.T f1 ht okT' id
        refine ⟨m1.1, (s_M_keeps m1 g1.2.2.1 hA.2.1 (g1.2.1 s3 h3) k3 h3).use (by omega) (fun τ3 p3 => ?_)⟩
        have m3 := p3.2.mS m1 (fun f hf => by rw [hf]; decide)
        have t3 := p3.2.T t1 okT' (by omega)
        refine ⟨m3.1, (s_M_copies (sl := 4) m3 t3 okT' (by omega) (by omega)).use (by omega) (fun τ4 p4 => ?_)⟩
        have m4 := p4.2.mS m3
        have g := isM_rf g1 hA h3 p3.1 p3.2 p4.2 p4.1
        simp only [m4.1, m4.f2, m4.t2, m4.l2, isr_ref, rv_ref, v13, w3, p4.1.2.1, true_and, forall_eq]
        exact ⟨⟨_, rfl, fun _ => rfl⟩, by rw [p4.2.X.F id, p3.2.F (by decide)]; exact y1, g.1, (f.tr f1.fr).tr g.2⟩
  · refine ⟨1, 0, A, hA, fun σ h hL => ?_, fun σ h => ?_⟩
    · exact w_L_compose_0 ⟨h.1.1, w_B_compose_0 (q_slot r1 (fun s => q_slot r2 (fun s' => q_slot r3 (fun s'' => absurd ⟨s, s', s''⟩ hv) (fun n => k_L_compose_11 (L_thr i1_ne h))) (fun n => k_L_compose_11 (L_thr i1_ne h))) (fun n => k_L_compose_11 (L_thr i1_ne h)))⟩
    · have fin : pm_R 39 238 13 [.ref m, .int (Int32.ofInt z1), .int (Int32.ofInt z2), .int (Int32.ofInt z3), pm_U, pm_U, pm_U, pm_U, pm_U] [.int ((1 : Int32)), .ref m] σ (mOut m σ 1 0 A) := w_M_compose_13 (thrK h.1 i1_ne (fun σ1 m1 f1 y1 => mOut_e i1_ne h hA f1 y1))
      exact w_M_compose_0 (gD (s_M_isSlot r1) (by omega) (fun n => fin) (fun s => gD (s_M_isSlot r2) (by omega) (fun n => fin) (fun s' => gD (s_M_isSlot r3) (by omega) (fun n => fin) (fun s'' => absurd ⟨s, s', s''⟩ hv))))
