/-! ===== invert ===== -/
/-- the draft has changed -/
theorem isB_draft {P : Nat → Prop} {σ σ' : pm_H} {x N0 : Nat} {A : AS} {π : Nat → Nat} (h : isB σ x N0 A) (f : fr P σ σ') (hP : ∀ b, P b → pTr (x + 490) b ∨ (pCo (x + 1680) b ∧ ¬ b = x + 1680 ∧ ¬ b = x + 1680 + 3 ∧ ¬ b = x + 1680 + 4)) (ht : isTr0 σ' (x + 490) π) : isB σ' x N0 A := by
  have k : ∀ b, ¬ pTr (x + 490) b → ¬ pCo (x + 1680) b → ¬ P b := fun b h1 h2 q => (hP b q).elim h1 (fun q => h2 q.1)
  refine isB_mk h f ⟨k _ ?_ ?_, k _ ?_ ?_⟩ (fun i hi => Or.inl ⟨fun b hb => k _ ?_ ?_, rfl⟩) (Or.inr ⟨π, ht⟩) (Or.inl ⟨fun b hb => k _ ?_ ?_, rfl⟩) (Or.inl ⟨fun b hb => k _ ?_ ?_, rfl⟩) (Or.inl ⟨fun b hb => k _ ?_ ?_, rfl⟩) (Or.inl ⟨fun b hb => k _ ?_ ?_, rfl⟩) (Or.inl (fun b hb => k _ ?_ ?_)) (Or.inl (fun b hb => k _ ?_ ?_)) (Or.inl (k _ ?_ ?_)) (Or.inr (isCo_fr h.2.2.2.2.2.2.2.2.2.2 f ⟨fun q => ?_, fun q => ?_, fun q => ?_⟩))
  · unfold pTr; omega
  · unfold pCo; omega
  · unfold pTr; omega
  · unfold pCo; omega
  · unfold pTr at hb ⊢; omega
  · unfold pTr at hb; unfold pCo; omega
  · unfold pHi at hb; unfold pTr; omega
  · unfold pHi at hb; unfold pCo; omega
  · unfold pRe at hb; unfold pTr; omega
  · unfold pRe at hb; unfold pCo; omega
  · unfold pWo at hb; unfold pTr; omega
  · unfold pWo at hb; unfold pCo; omega
  · unfold pWo at hb; unfold pTr; omega
  · unfold pWo at hb; unfold pCo; omega
  · unfold pO at hb; unfold pTr; omega
  · unfold pO at hb; unfold pCo; omega
  · unfold pDo at hb; unfold pTr; omega
  · unfold pDo at hb; unfold pCo; omega
  · unfold pTr; omega
  · unfold pCo; omega
  · rcases hP _ q with q | q
    · unfold pTr at q; omega
    · exact q.2.1 rfl
  · rcases hP _ q with q | q
    · unfold pTr at q; omega
    · exact q.2.2.1 rfl
  · rcases hP _ q with q | q
    · unfold pTr at q; omega
    · exact q.2.2.2 rfl
theorem all_iff {rs : List Rl} : rs.all isInv = true ↔ ∀ r, r ∈ rs → isInv r = true := List.all_eq_true
theorem s_B_inv_bad {σ : pm_H} {x s2 a k : Nat} {T : Tr} {π : Nat → Nat} {Q : pm_O → pm_H → Prop} (ht : isTr σ a T π) (hT : okTr T) (hk : firstBad T.2 k) (hQ : Q (.inr 1) (pm_thr σ)) : pm_R 38 146 11 [.ref x, pm_U, .int (Int32.ofInt (s2 : Int)), .ref a, .int ((0 : Int32)), pm_U] [] σ Q := by
  have l40 := ht.2.2.2.2.1
  obtain ⟨⟨rk, hrk, ek⟩, low⟩ := hk
  have kl := (List.getElem?_eq_some_iff.mp hrk).1
  have v06 : vp_in (0 : Int32) 6 := by rw [vp_in_iff]; decide
  have step : ∀ i (r : Rl), T.2[i]? = some r → (isInv r = true → pm_R 38 146 11 [.ref x, pm_U, .int (Int32.ofInt (s2 : Int)), .ref a, .int (Int32.ofInt ((i + 1 : Nat) : Int)), pm_U] [] σ Q) → pm_R 38 146 11 [.ref x, pm_U, .int (Int32.ofInt (s2 : Int)), .ref a, .int (Int32.ofInt (i : Nat)), pm_U] [] σ Q := by
    intro i r hr next
    have hi := (List.getElem?_eq_some_iff.mp hr).1
    have ok := hT.at hr
    have l6 := ok.2.2.2.1
    have ra := ht.at hr
    have ru := ra.2.2.2
    have q6 : ¬ Int32.ofInt (T.2.length : Int) ≤ Int32.ofInt (i : Nat) := by rw [oi_le (by omega)]; omega
    refine w_B_invert_11 ⟨ht.1.1, fun z ez => ⟨fun q => ?_, fun _ => ?_⟩⟩
    · rw [ez, ht.2.2.1] at q; exact absurd q q6
    simp only [ht.1.1, ht.1.2.1, ht.1.2.2.1, ht.1.2.2.2.1, ra.1, ra.2.1, ra.2.2.1, ru.1.1, ru.2.2.2.1, iv_int, isr_ref, rv_ref, true_and, forall_eq, oi_s]
    rw [z_eq1 (nrg (by omega))]
    refine ⟨fun e => ?_, fun _ => hQ⟩
    obtain ⟨t, et⟩ := len_1 (show (rTs r).length = 1 by omega)
    have at0 := ru.2.2.2.2.2.2.2.2 0 t (by rw [et]; rfl)
    have t5 : t < 100000 := ok.ts t (by rw [et]; simp)
    simp only [ru.1.1, ru.1.2.2.1, ru.1.2.2.2.2.1, ru.1.2.2.2.2.2, v06, c00, at0, iv_int, isr_ref, rv_ref, true_and, forall_eq]
    refine gD (s_offT (by omega)) (by omega) (fun _ => hQ) (fun c => next ?_)
    rw [isInv_t et]; exact decide_eq_true (by omega)
  refine lp0 (fun i => [.ref x, pm_U, .int (Int32.ofInt (s2 : Int)), .ref a, .int (Int32.ofInt (i : Nat)), pm_U]) k (fun i hi next => ?_) (step k rk hrk (fun q => by rw [ek] at q; cases q)) 0 (Nat.zero_le _)
  exact step i _ (List.getElem?_eq_getElem (show i < T.2.length by omega)) (fun _ => next)
theorem s_B_inv_ok {σ : pm_H} {x s2 a : Nat} {T : Tr} {π : Nat → Nat} {Q : pm_O → pm_H → Prop} (ht : isTr σ a T π) (hT : okTr T) (hi : ∀ r, r ∈ T.2 → isInv r = true) (hQ : pm_R 38 146 11 [.ref x, pm_U, .int (Int32.ofInt (s2 : Int)), .ref a, .int (Int32.ofInt (T.2.length : Int)), pm_U] [] σ Q) : pm_R 38 146 11 [.ref x, pm_U, .int (Int32.ofInt (s2 : Int)), .ref a, .int ((0 : Int32)), pm_U] [] σ Q := by
  have l40 := ht.2.2.2.2.1
  have v06 : vp_in (0 : Int32) 6 := by rw [vp_in_iff]; decide
  refine lp0 (fun i => [.ref x, pm_U, .int (Int32.ofInt (s2 : Int)), .ref a, .int (Int32.ofInt (i : Nat)), pm_U]) T.2.length (fun i hi' next => ?_) hQ 0 (Nat.zero_le _)
  have hr := List.getElem?_eq_getElem hi'
  generalize T.2[i] = r at hr
  have ok := hT.at hr
  have ra := ht.at hr
  have ru := ra.2.2.2
  have q6 : ¬ Int32.ofInt (T.2.length : Int) ≤ Int32.ofInt (i : Nat) := by rw [oi_le (by omega)]; omega
  obtain ⟨t, et, ht100⟩ := isInv_iff.mp (hi r (List.mem_of_getElem? hr))
  have at0 := ru.2.2.2.2.2.2.2.2 0 t (by rw [et]; rfl)
  have t5 : t < 100000 := ok.ts t (by rw [et]; simp)
  have l1 : Int32.ofInt ((rTs r).length : Int) = 1 := by rw [et]; rfl
  refine w_B_invert_11 ⟨ht.1.1, fun z ez => ⟨fun q => ?_, fun _ => ?_⟩⟩
  · rw [ez, ht.2.2.1] at q; exact absurd q q6
  simp only [ht.1.1, ht.1.2.1, ht.1.2.2.1, ht.1.2.2.2.1, ra.1, ra.2.1, ra.2.2.1, ru.1.1, ru.1.2.2.1, ru.1.2.2.2.2.1, ru.1.2.2.2.2.2, ru.2.2.2.1, l1, v06, c00, at0, not_true_eq_false, false_implies, true_implies, and_true, iv_int, isr_ref, rv_ref, true_and, forall_eq, oi_s]
  exact gD (s_offT (by omega)) (by omega) (fun n => absurd (show (100 : Int) ≤ (t : Int) by omega) n) (fun _ => next)
theorem J_invert {x m N0 L : Nat} {A : AS} (hA : okA A) {z1 z2 : Int} (r1 : rg z1) (r2 : rg z2) : ∃ k v A', okA A' ∧ (∀ σ, isB σ x N0 A → isL σ x N0 L → pm_C 39 277 [.ref x, .int (Int32.ofInt z1), .int (Int32.ofInt z2), .ref L] σ (bOut x N0 1 6 σ k v A' L)) ∧ ∀ σ, isM σ m A → pm_C 39 239 [.ref m, .int (Int32.ofInt z1), .int (Int32.ofInt z2)] σ (mOut m σ k v A') := by
  by_cases hv : (0 ≤ z1 ∧ z1 < 4) ∧ (0 ≤ z2 ∧ z2 < 4)
  · obtain ⟨s1, rfl⟩ : ∃ n : Nat, z1 = n := ⟨z1.toNat, by omega⟩
    obtain ⟨s2, rfl⟩ : ∃ n : Nat, z2 = n := ⟨z2.toNat, by omega⟩
    have h1 : s1 < 4 := by omega
    have h2 : s2 < 4 := by omega
    have k1 := hA.1 s1 h1
    have k2 := hA.1 s2 h2
    generalize eT : aS A s1 = T at k1
    have v1 := vi (show s1 < 4 from h1) (by omega)
    have w1 := vc (show s1 < 2000000 by omega)
    have v13 := vi (show s1 < 13 by omega) (by omega)
    have vt13 := vi (show s2 < 13 by omega) (by omega)
    have wt := vc (show s2 < 2000000 by omega)
    by_cases hi : ∀ r, r ∈ T.2 → isInv r = true
    · have okI := invs_ok k1 hi T.2.length
      rw [List.take_length] at okI
      refine ⟨0, (Int32.ofInt ((invs T.2).length : Int)).toInt64, chg A s2 (T.1, invs T.2), okA_chg hA h2 okI, fun σ h hL => ?_, fun σ h => ?_⟩
      · obtain ⟨π1, t1⟩ := h.2.1 s1 h1
        rw [eT] at t1
        obtain ⟨πd, td⟩ := h.2.2.1
        refine w_L_invert_0 ⟨h.1.1, w_B_invert_0 (q_slot r1 (fun _ => q_slot r2 (fun _ => ?_) (fun n => absurd hv.2 n)) (fun n => absurd hv.1 n))⟩
        simp only [h.1.1, h.1.2.1.1, h.1.2.2.1, h.1.2.2.2.1, h.1.2.2.2.2 s1 h1, isr_ref, rv_ref, v1, w1, true_and, forall_eq]
        refine s_B_inv_ok t1 k1 hi (w_B_invert_11 ⟨t1.1.1, fun z ez => ⟨fun _ => ?_, fun q => ?_⟩⟩)
        · simp only [h.1.1, h.1.2.1.2.1, td.1.1, isr_ref, rv_ref, true_and, forall_eq]
          refine (s_Tr_becomeInverse td t1 k1 hi (by omega)).use (by omega) (fun σ' p => ?_)
          have b := isB_draft h p.2 (fun b hb => Or.inl hb) p.1.z
          simp only [b.1.1, b.1.2.1.2.1, isr_ref, rv_ref, true_and, forall_eq]
          refine (s_B_replace b hA h2 p.1 okI (Or.inr (by omega)) (by omega)).use (by omega) (fun σ2 p2 => ?_)
          exact L_ok2 hL p2.1 (fB_fr ((p.2.mono (fun c hc => by unfold pTr at hc; unfold pB; omega)).tr (p2.2.mono (fun c hc => pRep_B h2 hc))) (fun _ q => q))
        · rw [ez, t1.2.2.1] at q; exact absurd (Int32.le_refl _) q
      · have hm := h.1
        have ht := h.2.1 s1 h1
        rw [eT] at ht
        have l40 := ht.2.2.1
        refine w_M_invert_0 (gD (s_M_isSlot r1) (by omega) (fun n => absurd hv.1 n) (fun _ => gD (s_M_isSlot r2) (by omega) (fun n => absurd hv.2 n) (fun _ => thr0 hm (fun σ1 m1 f1 y1 => ?_))))
        refine s_M_inv_18 hm ht k1 h1 f1 y1 (fun τ f z => ?_)
        rw [all_iff.mpr hi, if_pos rfl] at z
        have mt := f.mS hm
        have tt := frX.T f ht k1 id
        have vx4 : vp_in (4 : Int32) 13 := by rw [vp_in_iff]; decide
        have c4 : (4 : Int32).toNatClampNeg = 4 := by decide
        refine w_M_invert_18 ?_
        simp only [mt.1, mt.f2, mt.t2, mt.l2, mt.f1, mt.t1, mt.l1, t_sA, l_sA, F_sA, isr_ref, rv_ref, v13, w1, vx4, c4, tt.1, tt.2.1, z, not_true_eq_false, false_implies, true_implies, and_true, true_and, forall_eq]
        refine ⟨fun _ => ?_, fun q => absurd (Int32.le_refl _) q⟩
        have f0 : frM m (fun s => s = 4) τ (pm_sA (pm_sA τ (m + 1) 4 (.int (Int32.ofInt (T.1 : Int)))) (m + 2) 4 (.int ((0 : Int32)))) := frM.tr ⟨fr_sA ⟨by omega, by omega⟩, fun s' hs' => mEq_sA (Or.inr (Or.inl ⟨by omega, fun q => hs' q.symm⟩))⟩ ⟨fr_sA ⟨by omega, by omega⟩, fun s' hs' => mEq_sA (Or.inr (Or.inl ⟨by omega, fun q => hs' q.symm⟩))⟩
        have t0 : mTr (pm_sA (pm_sA τ (m + 1) 4 (.int (Int32.ofInt (T.1 : Int)))) (m + 2) 4 (.int ((0 : Int32)))) m 4 (T.1, []) := by
          refine ⟨?_, ?_, Nat.zero_le _, fun k r hk => by simp at hk⟩
          · rw [A_sA, if_neg (by omega), A_sA, if_pos ⟨rfl, rfl⟩]; rfl
          · rw [A_sA, if_pos ⟨rfl, rfl⟩]; rfl
        refine s_M_inv_68 (tg := s2) mt tt k1 h1 hi f0 t0 (fun τ2 f2 t2 => ?_)
        have m2 := f2.mS mt
        have tt2 := f2.mTr tt k1 (by omega)
        have fT : frT m (fun i => 1 ≤ i ∧ i ≤ 9) (fun s => s = 4) σ τ2 := frX.tr (frX.mono f (fun _ q => q) (fun _ q => q.elim) (fun _ q => q.elim)) (f2.X.mono (fun _ q => q.elim) (fun _ q => q) (fun _ q => q))
        have g1 := isM_scr h hA fT (fun _ q => Or.inl q) (fun i q => by omega) (fun _ q => q)
        refine w_M_invert_68 ?_
        simp only [m2.1, m2.f2, m2.t2, m2.l2, isr_ref, rv_ref, v13, w1, tt2.2.1, true_and, forall_eq]
        refine ⟨fun _ => (s_M_keeps m2 g1.2.2.1 hA.2.1 (g1.2.1 s2 h2) k2 h2).use (by omega) (fun τ3 p3 => ?_), fun q => absurd (Int32.le_refl _) q⟩
        have m3 := p3.2.mS m2 (fun f hf => by rw [hf]; decide)
        have t3 := p3.2.T t2 okI (by omega)
        refine ⟨m3.1, (s_M_copies (sl := 4) m3 t3 okI (by omega) (by omega)).use (by omega) (fun τ4 p4 => ?_)⟩
        have m4 := p4.2.mS m3
        have g := isM_chg h hA h2 fT (fun i q => by omega) p3.1 p3.2 p4.2.X (fun _ q => q.elim) (fun i q => by omega) (fun _ q => q) p4.1
        simp only [m4.1, m4.f2, m4.t2, m4.l2, isr_ref, rv_ref, vt13, wt, p4.1.2.1, true_and, forall_eq]
        exact ⟨⟨_, rfl, fun _ => rfl⟩, by rw [p4.2.X.F id, p3.2.F (by decide), f2.X.F id]; exact z, g.1, g.2⟩
    · obtain ⟨k, hk⟩ := bad_ex hi
      have nall : ¬ T.2.all isInv = true := fun q => hi (all_iff.mp q)
      refine ⟨2, 0, A, hA, fun σ h hL => ?_, fun σ h => ?_⟩
      · obtain ⟨π1, t1⟩ := h.2.1 s1 h1
        rw [eT] at t1
        refine w_L_invert_0 ⟨h.1.1, w_B_invert_0 (q_slot r1 (fun _ => q_slot r2 (fun _ => ?_) (fun n => absurd hv.2 n)) (fun n => absurd hv.1 n))⟩
        simp only [h.1.1, h.1.2.1.1, h.1.2.2.1, h.1.2.2.2.1, h.1.2.2.2.2 s1 h1, isr_ref, rv_ref, v1, w1, true_and, forall_eq]
        exact s_B_inv_bad t1 k1 hk (k_L_invert_13 (L_thr i2_ne h))
      · have hm := h.1
        have ht := h.2.1 s1 h1
        rw [eT] at ht
        have l40 := ht.2.2.1
        refine w_M_invert_0 (gD (s_M_isSlot r1) (by omega) (fun n => absurd hv.1 n) (fun _ => gD (s_M_isSlot r2) (by omega) (fun n => absurd hv.2 n) (fun _ => thr0 hm (fun σ1 m1 f1 y1 => ?_))))
        refine s_M_inv_18 hm ht k1 h1 f1 y1 (fun τ f z => ?_)
        rw [if_neg nall] at z
        have mt := f.mS hm
        have tt := frX.T f ht k1 id
        have i20 : ¬ (2 : Int32) = 0 := by decide
        refine w_M_invert_18 ?_
        simp only [mt.1, mt.f2, mt.t2, mt.l2, isr_ref, rv_ref, v13, w1, tt.2.1, z, i20, not_false_eq_true, false_implies, true_implies, true_and, forall_eq]
        exact ⟨fun _ => mOut_e i2_ne h hA f z, fun q => absurd (Int32.le_refl _) q⟩
  · refine ⟨1, 0, A, hA, fun σ h hL => ?_, fun σ h => ?_⟩
    · exact w_L_invert_0 ⟨h.1.1, w_B_invert_0 (q_slot r1 (fun s => q_slot r2 (fun s' => absurd ⟨s, s'⟩ hv) (fun n => k_L_invert_10 (L_thr i1_ne h))) (fun n => k_L_invert_10 (L_thr i1_ne h)))⟩
    · exact w_M_invert_0 (gD (s_M_isSlot r1) (by omega) (fun n => thrK h.1 i1_ne (fun σ1 m1 f1 y1 => mOut_e i1_ne h hA f1 y1)) (fun s => gD (s_M_isSlot r2) (by omega) (fun n => thrK h.1 i1_ne (fun σ1 m1 f1 y1 => mOut_e i1_ne h hA f1 y1)) (fun s' => absurd ⟨s, s'⟩ hv)))
