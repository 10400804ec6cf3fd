/-! ===== operations: setFinal, addRule, addRange ===== -/
theorem i1_ne : (1 : Int32) ≠ 0 := by decide
theorem i2_ne : (2 : Int32) ≠ 0 := by decide
theorem i3_ne : (3 : Int32) ≠ 0 := by decide
theorem J_setFinal {x m N0 L : Nat} {A : AS} (hA : okA A) {z1 z2 : Int} {b : Bool} (r1 : rg z1) (r2 : rg z2) : ∃ k v A', okA A' ∧ (∀ σ, isB σ x N0 A → isL σ x N0 L → pm_C 39 249 [.ref x, .int (Int32.ofInt z1), .int (Int32.ofInt z2), .int (bI b), .ref L] σ (bOut x N0 1 6 σ k v A' L)) ∧ ∀ σ, isM σ m A → pm_C 39 178 [.ref m, .int (Int32.ofInt z1), .int (Int32.ofInt z2), .int (bI b)] σ (mOutB m σ k v A') := by
  by_cases hv : (0 ≤ z1 ∧ z1 < 4) ∧ (0 ≤ z2 ∧ z2 < 12)
  · obtain ⟨sl, rfl⟩ : ∃ n : Nat, z1 = n := ⟨z1.toNat, by omega⟩
    obtain ⟨s, rfl⟩ : ∃ n : Nat, z2 = n := ⟨z2.toNat, by omega⟩
    have hsl : sl < 4 := by omega
    have hs : s < 12 := by omega
    have hT := hA.1 sl hsl
    generalize eT : aS A sl = T at hT
    refine ⟨0, if T.1.testBit s then 1 else 0, chg A sl (mkF T.1 s b, T.2), okA_chg hA hsl ⟨mkF_lt hT.1 hs, hT.2⟩, fun σ h hL => ?_, fun σ h => ?_⟩
    · refine w_L_setFinal_0 ⟨h.1.1, w_B_setFinal_0 (q_slot r1 (fun _ => q_state r2 (fun _ => ?_) (fun n => absurd hv.2 n)) (fun n => absurd hv.1 n))⟩
      obtain ⟨π, ht⟩ := h.2.1 sl hsl
      rw [eT] at ht
      have vs := vi (show sl < 4 from hsl) (by omega)
      have ws := vc (show sl < 2000000 by omega)
      simp only [h.1.1, h.1.2.1.1, h.1.2.2.1, h.1.2.2.2.1, h.1.2.2.2.2 sl hsl, isr_ref, rv_ref, vs, ws, ht.1.1, true_and, forall_eq]
      refine (s_Tr_hasFinal ht hT.1 hs).use (by omega) ?_
      simp only [h.1.1, h.1.2.1.2.2.1, isr_ref, rv_ref, h.2.2.2.1.1.1, true_and, forall_eq]
      refine (s_Hi_save h.2.2.2.1 ht hT (by omega) hsl).use (by omega) (fun σ1 p1 => ?_)
      have ht1 := isTr_fr ht p1.2 (fun b hb => by unfold pTr at hb; unfold pHi; omega)
      refine ⟨ht1.1.1, (s_Tr_markFinal ht1 hT.1 hs).use (by omega) (fun σ2 p2 => ⟨bI_and _, ?_⟩)⟩
      have g := isB_chg h hsl (by rw [eT]; exact p1.1) p1.2 (p2.2.mono (fun c hc => by unfold pTr; omega)) ⟨π, p2.1⟩
      exact L_okB2 hL g.1 g.2
    · have hm := h.1
      have ht := h.2.1 sl hsl
      rw [eT] at ht
      have vs := vi (show sl < 13 by omega) (by omega)
      have ws := vc (show sl < 2000000 by omega)
      refine w_M_setFinal_0 (gD (s_M_isSlot r1) (by omega) (fun n => absurd hv.1 n) (fun _ => gD (s_M_isState r2) (by omega) (fun n => absurd hv.2 n) (fun _ => ?_)))
      refine w_M_setFinal_10 (thr0 hm (fun σ1 m1 f1 y1 => ⟨m1.1, ?_⟩))
      have h1 := isM_scr h hA f1 (fun _ q => Or.inl q) (fun _ q => q.elim) (fun _ q => q.elim)
      have ht1 := h1.2.1 sl hsl
      rw [eT] at ht1
      refine (s_M_keeps m1 h1.2.2.1 hA.2.1 ht1 hT hsl).use (by omega) (fun σ2 p2 => ?_)
      have m2 := p2.2.mS m1 (fun f hf => by rw [hf]; decide)
      have ht2 := p2.2.T ht1 hT (by omega)
      have y2 : iv (pm_F σ2 1200 m) = 0 := by rw [p2.2.F (by decide)]; exact y1
      simp only [m2.1, m2.f1, m2.t1, m2.l1, isr_ref, rv_ref, vs, ws, ht2.1, st_has1 hT.1 hs, true_and, forall_eq]
      have key : ∀ xs : Int32, xs = bI (T.1.testBit s) → pm_R 39 178 32 [.ref m, .int (Int32.ofInt (sl : Int)), .int (Int32.ofInt (s : Int)), .int (bI b), pm_U] [.int xs] σ2 (mOutB m σ 0 (if T.1.testBit s then 1 else 0) (chg A sl (mkF T.1 s b, T.2))) := by
        intro xs hx
        subst hx
        refine w_M_setFinal_32 ?_
        have fin : ∀ v : Nat, mkF T.1 s b = v → mOutB m σ 0 (if T.1.testBit s then 1 else 0) (chg A sl (mkF T.1 s b, T.2)) (.inl (some (.int (bI (T.1.testBit s))))) (pm_sA σ2 (m + 1) sl (.int (Int32.ofInt (v : Int)))) := by
          intro v hv'
          have f3 : frM m (fun q => q = sl) σ2 (pm_sA σ2 (m + 1) sl (.int (Int32.ofInt (v : Int)))) := ⟨fr_sA ⟨by omega, by omega⟩, fun s' hs' => mEq_sA (Or.inr (Or.inl ⟨by omega, fun q => hs' q.symm⟩))⟩
          have t3 : mTr (pm_sA σ2 (m + 1) sl (.int (Int32.ofInt (v : Int)))) m sl (mkF T.1 s b, T.2) := by
            refine ⟨?_, ?_, ht2.2.2.1, fun k r hr => ?_⟩
            · rw [A_sA, if_pos ⟨rfl, rfl⟩, hv']; rfl
            · rw [A_sA, if_neg (by omega)]; exact ht2.2.1
            · refine mRu_eq (ht2.2.2.2 k r hr) (hT.at hr).2.2.2.1 (mEqR_sA (Or.inl (Or.inl (by omega))))
          have g := isM_chg h hA hsl (frX.mono f1 (fun _ q => q) (fun _ q => q.elim) (fun _ q => q.elim)) (As0 := fun _ => False) (fun _ q => q.elim) (by rw [eT]; exact p2.1) p2.2 f3.X (fun _ q => q.elim) (fun i q => by omega) (fun _ q => q) t3
          exact ⟨⟨_, rfl, fun _ => rfl⟩, by rw [F_sA]; exact y2, g.1, g.2⟩
        simp only [m2.1, m2.f1, m2.t1, m2.l1, isr_ref, rv_ref, vs, ws, ht2.1, st_one hs, i_orN, sh_not s hs T.1 hT.1, bI_and, true_and, forall_eq]
        refine ⟨fun e => fin _ ?_, fun e => fin _ ?_⟩
        · rw [bI_0] at e; rw [mkF, e]; rfl
        · rw [bI_1] at e; rw [mkF, e]; rfl
      refine ⟨fun e => key 1 ?_, fun e => key 0 ?_⟩
      · rw [e]; rfl
      · rw [Bool.not_eq_true _ |>.mp e]; rfl
  · refine ⟨1, 0, A, hA, fun σ h hL => ?_, fun σ h => ?_⟩
    · exact w_L_setFinal_0 ⟨h.1.1, w_B_setFinal_0 (q_slot r1 (fun s1 => q_state r2 (fun s2 => absurd ⟨s1, s2⟩ hv) (fun n => k_L_setFinal_14 (L_thr i1_ne h))) (fun n => k_L_setFinal_14 (L_thr i1_ne h)))⟩
    · have fin : pm_R 39 178 10 [.ref m, .int (Int32.ofInt z1), .int (Int32.ofInt z2), .int (bI b), pm_U] [.int ((1 : Int32)), .ref m] σ (mOutB m σ 1 0 A) := w_M_setFinal_10 (thrK h.1 i1_ne (fun σ1 m1 f1 y1 => ⟨rfl, mOutB_e i1_ne h hA f1 y1⟩))
      exact w_M_setFinal_0 (gD (s_M_isSlot r1) (by omega) (fun n => fin) (fun s1 => gD (s_M_isState r2) (by omega) (fun n => fin) (fun s2 => absurd ⟨s1, s2⟩ hv)))
