/-! ===== removeRule, rules, finals, rule ===== -/
theorem erase_ok {T : Tr} {k : Nat} (hT : okTr T) : okTr (T.1, T.2.eraseIdx k) := ⟨hT.1, fun r h => hT.2 r (List.mem_of_mem_eraseIdx h)⟩
theorem J_removeRule {x m N0 L : Nat} {A : AS} (hA : okA A) {z1 z2 : Int} (r1 : rg z1) (r2 : rg z2) : ∃ k v A', okA A' ∧ (∀ σ, isB σ x N0 A → isL σ x N0 L → pm_C 39 253 [.ref x, .int (Int32.ofInt z1), .int (Int32.ofInt z2), .ref L] σ (bOut x N0 1 6 σ k v A' L)) ∧ ∀ σ, isM σ m A → pm_C 39 186 [.ref m, .int (Int32.ofInt z1), .int (Int32.ofInt z2)] σ (mOut m σ k v A') := by
  by_cases hv : 0 ≤ z1 ∧ z1 < 4
  · obtain ⟨sl, rfl⟩ : ∃ n : Nat, z1 = n := ⟨z1.toNat, by omega⟩
    have hsl : sl < 4 := by omega
    have hT := hA.1 sl hsl
    generalize eT : aS A sl = T at hT
    have v4 := vi (show sl < 4 from hsl) (by omega)
    have v13 := vi (show sl < 13 by omega) (by omega)
    have ws := vc (show sl < 2000000 by omega)
    by_cases hr2 : 0 ≤ z2 ∧ z2 < T.2.length
    · obtain ⟨k, rfl⟩ : ∃ n : Nat, z2 = n := ⟨z2.toNat, by omega⟩
      have hk : k < T.2.length := by omega
      refine ⟨0, (Int32.ofInt ((T.2.eraseIdx k).length : Int)).toInt64, chg A sl (T.1, T.2.eraseIdx k), okA_chg hA hsl (erase_ok hT), fun σ h hL => ?_, fun σ h => ?_⟩
      · refine w_L_removeRule_0 ⟨h.1.1, w_B_removeRule_0 (q_slot r1 (fun _ => ⟨h.1.1, q_rule h r2 hsl (fun _ => ?_) (fun n => absurd (by rw [eT]; exact hr2) n)⟩) (fun n => absurd hv n))⟩
        obtain ⟨π, ht⟩ := h.2.1 sl hsl
        rw [eT] at ht
        simp only [h.1.1, h.1.2.1.1, h.1.2.2.1, h.1.2.2.2.1, h.1.2.2.2.2 sl hsl, h.1.2.1.2.2.1, h.2.2.2.1.1.1, isr_ref, rv_ref, v4, ws, true_and, forall_eq]
        refine (s_Hi_save h.2.2.2.1 ht hT (by omega) hsl).use (by omega) (fun σ1 p1 => ?_)
        have ht1 := isTr_fr ht p1.2 (fun b hb => by unfold pTr at hb; unfold pHi; omega)
        refine ⟨ht1.1.1, (s_Tr_remove ht1 hk).use (by omega) (fun σ2 p2 => ⟨p2.1.1.1, ?_⟩)⟩
        have g := isB_chg h hsl (by rw [eT]; exact p1.1) p1.2 p2.2 ⟨_, p2.1⟩
        rw [p2.1.2.2.1]
        exact L_ok2 hL g.1 g.2
      · have hm := h.1
        have ht := h.2.1 sl hsl
        rw [eT] at ht
        have l40 := ht.2.2.1
        refine w_M_removeRule_0 (gD (s_M_isSlot r1) (by omega) (fun n => absurd hv n) (fun _ => ?_))
        simp only [hm.1, hm.f2, hm.t2, hm.l2, isr_ref, rv_ref, v13, ws, ht.2.1, true_and, forall_eq]
        refine g_in r2 (by omega) (fun n => absurd hr2 n) (fun _ => w_M_removeRule_19 (thr0 hm (fun σ1 m1 f1 y1 => ⟨m1.1, ?_⟩)))
        have h1 := isM_scr h hA f1 (fun _ q => Or.inl q) (fun _ q => q.elim) (fun _ q => q.elim)
        have ht1 := h1.2.1 sl hsl
        rw [eT] at ht1
        refine (s_M_keeps m1 h1.2.2.1 hA.2.1 ht1 hT hsl).use (by omega) (fun σ2 p2 => ?_)
        have m2 := p2.2.mS m1 (fun f hf => by rw [hf]; decide)
        have ht2 := p2.2.T ht1 hT (by omega)
        have y2 : iv (pm_F σ2 1200 m) = 0 := by rw [p2.2.F (by decide)]; exact y1
        refine ⟨m2.1, (s_M_removes m2 ht2 hT (by omega) hk).use (by omega) (fun σ3 p3 => ?_)⟩
        have m3 := p3.2.mS m2
        have g := isM_chg h hA hsl (frX.mono f1 (fun _ q => q) (fun _ q => q.elim) (fun _ q => q.elim)) (As0 := fun _ => False) (fun _ q => q.elim) (by rw [eT]; exact p2.1) p2.2 p3.2.X (fun _ q => q.elim) (fun i q => by omega) (fun _ q => q) p3.1
        simp only [m3.1, m3.f2, m3.t2, m3.l2, isr_ref, rv_ref, v13, ws, p3.1.2.1, true_and, forall_eq]
        exact ⟨⟨_, rfl, fun _ => rfl⟩, by rw [p3.2.X.F id]; exact y2, g.1, g.2⟩
    · refine ⟨2, 0, A, hA, fun σ h hL => ?_, fun σ h => ?_⟩
      · exact w_L_removeRule_0 ⟨h.1.1, w_B_removeRule_0 (q_slot r1 (fun _ => ⟨h.1.1, q_rule h r2 hsl (fun n => absurd (by rw [eT] at n; exact n) hr2) (fun n => k_L_removeRule_13 (L_thr i2_ne h))⟩) (fun n => absurd hv n))⟩
      · have hm := h.1
        have ht := h.2.1 sl hsl
        rw [eT] at ht
        have l40 := ht.2.2.1
        refine w_M_removeRule_0 (gD (s_M_isSlot r1) (by omega) (fun n => absurd hv n) (fun _ => ?_))
        simp only [hm.1, hm.f2, hm.t2, hm.l2, isr_ref, rv_ref, v13, ws, ht.2.1, true_and, forall_eq]
        exact g_in r2 (by omega) (fun _ => w_M_removeRule_19 (thrK hm i2_ne (fun σ1 m1 f1 y1 => mOut_e i2_ne h hA f1 y1))) (fun n => absurd n hr2)
  · refine ⟨1, 0, A, hA, fun σ h hL => ?_, fun σ h => ?_⟩
    · exact w_L_removeRule_0 ⟨h.1.1, w_B_removeRule_0 (q_slot r1 (fun s1 => absurd s1 hv) (fun n => k_L_removeRule_10 (L_thr i1_ne h)))⟩
    · exact w_M_removeRule_0 (gD (s_M_isSlot r1) (by omega) (fun n => w_M_removeRule_19 (thrK h.1 i1_ne (fun σ1 m1 f1 y1 => mOut_e i1_ne h hA f1 y1))) (fun s1 => absurd s1 hv))
theorem fB_rf {σ : pm_H} {x N0 : Nat} : fB x N0 1 6 σ σ := fB_fr (P := fun _ => False) fr.rf (fun _ q => q.elim)
theorem mOut_0 {σ σ1 : pm_H} {m : Nat} {A : AS} {r : Int32} (h : isM σ m A) (hA : okA A) (f : frT m (fun _ => False) (fun _ => False) σ σ1) (z : iv (pm_F σ1 1200 m) = 0) : mOut m σ 0 r.toInt64 A (.inl (some (.int r))) σ1 := ⟨⟨r, rfl, fun _ => rfl⟩, mCo_e h hA f z⟩
theorem J_rules {x m N0 L : Nat} {A : AS} (hA : okA A) {z1 : Int} (r1 : rg z1) : ∃ k v A', okA A' ∧ (∀ σ, isB σ x N0 A → isL σ x N0 L → pm_C 39 254 [.ref x, .int (Int32.ofInt z1), .ref L] σ (bOut x N0 1 6 σ k v A' L)) ∧ ∀ σ, isM σ m A → pm_C 39 187 [.ref m, .int (Int32.ofInt z1)] σ (mOut m σ k v A') := by
  by_cases hv : 0 ≤ z1 ∧ z1 < 4
  · obtain ⟨sl, rfl⟩ : ∃ n : Nat, z1 = n := ⟨z1.toNat, by omega⟩
    have hsl : sl < 4 := by omega
    have v4 := vi (show sl < 4 from hsl) (by omega)
    have v13 := vi (show sl < 13 by omega) (by omega)
    have ws := vc (show sl < 2000000 by omega)
    refine ⟨0, (Int32.ofInt ((aS A sl).2.length : Int)).toInt64, A, hA, fun σ h hL => ?_, fun σ h => ?_⟩
    · refine w_L_rules_0 ⟨h.1.1, w_B_rules_0 (q_slot r1 (fun _ => ?_) (fun n => absurd hv n))⟩
      obtain ⟨π, ht⟩ := h.2.1 sl hsl
      simp only [h.1.1, h.1.2.1.1, h.1.2.2.1, h.1.2.2.2.1, h.1.2.2.2.2 sl hsl, isr_ref, rv_ref, v4, ws, ht.1.1, ht.2.2.1, true_and, forall_eq]
      exact L_ok2 hL h fB_rf
    · have hm := h.1
      refine w_M_rules_0 (gD (s_M_isSlot r1) (by omega) (fun n => absurd hv n) (fun _ => thr0 hm (fun σ1 m1 f1 y1 => ?_)))
      have h1 := isM_scr h hA f1 (fun _ q => Or.inl q) (fun _ q => q.elim) (fun _ q => q.elim)
      simp only [m1.1, m1.f2, m1.t2, m1.l2, isr_ref, rv_ref, v13, ws, (h1.2.1 sl hsl).2.1, true_and, forall_eq]
      exact mOut_0 h hA f1 y1
  · refine ⟨1, 0, A, hA, fun σ h hL => ?_, fun σ h => ?_⟩
    · exact w_L_rules_0 ⟨h.1.1, w_B_rules_0 (q_slot r1 (fun s1 => absurd s1 hv) (fun n => k_L_rules_9 (L_thr i1_ne h)))⟩
    · exact w_M_rules_0 (gD (s_M_isSlot r1) (by omega) (fun n => thrK h.1 i1_ne (fun σ1 m1 f1 y1 => mOut_e i1_ne h hA f1 y1)) (fun s1 => absurd s1 hv))
theorem J_finals {x m N0 L : Nat} {A : AS} (hA : okA A) {z1 : Int} (r1 : rg z1) : ∃ k v A', okA A' ∧ (∀ σ, isB σ x N0 A → isL σ x N0 L → pm_C 39 255 [.ref x, .int (Int32.ofInt z1), .ref L] σ (bOut x N0 1 6 σ k v A' L)) ∧ ∀ σ, isM σ m A → pm_C 39 188 [.ref m, .int (Int32.ofInt z1)] σ (mOut m σ k v A') := by
  by_cases hv : 0 ≤ z1 ∧ z1 < 4
  · obtain ⟨sl, rfl⟩ : ∃ n : Nat, z1 = n := ⟨z1.toNat, by omega⟩
    have hsl : sl < 4 := by omega
    have v4 := vi (show sl < 4 from hsl) (by omega)
    have v13 := vi (show sl < 13 by omega) (by omega)
    have ws := vc (show sl < 2000000 by omega)
    refine ⟨0, (Int32.ofInt ((aS A sl).1 : Int)).toInt64, A, hA, fun σ h hL => ?_, fun σ h => ?_⟩
    · refine w_L_finals_0 ⟨h.1.1, w_B_finals_0 (q_slot r1 (fun _ => ?_) (fun n => absurd hv n))⟩
      obtain ⟨π, ht⟩ := h.2.1 sl hsl
      simp only [h.1.1, h.1.2.1.1, h.1.2.2.1, h.1.2.2.2.1, h.1.2.2.2.2 sl hsl, isr_ref, rv_ref, v4, ws, ht.1.1, ht.2.2.2.1, true_and, forall_eq]
      exact L_ok2 hL h fB_rf
    · have hm := h.1
      refine w_M_finals_0 (gD (s_M_isSlot r1) (by omega) (fun n => absurd hv n) (fun _ => thr0 hm (fun σ1 m1 f1 y1 => ?_)))
      have h1 := isM_scr h hA f1 (fun _ q => Or.inl q) (fun _ q => q.elim) (fun _ q => q.elim)
      simp only [m1.1, m1.f1, m1.t1, m1.l1, isr_ref, rv_ref, v13, ws, (h1.2.1 sl hsl).1, true_and, forall_eq]
      exact mOut_0 h hA f1 y1
  · refine ⟨1, 0, A, hA, fun σ h hL => ?_, fun σ h => ?_⟩
    · exact w_L_finals_0 ⟨h.1.1, w_B_finals_0 (q_slot r1 (fun s1 => absurd s1 hv) (fun n => k_L_finals_9 (L_thr i1_ne h)))⟩
    · exact w_M_finals_0 (gD (s_M_isSlot r1) (by omega) (fun n => thrK h.1 i1_ne (fun σ1 m1 f1 y1 => mOut_e i1_ne h hA f1 y1)) (fun s1 => absurd s1 hv))
/-- the numbers about a rule -/
def abt (r : Rl) (w : Nat) : Nat := if w = 0 then rF r else if w = 1 then rT r else if w = 2 then cnt (sy (rLo r) (rHi r)) 100 else if w = 3 then cnt (en r) 100 else if w = 4 then (rTs r).length else cnt (rs (rLo r) (rHi r)) 100
theorem J_rule {x m N0 L : Nat} {A : AS} (hA : okA A) {z1 z2 z3 : Int} (r1 : rg z1) (r2 : rg z2) (r3 : rg z3) : ∃ k v A', okA A' ∧ (∀ σ, isB σ x N0 A → isL σ x N0 L → pm_C 39 256 [.ref x, .int (Int32.ofInt z1), .int (Int32.ofInt z2), .int (Int32.ofInt z3), .ref L] σ (bOut x N0 1 6 σ k v A' L)) ∧ ∀ σ, isM σ m A → pm_C 39 189 [.ref m, .int (Int32.ofInt z1), .int (Int32.ofInt z2), .int (Int32.ofInt z3)] σ (mOut m σ k v A') := by
  by_cases hv : (0 ≤ z1 ∧ z1 < 4) ∧ (0 ≤ z3 ∧ z3 ≤ 5)
  · obtain ⟨sl, rfl⟩ : ∃ n : Nat, z1 = n := ⟨z1.toNat, by omega⟩
    obtain ⟨w, rfl⟩ : ∃ n : Nat, z3 = n := ⟨z3.toNat, by omega⟩
    have hsl : sl < 4 := by omega
    have hw : w < 6 := by omega
    have hT := hA.1 sl hsl
    generalize eT : aS A sl = T at hT
    have v4 := vi (show sl < 4 from hsl) (by omega)
    have v13 := vi (show sl < 13 by omega) (by omega)
    have ws := vc (show sl < 2000000 by omega)
    have n0 : ¬ Int32.ofInt (w : Int) < 0 := by rw [z_lt0 r3]; omega
    have n5 : Int32.ofInt (w : Int) ≤ 5 := by rw [z_le5 r3]; omega
    by_cases hr2 : 0 ≤ z2 ∧ z2 < T.2.length
    · obtain ⟨k, rfl⟩ : ∃ n : Nat, z2 = n := ⟨z2.toNat, by omega⟩
      have hk : k < T.2.length := by omega
      have hr := List.getElem?_eq_getElem hk
      generalize T.2[k] = r at hr
      have ok := hT.at hr
      refine ⟨0, (Int32.ofInt ((abt r w : Nat) : Int)).toInt64, A, hA, fun σ h hL => ?_, fun σ h => ?_⟩
      · refine w_L_rule_0 ⟨h.1.1, w_B_rule_0 (q_slot r1 (fun _ => ?_) (fun n => absurd hv.1 n))⟩
        simp only [n0, n5, not_false_eq_true, not_true_eq_false, false_implies, true_implies, true_and, and_true]
        refine ⟨h.1.1, q_rule h r2 hsl (fun _ => ?_) (fun n => absurd (by rw [eT]; exact hr2) n)⟩
        obtain ⟨π, ht⟩ := h.2.1 sl hsl
        rw [eT] at ht
        have ra := ht.at hr
        simp only [h.1.1, h.1.2.1.1, h.1.2.2.1, h.1.2.2.2.1, h.1.2.2.2.2 sl hsl, isr_ref, rv_ref, v4, ws, ht.1.1, ht.1.2.1, ht.1.2.2.1, ht.1.2.2.2.1, ra.1, ra.2.1, ra.2.2.1, true_and, forall_eq]
        have ru := ra.2.2.2
        generalize x + 2 + 122 * sl + 2 + 3 * π k = ρ at ru
        have cs : w = 0 ∨ w = 1 ∨ w = 2 ∨ w = 3 ∨ w = 4 ∨ w = 5 := by omega
        rcases cs with e | e | e | e | e | e <;> subst e
        · refine w_B_rule_22 (d := 37) ?_
          simp only [ru.1.1, ru.2.1, iv_int, true_and, forall_eq]
          exact L_ok2 hL h fB_rf
        · refine w_B_rule_25 (d := 37) ?_
          simp only [ru.1.1, ru.2.2.1, iv_int, true_and, forall_eq]
          exact L_ok2 hL h fB_rf
        · refine w_B_rule_28 (d := 37) ?_
          simp only [ru.1.1, ru.1.2.1, ru.1.2.2.2.1, isr_ref, rv_ref, true_and, forall_eq]
          exact (s_Sy_size ru.g ok.2.2.1).use (by omega) (L_ok2 hL h fB_rf)
        · refine w_B_rule_32 (d := 37) ?_
          simp only [ru.1.1, ru.1.2.1, ru.1.2.2.2.1, ru.2.2.2.2.1, ru.2.2.2.2.2.1, iv_int, isr_ref, rv_ref, true_and, forall_eq]
          exact (s_Ru_sizeEn ru ok).use (by omega) (L_ok2 hL h fB_rf)
        · refine w_B_rule_40 (d := 37) ?_
          simp only [ru.1.1, ru.2.2.2.1, iv_int, true_and, forall_eq]
          exact L_ok2 hL h fB_rf
        · refine w_B_rule_43 (d := 37) ?_
          simp only [ru.1.1, ru.1.2.1, ru.1.2.2.2.1, isr_ref, rv_ref, true_and, forall_eq]
          refine (s_rangeCount ru.g).use (by omega) ?_
          rw [oi_nat]
          exact L_ok2 hL h fB_rf
      · have hm := h.1
        have ht := h.2.1 sl hsl
        rw [eT] at ht
        have l40 := ht.2.2.1
        refine w_M_rule_0 (gD (s_M_isSlot r1) (by omega) (fun n => absurd hv.1 n) (fun _ => gD (s_M_in r3 (a := 0) (b := 5) ⟨by decide, by decide⟩ ⟨by decide, by decide⟩) (by omega) (fun n => absurd hv.2 n) (fun _ => ?_)))
        simp only [hm.1, hm.f2, hm.t2, hm.l2, isr_ref, rv_ref, v13, ws, ht.2.1, true_and, forall_eq]
        refine g_in r2 (by omega) (fun n => absurd hr2 n) (fun _ => w_M_rule_24 (thr0 hm (fun σ1 m1 f1 y1 => ?_)))
        have h1 := isM_scr h hA f1 (fun _ q => Or.inl q) (fun _ q => q.elim) (fun _ q => q.elim)
        have ht1 := h1.2.1 sl hsl
        rw [eT] at ht1
        have rk := ht1.2.2.2 k r hr
        have vr := vi (show 40 * sl + k < 520 by omega) (by omega)
        have wr := vc (show 40 * sl + k < 2000000 by omega)
        rw [oi_row]
        have cs : w = 0 ∨ w = 1 ∨ w = 2 ∨ w = 3 ∨ w = 4 ∨ w = 5 := by omega
        rcases cs with e | e | e | e | e | e <;> subst e
        · refine w_M_rule_38 (d := 38) ?_
          simp only [m1.1, m1.f3, m1.t3, m1.l3, isr_ref, rv_ref, vr, wr, rk.1, true_and, forall_eq]
          exact mOut_0 h hA f1 y1
        · refine w_M_rule_43 (d := 38) ?_
          simp only [m1.1, m1.f4, m1.t4, m1.l4, isr_ref, rv_ref, vr, wr, rk.2.1, true_and, forall_eq]
          exact mOut_0 h hA f1 y1
        · exact w_M_rule_48 (d := 38) ⟨m1.1, (s_M_guardMany m1 rk (by omega)).use (by omega) (mOut_0 h hA f1 y1)⟩
        · exact w_M_rule_52 (d := 38) ⟨m1.1, (s_M_enabledMany m1 rk (by omega) ok.2.2.2).use (by omega) (mOut_0 h hA f1 y1)⟩
        · refine w_M_rule_56 (d := 38) ?_
          simp only [m1.1, m1.f7, m1.t7, m1.l7, isr_ref, rv_ref, vr, wr, rk.2.2.2.2.1, true_and, forall_eq]
          exact mOut_0 h hA f1 y1
        · exact w_M_rule_61 (d := 38) ⟨m1.1, (s_M_rangeMany m1 rk (by omega)).use (by omega) (mOut_0 h hA f1 y1)⟩
    · refine ⟨2, 0, A, hA, fun σ h hL => ?_, fun σ h => ?_⟩
      · refine w_L_rule_0 ⟨h.1.1, w_B_rule_0 (q_slot r1 (fun _ => ?_) (fun n => absurd hv.1 n))⟩
        simp only [n0, n5, not_false_eq_true, not_true_eq_false, false_implies, true_implies, true_and, and_true]
        exact ⟨h.1.1, q_rule h r2 hsl (fun n => absurd (by rw [eT] at n; exact n) hr2) (fun n => k_L_rule_14 (L_thr i2_ne h))⟩
      · have hm := h.1
        have ht := h.2.1 sl hsl
        rw [eT] at ht
        have l40 := ht.2.2.1
        refine w_M_rule_0 (gD (s_M_isSlot r1) (by omega) (fun n => absurd hv.1 n) (fun _ => gD (s_M_in r3 (a := 0) (b := 5) ⟨by decide, by decide⟩ ⟨by decide, by decide⟩) (by omega) (fun n => absurd hv.2 n) (fun _ => ?_)))
        simp only [hm.1, hm.f2, hm.t2, hm.l2, isr_ref, rv_ref, v13, ws, ht.2.1, true_and, forall_eq]
        exact g_in r2 (by omega) (fun _ => w_M_rule_24 (thrK hm i2_ne (fun σ1 m1 f1 y1 => mOut_e i2_ne h hA f1 y1))) (fun n => absurd n hr2)
  · refine ⟨1, 0, A, hA, fun σ h hL => ?_, fun σ h => ?_⟩
    · refine w_L_rule_0 ⟨h.1.1, w_B_rule_0 (q_slot r1 (fun s1 => ?_) (fun n => k_L_rule_11 (L_thr i1_ne h)))⟩
      rw [z_lt0 r3, z_le5 r3]
      exact ⟨fun _ => k_L_rule_11 (L_thr i1_ne h), fun e => ⟨fun e2 => absurd ⟨s1, by omega, e2⟩ hv, fun _ => k_L_rule_11 (L_thr i1_ne h)⟩⟩
    · have fin : pm_R 39 189 24 [.ref m, .int (Int32.ofInt z1), .int (Int32.ofInt z2), .int (Int32.ofInt z3), pm_U] [.int ((1 : Int32)), .ref m] σ (mOut m σ 1 0 A) := w_M_rule_24 (thrK h.1 i1_ne (fun σ1 m1 f1 y1 => mOut_e i1_ne h hA f1 y1))
      exact w_M_rule_0 (gD (s_M_isSlot r1) (by omega) (fun n => fin) (fun s1 => gD (s_M_in r3 (a := 0) (b := 5) ⟨by decide, by decide⟩ ⟨by decide, by decide⟩) (by omega) (fun n => fin) (fun s2 => absurd ⟨s1, s2⟩ hv)))
