/-! ===== term, valueOf, feed, push, clearWord, symbol, result, useResult ===== -/
theorem pm_R_up {d d' m k : Nat} {L S : List Value} {σ : pm_H} {Q : pm_O → pm_H → Prop} (h : pm_R d m k L S σ Q) (hd : d ≤ d') : pm_R d' m k L S σ Q := by
  obtain ⟨j, rfl⟩ := Nat.exists_eq_add_of_le hd
  induction j with
  | zero => exact h
  | succ j ih =>
    obtain ⟨n, o, σ', h1, h2⟩ := ih (Nat.le_add_right _ _)
    exact ⟨n, o, σ', pm_exec_up1 _ _ _ _ _ _ _ _ h1, h2⟩
theorem kJ_B {K : Int64 → pm_H → Prop} {X : Nat → pm_H → Prop} {r : Int64} {σ : pm_H} (h : K r σ) : pm_kJ K X (.inl (some (.long r))) σ := h
theorem tv_lo {t : Nat} (h : ¬ 100 ≤ t) : tv t = (t : Int) := by unfold tv; rw [if_pos (by omega)]
theorem tv_hi {t : Nat} (h : 100 ≤ t) : (1000 : Int32) + Int32.ofInt (tv t) = Int32.ofInt (t : Int) := by
  have e : tv t = (t : Int) - 1000 := by unfold tv; rw [if_neg (by omega)]
  rw [e, show (1000 : Int32) + Int32.ofInt ((t : Int) - 1000) = Int32.ofInt (1000 + ((t : Int) - 1000)) from oi_ladd _ 1000]
  congr 1; omega
theorem J_term {x m N0 L : Nat} {A : AS} (hA : okA A) {z1 z2 z3 : Int} (r1 : rg z1) (r2 : rg z2) (r3 : rg z3) : ∃ k v A', okA A' ∧ (∀ σ, isB σ x N0 A → isL σ x N0 L → pm_C 39 258 [.ref x, .int (Int32.ofInt z1), .int (Int32.ofInt z2), .int (Int32.ofInt z3), .ref L] σ (bOut x N0 1 6 σ k v A' L)) ∧ ∀ σ, isM σ m A → pm_C 39 191 [.ref m, .int (Int32.ofInt z1), .int (Int32.ofInt z2), .int (Int32.ofInt z3)] σ (mOut m σ k v A') := by
  by_cases hv : 0 ≤ z1 ∧ z1 < 4
  · obtain ⟨sl, rfl⟩ : ∃ n : Nat, z1 = n := ⟨z1.toNat, by omega⟩
    have hsl : sl < 4 := by omega
    have hT := hA.1 sl hsl
    generalize eT : aS A sl = T at hT
    have v4 := vi (show sl < 4 from hsl) (by omega)
    have v13 := vi (show sl < 13 by omega) (by omega)
    have ws := vc (show sl < 2000000 by omega)
    by_cases hr2 : 0 ≤ z2 ∧ z2 < T.2.length
    · obtain ⟨k, rfl⟩ : ∃ n : Nat, z2 = n := ⟨z2.toNat, by omega⟩
      have hk : k < T.2.length := by omega
      have hr := List.getElem?_eq_getElem hk
      generalize T.2[k] = r at hr
      have ok := hT.at hr
      have l6 := ok.2.2.2.1
      by_cases hi : 0 ≤ z3 ∧ z3 < (rTs r).length
      · obtain ⟨i, rfl⟩ : ∃ n : Nat, z3 = n := ⟨z3.toNat, by omega⟩
        have hi' : i < (rTs r).length := by omega
        have ht' := List.getElem?_eq_getElem hi'
        generalize (rTs r)[i] = t at ht'
        have v6 := vi (show i < 6 by omega) (by omega)
        have w6 := vc (show i < 2000000 by omega)
        refine ⟨0, (Int32.ofInt (t : Int)).toInt64, A, hA, fun σ h hL => ?_, fun σ h => ?_⟩
        · refine w_L_term_0 ⟨h.1.1, w_B_term_0 (q_slot r1 (fun _ => ⟨h.1.1, q_rule h r2 hsl (fun _ => ?_) (fun n => absurd (by rw [eT]; exact hr2) n)⟩) (fun n => absurd hv n))⟩
          obtain ⟨π, ht⟩ := h.2.1 sl hsl
          rw [eT] at ht
          have ra := ht.at hr
          simp only [h.1.1, h.1.2.1.1, h.1.2.2.1, h.1.2.2.2.1, h.1.2.2.2.2 sl hsl, isr_ref, rv_ref, v4, ws, ht.1.1, ht.1.2.1, ht.1.2.2.1, ht.1.2.2.2.1, ra.1, ra.2.1, ra.2.2.1, true_and, forall_eq]
          have ru := ra.2.2.2
          refine q_term ru ok r3 (fun _ => ?_) (fun n => absurd hi n)
          simp only [ru.1.1, ru.1.2.2.1, ru.1.2.2.2.2.1, ru.1.2.2.2.2.2, ru.2.2.2.2.2.2.2.2 i t ht', v6, w6, iv_int, isr_ref, rv_ref, true_and, forall_eq]
          exact L_ok2 hL h fB_rf
        · have hm := h.1
          have ht := h.2.1 sl hsl
          rw [eT] at ht
          have l40 := ht.2.2.1
          have rk := ht.2.2.2 k r hr
          have vr := vi (show 40 * sl + k < 520 by omega) (by omega)
          have wr := vc (show 40 * sl + k < 2000000 by omega)
          have vt := vi (show 6 * (40 * sl + k) + i < 3120 by omega) (by omega)
          have wt := vc (show 6 * (40 * sl + k) + i < 2000000 by omega)
          refine w_M_term_0 (gD (s_M_isSlot r1) (by omega) (fun n => absurd hv n) (fun _ => ?_))
          simp only [hm.1, hm.f2, hm.t2, hm.l2, isr_ref, rv_ref, v13, ws, ht.2.1, true_and, forall_eq]
          refine g_in r2 (by omega) (fun n => absurd hr2 n) (fun _ => ?_)
          simp only [hm.1, hm.f7, hm.t7, hm.l7, isr_ref, rv_ref, oi_row, vr, wr, rk.2.2.2.2.1, true_and, forall_eq]
          refine g_in r3 (by omega) (fun n => absurd hi n) (fun _ => w_M_term_35 (thr0 hm (fun σ1 m1 f1 y1 => ?_)))
          have h1 := isM_scr h hA f1 (fun _ q => Or.inl q) (fun _ q => q.elim) (fun _ q => q.elim)
          have ht1 := h1.2.1 sl hsl
          rw [eT] at ht1
          have tk := (ht1.2.2.2 k r hr).2.2.2.2.2 i t ht'
          simp only [m1.1, m1.f9, m1.t9, m1.l9, m1.f8, m1.t8, m1.l8, isr_ref, rv_ref, oi_row, oi_row6, vt, wt, tk.1, tk.2, bI_0, decide_eq_false_iff_not, true_and, forall_eq]
          refine ⟨fun c => ?_, fun c => ?_⟩
          · rw [tv_lo c]; exact mOut_0 h hA f1 y1
          · rw [tv_hi (Decidable.not_not.mp c)]; exact mOut_0 h hA f1 y1
      · refine ⟨2, 0, A, hA, fun σ h hL => ?_, fun σ h => ?_⟩
        · refine w_L_term_0 ⟨h.1.1, w_B_term_0 (q_slot r1 (fun _ => ⟨h.1.1, q_rule h r2 hsl (fun _ => ?_) (fun n => absurd (by rw [eT]; exact hr2) n)⟩) (fun n => absurd hv n))⟩
          obtain ⟨π, ht⟩ := h.2.1 sl hsl
          rw [eT] at ht
          have ra := ht.at hr
          simp only [h.1.1, h.1.2.1.1, h.1.2.2.1, h.1.2.2.2.1, h.1.2.2.2.2 sl hsl, isr_ref, rv_ref, v4, ws, ht.1.1, ht.1.2.1, ht.1.2.2.1, ht.1.2.2.2.1, ra.1, ra.2.1, ra.2.2.1, true_and, forall_eq]
          exact q_term ra.2.2.2 ok r3 (fun n => absurd n hi) (fun n => k_L_term_14 (L_thr i2_ne h))
        · have hm := h.1
          have ht := h.2.1 sl hsl
          rw [eT] at ht
          have l40 := ht.2.2.1
          have rk := ht.2.2.2 k r hr
          have vr := vi (show 40 * sl + k < 520 by omega) (by omega)
          have wr := vc (show 40 * sl + k < 2000000 by omega)
          refine w_M_term_0 (gD (s_M_isSlot r1) (by omega) (fun n => absurd hv n) (fun _ => ?_))
          simp only [hm.1, hm.f2, hm.t2, hm.l2, isr_ref, rv_ref, v13, ws, ht.2.1, true_and, forall_eq]
          refine g_in r2 (by omega) (fun n => absurd hr2 n) (fun _ => ?_)
          simp only [hm.1, hm.f7, hm.t7, hm.l7, isr_ref, rv_ref, oi_row, vr, wr, rk.2.2.2.2.1, true_and, forall_eq]
          exact g_in r3 (by omega) (fun _ => w_M_term_35 (thrK hm i2_ne (fun σ1 m1 f1 y1 => mOut_e i2_ne h hA f1 y1))) (fun n => absurd n hi)
    · refine ⟨2, 0, A, hA, fun σ h hL => ?_, fun σ h => ?_⟩
      · exact w_L_term_0 ⟨h.1.1, w_B_term_0 (q_slot r1 (fun _ => ⟨h.1.1, q_rule h r2 hsl (fun n => absurd (by rw [eT] at n; exact n) hr2) (fun n => k_L_term_14 (L_thr i2_ne h))⟩) (fun n => absurd hv n))⟩
      · have hm := h.1
        have ht := h.2.1 sl hsl
        rw [eT] at ht
        have l40 := ht.2.2.1
        refine w_M_term_0 (gD (s_M_isSlot r1) (by omega) (fun n => absurd hv n) (fun _ => ?_))
        simp only [hm.1, hm.f2, hm.t2, hm.l2, isr_ref, rv_ref, v13, ws, ht.2.1, true_and, forall_eq]
        exact g_in r2 (by omega) (fun _ => w_M_term_35 (thrK hm i2_ne (fun σ1 m1 f1 y1 => mOut_e i2_ne h hA f1 y1))) (fun n => absurd n hr2)
  · refine ⟨1, 0, A, hA, fun σ h hL => ?_, fun σ h => ?_⟩
    · exact w_L_term_0 ⟨h.1.1, w_B_term_0 (q_slot r1 (fun s1 => absurd s1 hv) (fun n => k_L_term_11 (L_thr i1_ne h)))⟩
    · exact w_M_term_0 (gD (s_M_isSlot r1) (by omega) (fun n => w_M_term_35 (thrK h.1 i1_ne (fun σ1 m1 f1 y1 => mOut_e i1_ne h hA f1 y1))) (fun s1 => absurd s1 hv))
theorem J_valueOf {x m N0 L : Nat} {A : AS} (hA : okA A) {z1 z2 z3 z4 : Int} (r1 : rg z1) (r2 : rg z2) (r3 : rg z3) (r4 : rg z4) : ∃ k v A', okA A' ∧ (∀ σ, isB σ x N0 A → isL σ x N0 L → pm_C 39 259 [.ref x, .int (Int32.ofInt z1), .int (Int32.ofInt z2), .int (Int32.ofInt z3), .int (Int32.ofInt z4), .ref L] σ (bOut x N0 1 6 σ k v A' L)) ∧ ∀ σ, isM σ m A → pm_C 39 192 [.ref m, .int (Int32.ofInt z1), .int (Int32.ofInt z2), .int (Int32.ofInt z3), .int (Int32.ofInt z4)] σ (mOut m σ k v A') := by
  by_cases hv : (0 ≤ z1 ∧ z1 < 4) ∧ (0 ≤ z4 ∧ z4 < 100)
  · have hv4 : 0 ≤ z4 ∧ z4 ≤ z4 ∧ z4 < 100 := by omega
    obtain ⟨sl, rfl⟩ : ∃ n : Nat, z1 = n := ⟨z1.toNat, by omega⟩
    have hsl : sl < 4 := by omega
    have hT := hA.1 sl hsl
    generalize eT : aS A sl = T at hT
    have v4 := vi (show sl < 4 from hsl) (by omega)
    have v13 := vi (show sl < 13 by omega) (by omega)
    have ws := vc (show sl < 2000000 by omega)
    by_cases hr2 : 0 ≤ z2 ∧ z2 < T.2.length
    · obtain ⟨k, rfl⟩ : ∃ n : Nat, z2 = n := ⟨z2.toNat, by omega⟩
      have hk : k < T.2.length := by omega
      have hr := List.getElem?_eq_getElem hk
      generalize T.2[k] = r at hr
      have ok := hT.at hr
      have l6 := ok.2.2.2.1
      by_cases hi : 0 ≤ z3 ∧ z3 < (rTs r).length
      · obtain ⟨i, rfl⟩ : ∃ n : Nat, z3 = n := ⟨z3.toNat, by omega⟩
        have hi' : i < (rTs r).length := by omega
        have ht' := List.getElem?_eq_getElem hi'
        generalize (rTs r)[i] = t at ht'
        have t5 : t < 100000 := ok.ts t (List.mem_of_getElem? ht')
        refine ⟨0, (Int32.ofInt (val t z4)).toInt64, A, hA, fun σ h hL => ?_, fun σ h => ?_⟩
        · refine w_L_valueOf_0 ⟨h.1.1, w_B_valueOf_0 (q_slot r1 (fun _ => q_symbols r4 r4 (fun _ => ⟨h.1.1, q_rule h r2 hsl (fun _ => ?_) (fun n => absurd (by rw [eT]; exact hr2) n)⟩) (fun n => absurd hv4 n)) (fun n => absurd hv.1 n))⟩
          obtain ⟨π, ht⟩ := h.2.1 sl hsl
          rw [eT] at ht
          have ra := ht.at hr
          simp only [h.1.1, h.1.2.1.1, h.1.2.2.1, h.1.2.2.2.1, h.1.2.2.2.2 sl hsl, isr_ref, rv_ref, v4, ws, ht.1.1, ht.1.2.1, ht.1.2.2.1, ht.1.2.2.2.1, ra.1, ra.2.1, ra.2.2.1, true_and, forall_eq]
          have ru := ra.2.2.2
          exact q_term ru ok r3 (fun _ => ⟨ru.1.1, (s_Ru_valueAt ru l6 ht' t5 (by omega)).use (by omega) (L_ok2 hL h fB_rf)⟩) (fun n => absurd hi n)
        · have hm := h.1
          have ht := h.2.1 sl hsl
          rw [eT] at ht
          have l40 := ht.2.2.1
          have rk := ht.2.2.2 k r hr
          have vr := vi (show 40 * sl + k < 520 by omega) (by omega)
          have wr := vc (show 40 * sl + k < 2000000 by omega)
          refine w_M_valueOf_0 (gD (s_M_isSlot r1) (by omega) (fun n => absurd hv.1 n) (fun _ => gD (s_M_isSymbol r4) (by omega) (fun n => absurd hv.2 n) (fun _ => ?_)))
          simp only [hm.1, hm.f2, hm.t2, hm.l2, isr_ref, rv_ref, v13, ws, ht.2.1, true_and, forall_eq]
          refine g_in r2 (by omega) (fun n => absurd hr2 n) (fun _ => ?_)
          simp only [hm.1, hm.f7, hm.t7, hm.l7, isr_ref, rv_ref, oi_row, vr, wr, rk.2.2.2.2.1, true_and, forall_eq]
          refine g_in r3 (by omega) (fun n => absurd hi n) (fun _ => w_M_valueOf_38 (thr0 hm (fun σ1 m1 f1 y1 => ?_)))
          have h1 := isM_scr h hA f1 (fun _ q => Or.inl q) (fun _ q => q.elim) (fun _ q => q.elim)
          have ht1 := h1.2.1 sl hsl
          rw [eT] at ht1
          rw [oi_row]
          exact ⟨m1.1, (s_M_value m1 (ht1.2.2.2 k r hr) (by omega) l6 ht').use (by omega) (mOut_0 h hA f1 y1)⟩
      · refine ⟨2, 0, A, hA, fun σ h hL => ?_, fun σ h => ?_⟩
        · refine w_L_valueOf_0 ⟨h.1.1, w_B_valueOf_0 (q_slot r1 (fun _ => q_symbols r4 r4 (fun _ => ⟨h.1.1, q_rule h r2 hsl (fun _ => ?_) (fun n => absurd (by rw [eT]; exact hr2) n)⟩) (fun n => absurd hv4 n)) (fun n => absurd hv.1 n))⟩
          obtain ⟨π, ht⟩ := h.2.1 sl hsl
          rw [eT] at ht
          have ra := ht.at hr
          simp only [h.1.1, h.1.2.1.1, h.1.2.2.1, h.1.2.2.2.1, h.1.2.2.2.2 sl hsl, isr_ref, rv_ref, v4, ws, ht.1.1, ht.1.2.1, ht.1.2.2.1, ht.1.2.2.2.1, ra.1, ra.2.1, ra.2.2.1, true_and, forall_eq]
          exact q_term ra.2.2.2 ok r3 (fun n => absurd n hi) (fun n => k_L_valueOf_15 (L_thr i2_ne h))
        · have hm := h.1
          have ht := h.2.1 sl hsl
          rw [eT] at ht
          have l40 := ht.2.2.1
          have rk := ht.2.2.2 k r hr
          have vr := vi (show 40 * sl + k < 520 by omega) (by omega)
          have wr := vc (show 40 * sl + k < 2000000 by omega)
          refine w_M_valueOf_0 (gD (s_M_isSlot r1) (by omega) (fun n => absurd hv.1 n) (fun _ => gD (s_M_isSymbol r4) (by omega) (fun n => absurd hv.2 n) (fun _ => ?_)))
          simp only [hm.1, hm.f2, hm.t2, hm.l2, isr_ref, rv_ref, v13, ws, ht.2.1, true_and, forall_eq]
          refine g_in r2 (by omega) (fun n => absurd hr2 n) (fun _ => ?_)
          simp only [hm.1, hm.f7, hm.t7, hm.l7, isr_ref, rv_ref, oi_row, vr, wr, rk.2.2.2.2.1, true_and, forall_eq]
          exact g_in r3 (by omega) (fun _ => w_M_valueOf_38 (thrK hm i2_ne (fun σ1 m1 f1 y1 => mOut_e i2_ne h hA f1 y1))) (fun n => absurd n hi)
    · refine ⟨2, 0, A, hA, fun σ h hL => ?_, fun σ h => ?_⟩
      · exact w_L_valueOf_0 ⟨h.1.1, w_B_valueOf_0 (q_slot r1 (fun _ => q_symbols r4 r4 (fun _ => ⟨h.1.1, q_rule h r2 hsl (fun n => absurd (by rw [eT] at n; exact n) hr2) (fun n => k_L_valueOf_15 (L_thr i2_ne h))⟩) (fun n => absurd hv4 n)) (fun n => absurd hv.1 n))⟩
      · have hm := h.1
        have ht := h.2.1 sl hsl
        rw [eT] at ht
        have l40 := ht.2.2.1
        refine w_M_valueOf_0 (gD (s_M_isSlot r1) (by omega) (fun n => absurd hv.1 n) (fun _ => gD (s_M_isSymbol r4) (by omega) (fun n => absurd hv.2 n) (fun _ => ?_)))
        simp only [hm.1, hm.f2, hm.t2, hm.l2, isr_ref, rv_ref, v13, ws, ht.2.1, true_and, forall_eq]
        exact g_in r2 (by omega) (fun _ => w_M_valueOf_38 (thrK hm i2_ne (fun σ1 m1 f1 y1 => mOut_e i2_ne h hA f1 y1))) (fun n => absurd n hr2)
  · refine ⟨1, 0, A, hA, fun σ h hL => ?_, fun σ h => ?_⟩
    · exact w_L_valueOf_0 ⟨h.1.1, w_B_valueOf_0 (q_slot r1 (fun s1 => q_symbols r4 r4 (fun s2 => absurd ⟨s1, by omega⟩ hv) (fun n => k_L_valueOf_12 (L_thr i1_ne h))) (fun n => k_L_valueOf_12 (L_thr i1_ne h)))⟩
    · have fin : pm_R 39 192 38 [.ref m, .int (Int32.ofInt z1), .int (Int32.ofInt z2), .int (Int32.ofInt z3), .int (Int32.ofInt z4)] [.int ((1 : Int32)), .ref m] σ (mOut m σ 1 0 A) := w_M_valueOf_38 (thrK h.1 i1_ne (fun σ1 m1 f1 y1 => mOut_e i1_ne h hA f1 y1))
      exact w_M_valueOf_0 (gD (s_M_isSlot r1) (by omega) (fun n => fin) (fun s1 => gD (s_M_isSymbol r4) (by omega) (fun n => fin) (fun s2 => absurd ⟨s1, s2⟩ hv)))
