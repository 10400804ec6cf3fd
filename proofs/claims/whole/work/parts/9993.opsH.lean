/-! ===== clearWord, symbol, result, useResult, runs, transduce ===== -/
def bOut0 (x N0 c w : Nat) (σ : pm_H) (v : Int32) (A' : AS) (o : pm_O) (σ' : pm_H) : Prop := o = .inl (some (.int v)) ∧ isB σ' x N0 A' ∧ fB x N0 c w σ σ'
theorem J_clearWord {x m N0 : Nat} {A : AS} (hA : okA A) : ∃ v A', okA A' ∧ (∀ σ, isB σ x N0 A → pm_C 39 131 [.ref x] σ (bOut0 x N0 1 6 σ v A')) ∧ ∀ σ, isM σ m A → pm_C 39 204 [.ref m] σ (fun o σ' => o = .inl (some (.int v)) ∧ mCo m σ 0 A' σ') := by
  refine ⟨Int32.ofInt ((aW A).length : Int), (aS A, aH A, aL A, [], aR A), okA_W hA (by show 0 ≤ 10; omega) (fun c hc => by cases hc), fun σ h => ?_, fun σ h => ?_⟩
  · have hw := h.2.2.2.2.2.1
    refine w_B_clearWord_0 ?_
    simp only [h.1.1, h.1.2.1.2.2.2.2.1, hw.1.1, hw.2.1, isr_ref, rv_ref, true_and, forall_eq]
    refine (s_Wo_clear hw.1).use (by omega) (fun σ1 p1 => ?_)
    have g := isB_word h p1.2 p1.1
    exact ⟨rfl, g.1, g.2⟩
  · have hm := h.1
    have f1 : frT m (fun _ => False) (fun _ => False) σ (pm_sF σ 1200 m (.int ((0 : Int32)))) := frX_sF
    have m1 := f1.mS hm
    have h1 := isM_scr h hA f1 (fun _ q => Or.inl q) (fun _ q => q.elim) (fun _ q => q.elim)
    refine w_M_clearWord_0 ?_
    simp only [hm.1, m1.1, h1.2.2.2.2.1.1, true_and, forall_eq]
    have f2 : frX m (fun f => f = 1200 ∨ f = 1218) (fun _ => False) (fun _ => False) σ (pm_sF (pm_sF σ 1200 m (.int ((0 : Int32)))) 1218 m (.int ((0 : Int32)))) := (frX.mono f1 (fun _ q => Or.inl q) (fun _ q => q) (fun _ q => q)).tr (frX_sF.mono (fun _ q => Or.inr q) (fun _ q => q) (fun _ q => q))
    refine ⟨?_, isM_mk h hA f2 (fun f hf => by rcases hf with e | e <;> (rw [e]; decide)) (fun i hi => Or.inl ⟨id, rfl⟩) (Or.inl ⟨by omega, id, fun _ _ q => q, rfl⟩) (Or.inl ⟨by omega, id, rfl⟩) (Or.inr ⟨?_, ?_, fun i d hi => ?_⟩) (Or.inl ⟨by omega, id, rfl⟩), f2.fr⟩
    · simp only [F_sF, Nat.reduceEqDiff, false_and, if_false, and_self, if_true]; rfl
    · rw [F_sF, if_pos ⟨rfl, rfl⟩]; rfl
    · show 0 ≤ 10
      omega
    · replace hi : ([] : List Nat)[i]? = some d := hi
      simp at hi
theorem J_symbol {x m N0 L : Nat} {A : AS} (hA : okA A) {z1 : Int} (r1 : rg z1) : ∃ k v A', okA A' ∧ (∀ σ, isB σ x N0 A → isL σ x N0 L → pm_C 39 263 [.ref x, .int (Int32.ofInt z1), .ref L] σ (bOut x N0 1 6 σ k v A' L)) ∧ ∀ σ, isM σ m A → pm_C 39 205 [.ref m, .int (Int32.ofInt z1)] σ (mOut m σ k v A') := by
  have l10 := hA.2.2.2.1.1
  by_cases hv : 0 ≤ z1 ∧ z1 < (aW A).length
  · obtain ⟨i, rfl⟩ : ∃ n : Nat, z1 = n := ⟨z1.toNat, by omega⟩
    have hi : i < (aW A).length := by omega
    have hs := List.getElem?_eq_getElem hi
    generalize (aW A)[i] = s at hs
    have v60 := vi (show i < 60 by omega) (by omega)
    have v10 := vi (show i < 10 by omega) (by omega)
    have wi := vc (show i < 2000000 by omega)
    refine ⟨0, (Int32.ofInt (s : Int)).toInt64, A, hA, fun σ h hL => ?_, fun σ h => ?_⟩
    · have hw := h.2.2.2.2.2.1
      refine w_L_symbol_0 ⟨h.1.1, w_B_symbol_0 ?_⟩
      simp only [h.1.1, h.1.2.1.2.2.2.2.1, isr_ref, rv_ref, true_and, forall_eq]
      refine q_index hw r1 (fun _ => ?_) (fun n => absurd hv n)
      simp only [h.1.1, h.1.2.1.2.2.2.2.1, hw.1.1, hw.1.2.1, hw.1.2.2.1, hw.1.2.2.2, hw.2.2.2 i s hs, v60, wi, isr_ref, rv_ref, true_and, forall_eq]
      exact L_ok2 hL h fB_rf
    · have hm := h.1
      refine w_M_symbol_0 ?_
      simp only [hm.1, h.2.2.2.2.1.1, true_and, forall_eq]
      refine g_in r1 (by omega) (fun n => absurd hv n) (fun _ => thr0e hm (fun m1 f1 y1 => ?_))
      have h1 := isM_scr h hA f1 (fun _ q => Or.inl q) (fun _ q => q.elim) (fun _ q => q.elim)
      simp only [m1.1, m1.f12, m1.t12, m1.l12, h1.2.2.2.2.1.2.2 i s hs, v10, wi, isr_ref, rv_ref, true_and, forall_eq]
      exact mOut_0 h hA f1 y1
  · refine ⟨1, 0, A, hA, fun σ h hL => ?_, fun σ h => ?_⟩
    · have hw := h.2.2.2.2.2.1
      refine w_L_symbol_0 ⟨h.1.1, w_B_symbol_0 ?_⟩
      simp only [h.1.1, h.1.2.1.2.2.2.2.1, isr_ref, rv_ref, true_and, forall_eq]
      exact q_index hw r1 (fun n => absurd n hv) (fun n => k_L_symbol_9 (L_thr i1_ne h))
    · have hm := h.1
      refine w_M_symbol_0 ?_
      simp only [hm.1, h.2.2.2.2.1.1, true_and, forall_eq]
      exact g_in r1 (by omega) (fun _ => thrKe hm i1_ne (fun m1 f1 y1 => mOut_e i1_ne h hA f1 y1)) (fun n => absurd n hv)
theorem J_result {x m N0 L : Nat} {A : AS} (hA : okA A) {z1 : Int} (r1 : rg z1) : ∃ k v A', okA A' ∧ (∀ σ, isB σ x N0 A → isL σ x N0 L → pm_C 39 266 [.ref x, .int (Int32.ofInt z1), .ref L] σ (bOut x N0 1 6 σ k v A' L)) ∧ ∀ σ, isM σ m A → pm_C 39 210 [.ref m, .int (Int32.ofInt z1)] σ (mOut m σ k v A') := by
  have l60 := hA.2.2.2.2.1
  by_cases hv : 0 ≤ z1 ∧ z1 < (aR A).length
  · obtain ⟨i, rfl⟩ : ∃ n : Nat, z1 = n := ⟨z1.toNat, by omega⟩
    have hi : i < (aR A).length := by omega
    have hs := List.getElem?_eq_getElem hi
    generalize (aR A)[i] = s at hs
    have v60 := vi (show i < 60 by omega) (by omega)
    have wi := vc (show i < 2000000 by omega)
    refine ⟨0, (Int32.ofInt (s : Int)).toInt64, A, hA, fun σ h hL => ?_, fun σ h => ?_⟩
    · have hw := h.2.2.2.2.2.2.1
      refine w_L_result_0 ⟨h.1.1, w_B_result_0 ?_⟩
      simp only [h.1.1, h.1.2.1.2.2.2.2.2.1, isr_ref, rv_ref, true_and, forall_eq]
      refine q_index hw r1 (fun _ => ?_) (fun n => absurd hv n)
      simp only [h.1.1, h.1.2.1.2.2.2.2.2.1, hw.1.1, hw.1.2.1, hw.1.2.2.1, hw.1.2.2.2, hw.2.2.2 i s hs, v60, wi, isr_ref, rv_ref, true_and, forall_eq]
      exact L_ok2 hL h fB_rf
    · have hm := h.1
      refine w_M_result_0 ?_
      simp only [hm.1, h.2.2.2.2.2.1, true_and, forall_eq]
      refine g_in r1 (by omega) (fun n => absurd hv n) (fun _ => thr0e hm (fun m1 f1 y1 => ?_))
      have h1 := isM_scr h hA f1 (fun _ q => Or.inl q) (fun _ q => q.elim) (fun _ q => q.elim)
      simp only [m1.1, m1.f13, m1.t13, m1.l13, h1.2.2.2.2.2.2.2 i s hs, v60, wi, isr_ref, rv_ref, true_and, forall_eq]
      exact mOut_0 h hA f1 y1
  · refine ⟨1, 0, A, hA, fun σ h hL => ?_, fun σ h => ?_⟩
    · have hw := h.2.2.2.2.2.2.1
      refine w_L_result_0 ⟨h.1.1, w_B_result_0 ?_⟩
      simp only [h.1.1, h.1.2.1.2.2.2.2.2.1, isr_ref, rv_ref, true_and, forall_eq]
      exact q_index hw r1 (fun n => absurd n hv) (fun n => k_L_result_9 (L_thr i1_ne h))
    · have hm := h.1
      refine w_M_result_0 ?_
      simp only [hm.1, h.2.2.2.2.2.1, true_and, forall_eq]
      exact g_in r1 (by omega) (fun _ => thrKe hm i1_ne (fun m1 f1 y1 => mOut_e i1_ne h hA f1 y1)) (fun n => absurd n hv)
theorem J_useResult {x m N0 L : Nat} {A : AS} (hA : okA A) : ∃ k v A', okA A' ∧ (∀ σ, isB σ x N0 A → isL σ x N0 L → pm_C 39 267 [.ref x, .ref L] σ (bOut x N0 1 6 σ k v A' L)) ∧ ∀ σ, isM σ m A → pm_C 39 211 [.ref m] σ (mOut m σ k v A') := by
  have l60 := hA.2.2.2.2.1
  by_cases hl : (aR A).length ≤ 10
  · refine ⟨0, (Int32.ofInt ((aR A).length : Int)).toInt64, (aS A, aH A, aL A, aR A, aR A), okA_W hA hl hA.2.2.2.2.2, fun σ h hL => ?_, fun σ h => ?_⟩
    · have hw := h.2.2.2.2.2.1
      have hr := h.2.2.2.2.2.2.1
      have q : Int32.ofInt ((aR A).length : Int) ≤ 10 := (z_le10 (nrg (by omega))).mpr (by omega)
      refine w_L_useResult_0 ⟨h.1.1, w_B_useResult_0 ?_⟩
      simp only [h.1.1, h.1.2.1.2.2.2.2.1, h.1.2.1.2.2.2.2.2.1, hw.1.1, hr.1.1, hr.2.1, q, not_true_eq_false, false_implies, true_implies, and_true, isr_ref, rv_ref, true_and, forall_eq]
      refine (s_Wo_copyFrom hw.1 hr).use (by omega) (fun σ1 p1 => ?_)
      have g := isB_word h p1.2 p1.1
      have hd1 := g.1.1
      simp only [hd1.1, hd1.2.1.2.2.2.2.1, p1.1.1.1, p1.1.2.1, isr_ref, rv_ref, true_and, forall_eq]
      exact L_ok2 hL g.1 g.2
    · have hm := h.1
      have q : Int32.ofInt ((aR A).length : Int) ≤ 10 := (z_le10 (nrg (by omega))).mpr (by omega)
      refine w_M_useResult_0 ⟨hm.1, fun z ez => ?_⟩
      rw [h.2.2.2.2.2.1] at ez
      subst ez
      refine ⟨fun _ => thr0 hm (fun σ1 m1 f1 y1 => ?_), fun n => absurd q n⟩
      have h1 := isM_scr h hA f1 (fun _ q => Or.inl q) (fun _ q => q.elim) (fun _ q => q.elim)
      simp only [m1.1, h1.2.2.2.2.2.1, true_and, forall_eq]
      have f2 : frX m (fun f => f = 1200 ∨ f = 1218) (fun i => i = 12) (fun _ => False) σ (pm_sF σ1 1218 m (.int (Int32.ofInt ((aR A).length : Int)))) := (frX.mono f1 (fun _ q => Or.inl q) (fun _ q => q.elim) (fun _ q => q)).tr (frX_sF.mono (fun _ q => Or.inr q) (fun _ q => q.elim) (fun _ q => q))
      have hF : ∀ f, (f = 1200 ∨ f = 1218) → f ∉ mTab.map (fun e => e.1) := fun f hf => by rcases hf with e | e <;> (rw [e]; decide)
      refine lp (fun i => [.ref m, .int (Int32.ofInt (i : Nat))]) (fun i τ => frX m (fun f => f = 1200 ∨ f = 1218) (fun i => i = 12) (fun _ => False) σ τ ∧ iv (pm_F τ 1200 m) = 0 ∧ iv (pm_F τ 1218 m) = Int32.ofInt ((aR A).length : Int) ∧ ∀ (k s : Nat), k < i → (aR A)[k]? = some s → iv (pm_A τ (m + 12) k) = Int32.ofInt (s : Int)) (aR A).length (fun i hi τ hh next => ?_) (fun τ hh => ?_) 0 (Nat.zero_le _) _ ⟨f2, by simp only [F_sF, Nat.reduceEqDiff, false_and, if_false]; exact y1, by rw [F_sF, if_pos ⟨rfl, rfl⟩]; rfl, fun k s hk => absurd hk (by omega)⟩
      · obtain ⟨j1, j2, j3, j4⟩ := hh
        have mt := frX.mS j1 hm hF
        have rt := mRes_X h.2.2.2.2.2 j1 (by omega) (by omega)
        have hs := List.getElem?_eq_getElem hi
        generalize (aR A)[i] = s at hs
        have v60 := vi (show i < 60 by omega) (by omega)
        have v10 := vi (show i < 10 by omega) (by omega)
        have wi := vc (show i < 2000000 by omega)
        have q6 : ¬ Int32.ofInt ((aR A).length : Int) ≤ Int32.ofInt (i : Nat) := by rw [oi_le (by omega)]; omega
        refine w_M_useResult_20 ⟨mt.1, fun z ez => ?_⟩
        rw [j3] at ez
        subst ez
        refine ⟨fun q => absurd q q6, fun _ => ?_⟩
        simp only [mt.1, mt.f12, mt.t12, mt.l12, mt.f13, mt.t13, mt.l13, rt.2.2 i s hs, v60, v10, wi, isr_ref, rv_ref, true_and, forall_eq, oi_s]
        refine next _ ⟨frX.tr j1 ((frX_sA (by omega) (by omega)).mono (fun _ q => q.elim) (fun _ q => q) (fun _ q => q)), j2, j3, fun k s' hk hk2 => ?_⟩
        rw [A_sA]
        by_cases c : k = i
        · rw [c, hs] at hk2
          cases hk2
          rw [if_pos ⟨rfl, c⟩]; rfl
        · rw [if_neg (fun q => c q.2)]; exact j4 k s' (by omega) hk2
      · obtain ⟨j1, j2, j3, j4⟩ := hh
        have mt := frX.mS j1 hm hF
        refine w_M_useResult_20 ⟨mt.1, fun z ez => ?_⟩
        rw [j3] at ez
        subst ez
        refine ⟨fun _ => ⟨mt.1, fun z ez => ?_⟩, fun q => absurd (Int32.le_refl _) q⟩
        rw [j3] at ez
        subst ez
        exact ⟨⟨_, rfl, fun _ => rfl⟩, j2, isM_mk h hA j1 hF (fun i hi => Or.inl ⟨id, rfl⟩) (Or.inl ⟨by omega, by omega, fun _ _ q => q, rfl⟩) (Or.inl ⟨by omega, by omega, rfl⟩) (Or.inr ⟨j3, hl, fun i d hi => j4 i d (List.getElem?_eq_some_iff.mp hi).1 hi⟩) (Or.inl ⟨by omega, by omega, rfl⟩), j1.fr⟩
  · refine ⟨1, 0, A, hA, fun σ h hL => ?_, fun σ h => ?_⟩
    · have hr := h.2.2.2.2.2.2.1
      have q : ¬ Int32.ofInt ((aR A).length : Int) ≤ 10 := by rw [z_le10 (nrg (by omega))]; omega
      refine w_L_useResult_0 ⟨h.1.1, w_B_useResult_0 ?_⟩
      simp only [h.1.1, h.1.2.1.2.2.2.2.2.1, hr.1.1, hr.2.1, q, not_false_eq_true, false_implies, true_implies, isr_ref, rv_ref, true_and, forall_eq]
      exact k_L_useResult_8 (L_thr i1_ne h)
    · have hm := h.1
      have q : ¬ Int32.ofInt ((aR A).length : Int) ≤ 10 := by rw [z_le10 (nrg (by omega))]; omega
      refine w_M_useResult_0 ⟨hm.1, fun z ez => ?_⟩
      rw [h.2.2.2.2.2.1] at ez
      subst ez
      exact ⟨fun n => absurd n q, fun _ => thrK hm i1_ne (fun σ1 m1 f1 y1 => mOut_e i1_ne h hA f1 y1)⟩
theorem J_runs {x m N0 L : Nat} {A : AS} (hA : okA A) {z1 : Int} (r1 : rg z1) : ∃ k v A', okA A' ∧ (∀ σ, isB σ x N0 A → isL σ x N0 L → pm_C 39 264 [.ref x, .int (Int32.ofInt z1), .ref L] σ (bOut x N0 1 6 σ k v A' L)) ∧ ∀ σ, isM σ m A → pm_C 39 206 [.ref m, .int (Int32.ofInt z1)] σ (mOutJ m σ k v A') := by
  by_cases hv : 0 ≤ z1 ∧ z1 < 4
  · obtain ⟨sl, rfl⟩ : ∃ n : Nat, z1 = n := ⟨z1.toNat, by omega⟩
    have hsl : sl < 4 := by omega
    have hT := hA.1 sl hsl
    have v4 := vi (show sl < 4 from hsl) (by omega)
    have ws := vc (show sl < 2000000 by omega)
    refine ⟨0, sumF (aS A sl).1 (runC (aS A sl).2 (aW A)) 12, A, hA, fun σ h hL => ?_, fun σ h => ?_⟩
    · obtain ⟨π, ht⟩ := h.2.1 sl hsl
      have ho := h.2.2.2.2.2.2.2.1
      have hw := h.2.2.2.2.2.1
      refine w_L_runs_0 ⟨h.1.1, w_B_runs_0 (q_slot r1 (fun _ => ?_) (fun n => absurd hv n))⟩
      simp only [h.1.1, h.1.2.1.1, h.1.2.1.2.2.2.2.1, h.1.2.1.2.2.2.2.2.2.1, h.1.2.2.1, h.1.2.2.2.1, h.1.2.2.2.2 sl hsl, isr_ref, rv_ref, v4, ws, ho.1.1, true_and, forall_eq]
      refine pm_C_mono (pm_C_up (fx_C (s_Ou_countRuns ho.1 ht hT hw hA.2.2.2.1.2 (by omega) (by omega)) (by omega)) (by omega)) (fun o σ' p => ?_)
      obtain ⟨⟨rfl, f⟩, g⟩ := p
      have ho' := isOu_fx ho g (by decide +kernel) (by decide +kernel) (by decide +kernel)
      have b := isB_scr h f (fun b hb => by unfold pOu at hb; unfold pScr pO; omega) ho' (isDo_fr h.2.2.2.2.2.2.2.2.1 f (fun b hb => by unfold pDo at hb; unfold pOu; omega)) (isWo_fr h.2.2.2.2.2.2.1 f (fun b hb => by unfold pWo at hb; unfold pOu; omega))
      exact kJ_B (L_okJ2 hL b.1 b.2)
    · have hm := h.1
      refine w_M_runs_0 (gD (s_M_isSlot r1) (by omega) (fun n => absurd hv n) (fun _ => thr0 hm (fun σ1 m1 f1 y1 => ?_)))
      have h1 := isM_scr h hA f1 (fun _ q => Or.inl q) (fun _ q => q.elim) (fun _ q => q.elim)
      refine pm_R_up (s_M_runs_c m1 (h1.2.1 sl hsl) hT hsl h1.2.2.2.2.1 hA.2.2.2.1.2 rfl (fun σ' f => ?_)) (by omega)
      have f2 : frT m (fun i => i = 14 ∨ i = 15) (fun _ => False) σ σ' := frX.tr (frX.mono f1 (fun _ q => q) (fun _ q => q.elim) (fun _ q => q)) (frX.mono f (fun _ q => q.elim) (fun _ q => q) (fun _ q => q))
      exact ⟨⟨_, rfl, fun _ => rfl⟩, by rw [frX.F f id]; exact y1, isM_scr h hA f2 (fun _ q => Or.inl q) (fun i q => by omega) (fun _ q => q.elim), frX.fr f2⟩
  · refine ⟨1, 0, A, hA, fun σ h hL => ?_, fun σ h => ?_⟩
    · exact w_L_runs_0 ⟨h.1.1, w_B_runs_0 (q_slot r1 (fun s => absurd s hv) (fun n => k_L_runs_8 (L_thr i1_ne h)))⟩
    · exact w_M_runs_0 (gD (s_M_isSlot r1) (by omega) (fun n => thrK h.1 i1_ne (fun σ1 m1 f1 y1 => mOutJ_e i1_ne h hA f1 y1)) (fun s => absurd s hv))
theorem pScr_B {x b : Nat} (h : pScr x b) : pB x b := by unfold pScr pWo pO pDo at h; unfold pB; omega
theorem J_transduce {x m N0 L : Nat} {A : AS} (hA : okA A) {z1 : Int} {b : Bool} (r1 : rg z1) : ∃ k v A', okA A' ∧ (∀ σ, isB σ x N0 A → isL σ x N0 L → pm_C 39 265 [.ref x, .int (Int32.ofInt z1), .int (bI b), .ref L] σ (bOut x N0 1 6 σ k v A' L)) ∧ ∀ σ, isM σ m A → pm_C 39 209 [.ref m, .int (Int32.ofInt z1), .int (bI b)] σ (mOut m σ k v A') := by
  by_cases hv : 0 ≤ z1 ∧ z1 < 4
  · obtain ⟨sl, rfl⟩ : ∃ n : Nat, z1 = n := ⟨z1.toNat, by omega⟩
    have hsl : sl < 4 := by omega
    have hT := hA.1 sl hsl
    have v4 := vi (show sl < 4 from hsl) (by omega)
    have ws := vc (show sl < 2000000 by omega)
    have l10 := hA.2.2.2.1.1
    have call : ∀ σ, isB σ x N0 A → pm_C 37 24 [.ref (x + 1600), .ref (x + 2 + 122 * sl), .ref (x + 1596), .int (bI b), .ref (x + 1598)] σ (fun o σ' => o = .inl (some (.int (bI (bestW (aS A sl) b (aW A) 0).isSome))) ∧ (∀ r, bestW (aS A sl) b (aW A) 0 = some r → isB σ' x N0 (aS A, aH A, aL A, aW A, r)) ∧ (bestW (aS A sl) b (aW A) 0 = none → isB σ' x N0 A) ∧ fr (pScr x) σ σ') := by
      intro σ h
      obtain ⟨π, ht⟩ := h.2.1 sl hsl
      have ho := h.2.2.2.2.2.2.2.1
      have hw := h.2.2.2.2.2.1
      have hr := h.2.2.2.2.2.2.1
      refine pm_C_mono (pm_C_up (fx_C (s_Ou_find (last := b) ho.2.1 ht hT hw l10 hA.2.2.2.1.2 hr.1 (by omega) (by omega) (by omega)) (by omega)) (by omega)) (fun o σ' p => ?_)
      obtain ⟨⟨rfl, p1, p2, p3, f⟩, g⟩ := p
      have ho' := isOu_fx ho g (by decide +kernel) (by decide +kernel) (by decide +kernel)
      have hd' := isDo_fr h.2.2.2.2.2.2.2.2.1 f (fun b hb => by unfold pDo at hb; unfold pO pWo; omega)
      have hP : ∀ b, (pO (x + 1600) b ∨ pWo (x + 1598) b) → pScr x b := fun b hb => hb.elim (fun q => Or.inr (Or.inl q)) (fun q => Or.inl q)
      exact ⟨rfl, fun r hr' => (isB_scr h f hP ho' hd' (p1 r hr')).1, fun hn => (isB_scr h f hP ho' hd' (isWo_fr hr (p2 hn) (fun b hb => by unfold pWo at hb; unfold pO; omega))).1, f.mono hP⟩
    cases eb : bestW (aS A sl) b (aW A) 0 with
    | none =>
      rw [eb] at call
      refine ⟨2, 0, A, hA, fun σ h hL => ?_, fun σ h => ?_⟩
      · have ho := h.2.2.2.2.2.2.2.1
        refine w_L_transduce_0 ⟨h.1.1, w_B_transduce_0 (q_slot r1 (fun _ => ?_) (fun n => absurd hv n))⟩
        simp only [h.1.1, h.1.2.1.1, h.1.2.1.2.2.2.2.1, h.1.2.1.2.2.2.2.2.1, h.1.2.1.2.2.2.2.2.2.1, h.1.2.2.1, h.1.2.2.2.1, h.1.2.2.2.2 sl hsl, isr_ref, rv_ref, v4, ws, ho.1.1, true_and, forall_eq]
        refine pm_C_mono (call σ h) (fun o σ' p => ?_)
        obtain ⟨rfl, _, p2, f⟩ := p
        exact kI_B ⟨fun _ => k_L_transduce_13 (L_ex i2_ne (isB_thr (p2 rfl)) (fB_thr f (fun _ q => pScr_B q))), fun n => absurd rfl n⟩
      · have hm := h.1
        refine w_M_transduce_0 (gD (s_M_isSlot r1) (by omega) (fun n => absurd hv n) (fun _ => thr0 hm (fun σ1 m1 f1 y1 => ?_)))
        have h1 := isM_scr h hA f1 (fun _ q => Or.inl q) (fun _ q => q.elim) (fun _ q => q.elim)
        refine pm_R_up (s_M_trans_c m1 (h1.2.1 sl hsl) hT hsl h1.2.2.2.2.1 hA.2.2.2.1.2 (fun _ σ' f e1 e2 e3 => ?_) (fun r hr => by rw [eb] at hr; cases hr)) (by omega)
        have hF : ∀ f, (f = 1200 ∨ f = 1220) → f ∉ mTab.map (fun e => e.1) := fun f hf => by rcases hf with e | e <;> (rw [e]; decide)
        have g := isM_mk h1 hA f hF (fun i hi => Or.inl ⟨id, rfl⟩) (Or.inl ⟨by omega, by omega, fun _ _ q => q, rfl⟩) (Or.inl ⟨by omega, by omega, rfl⟩) (Or.inl ⟨by omega, by omega, rfl⟩) (Or.inr ⟨by rw [e2]; exact h1.2.2.2.2.2.1, h1.2.2.2.2.2.2.1, fun i s hi => by rw [e3]; exact h1.2.2.2.2.2.2.2 i s hi⟩)
        exact ⟨⟨_, rfl, fun q => absurd q i2_ne⟩, e1, g, (frX.fr f1).tr (frX.fr f)⟩
    | some r =>
      have okr := bestW_ok hT b (aW A) 0 r eb
      have r60 : r.length ≤ 60 := by have := okr.1; omega
      rw [eb] at call
      refine ⟨0, (Int32.ofInt (r.length : Int)).toInt64, (aS A, aH A, aL A, aW A, r), okA_R hA r60 okr.2, fun σ h hL => ?_, fun σ h => ?_⟩
      · have ho := h.2.2.2.2.2.2.2.1
        refine w_L_transduce_0 ⟨h.1.1, w_B_transduce_0 (q_slot r1 (fun _ => ?_) (fun n => absurd hv n))⟩
        simp only [h.1.1, h.1.2.1.1, h.1.2.1.2.2.2.2.1, h.1.2.1.2.2.2.2.2.1, h.1.2.1.2.2.2.2.2.2.1, h.1.2.2.1, h.1.2.2.2.1, h.1.2.2.2.2 sl hsl, isr_ref, rv_ref, v4, ws, ho.1.1, true_and, forall_eq]
        refine pm_C_mono (call σ h) (fun o σ' p => ?_)
        obtain ⟨rfl, p1, _, f⟩ := p
        have hb := p1 r rfl
        have hw' : isWo σ' (x + 1598) r := hb.2.2.2.2.2.2.1
        refine kI_B ⟨fun n => absurd (show (1 : Int32) = 0 from n) (by decide), fun _ => ?_⟩
        simp only [hb.1.1, hb.1.2.1.2.2.2.2.2.1, hw'.1.1, hw'.2.1, isr_ref, rv_ref, true_and, forall_eq]
        exact L_ok2 hL hb (fB_fr f (fun _ q => pScr_B q))
      · have hm := h.1
        refine w_M_transduce_0 (gD (s_M_isSlot r1) (by omega) (fun n => absurd hv n) (fun _ => thr0 hm (fun σ1 m1 f1 y1 => ?_)))
        have h1 := isM_scr h hA f1 (fun _ q => Or.inl q) (fun _ q => q.elim) (fun _ q => q.elim)
        refine pm_R_up (s_M_trans_c m1 (h1.2.1 sl hsl) hT hsl h1.2.2.2.2.1 hA.2.2.2.1.2 (fun hn => by rw [eb] at hn; cases hn) (fun r' hr σ' f e1 e2 => ?_)) (by omega)
        rw [eb] at hr
        cases hr
        have hF : ∀ f, (f = 1200 ∨ f = 1220) → f ∉ mTab.map (fun e => e.1) := fun f hf => by rcases hf with e | e <;> (rw [e]; decide)
        have g := isM_mk (A' := (aS A, aH A, aL A, aW A, r)) h1 hA f hF (fun i hi => Or.inl ⟨id, rfl⟩) (Or.inl ⟨by omega, by omega, fun _ _ q => q, rfl⟩) (Or.inl ⟨by omega, by omega, rfl⟩) (Or.inl ⟨by omega, by omega, rfl⟩) (Or.inr e2)
        exact ⟨⟨_, rfl, fun _ => rfl⟩, e1, g, (frX.fr f1).tr (frX.fr f)⟩
  · refine ⟨1, 0, A, hA, fun σ h hL => ?_, fun σ h => ?_⟩
    · exact w_L_transduce_0 ⟨h.1.1, w_B_transduce_0 (q_slot r1 (fun s => absurd s hv) (fun n => k_L_transduce_10 (L_thr i1_ne h)))⟩
    · exact w_M_transduce_0 (gD (s_M_isSlot r1) (by omega) (fun n => thrK h.1 i1_ne (fun σ1 m1 f1 y1 => mOut_e i1_ne h hA f1 y1)) (fun s => absurd s hv))
