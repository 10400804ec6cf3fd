/-! ===== isDeterministic, isWithin, domainCount ===== -/
theorem s_M_det {σ : pm_H} {m sl : Nat} {T : Tr} (hm : mS σ m) (ht : mTr σ m sl T) (hT : okTr T) (hsl : sl < 4) : pm_R 39 223 15 [.ref m, .int (Int32.ofInt (sl : Int)), .int ((0 : Int32)), pm_U] [] σ (fun o σ' => o = .inl (some (.int (bI (det T.2)))) ∧ σ' = σ) := by
  have l40 := ht.2.2.1
  have vs := vi (show sl < 13 by omega) (by omega)
  have ws := vc (show sl < 2000000 by omega)
  have step : ∀ i j (r r' : Rl), j < i → i < T.2.length → T.2[i]? = some r → T.2[j]? = some r' → (pm_R 39 223 23 [.ref m, .int (Int32.ofInt (sl : Int)), .int (Int32.ofInt (i : Nat)), .int (Int32.ofInt ((j + 1 : Nat) : Int))] [] σ (fun o σ' => o = .inl (some (.int (bI (det T.2)))) ∧ σ' = σ) ∨ (decide (rF r = rF r') && both r r') = true) → ((decide (rF r = rF r') && both r r') = true → det T.2 = false) → pm_R 39 223 23 [.ref m, .int (Int32.ofInt (sl : Int)), .int (Int32.ofInt (i : Nat)), .int (Int32.ofInt (j : Nat))] [] σ (fun o σ' => o = .inl (some (.int (bI (det T.2)))) ∧ σ' = σ) := by
    intro i j r r' hj hi hr hr' next2 hdet
    have ok := hT.at hr
    have ok' := hT.at hr'
    have rk := ht.2.2.2 i r hr
    have rk' := ht.2.2.2 j r' hr'
    have vr := vi (show 40 * sl + i < 520 by omega) (by omega)
    have wr := vc (show 40 * sl + i < 2000000 by omega)
    have vr' := vi (show 40 * sl + j < 520 by omega) (by omega)
    have wr' := vc (show 40 * sl + j < 2000000 by omega)
    refine w_M_isDeterministic_23 ⟨fun q => ?_, fun _ => ?_⟩
    · rw [oi_le (by omega)] at q; omega
    simp only [hm.1, hm.f3, hm.t3, hm.l3, isr_ref, rv_ref, oi_row, vr, wr, vr', wr', rk.1, rk'.1, true_and, forall_eq, oi_s]
    rw [oi_eq (by have := ok.1; have := ok'.1; omega)]
    rcases next2 with next2 | b0
    · refine ⟨fun e => gI (s_M_areBoth hm rk (by omega) ok.2.2.2 rk' (by omega) ok'.2.2.2) (by omega) (fun _ => next2) (fun b => ⟨rfl, ?_, rfl⟩), fun _ => next2⟩
      rw [hdet (by rw [b, decide_eq_true (by omega)]; rfl)]; rfl
    · have h0 := b0
      rw [Bool.and_eq_true, decide_eq_true_eq] at h0
      refine ⟨fun e => gI (s_M_areBoth hm rk (by omega) ok.2.2.2 rk' (by omega) ok'.2.2.2) (by omega) (fun b => ?_) (fun b => ⟨rfl, ?_, rfl⟩), fun e => absurd (by omega) e⟩
      · rw [h0.2] at b; cases b
      · rw [hdet b0]; rfl
  by_cases hd : det T.2 = true
  · have hd' := det_iff.mp hd
    refine lp0 (fun i => [.ref m, .int (Int32.ofInt (sl : Int)), .int (Int32.ofInt (i : Nat)), pm_U]) T.2.length (fun i hi next => ?_) ?_ 0 (Nat.zero_le _)
    · have q6 : ¬ Int32.ofInt (T.2.length : Int) ≤ Int32.ofInt (i : Nat) := by rw [oi_le (by omega)]; omega
      refine w_M_isDeterministic_15 ?_
      simp only [hm.1, hm.f2, hm.t2, hm.l2, isr_ref, rv_ref, vs, ws, ht.2.1, q6, not_false_eq_true, false_implies, true_implies, true_and, forall_eq]
      refine lp0 (fun j => [.ref m, .int (Int32.ofInt (sl : Int)), .int (Int32.ofInt (i : Nat)), .int (Int32.ofInt (j : Nat))]) i (fun j hj next2 => ?_) ?_ 0 (Nat.zero_le _)
      · have hr := List.getElem?_eq_getElem hi
        have hr' := List.getElem?_eq_getElem (show j < T.2.length by omega)
        exact step i j _ _ hj hi hr hr' (Or.inl next2) (fun b => by rw [hd' i j _ _ hj hr hr'] at b; cases b)
      · refine w_M_isDeterministic_23 ⟨fun _ => ?_, fun q => absurd (Int32.le_refl _) q⟩
        rw [oi_s]; exact next
    · refine w_M_isDeterministic_15 ?_
      simp only [hm.1, hm.f2, hm.t2, hm.l2, isr_ref, rv_ref, vs, ws, ht.2.1, true_and, forall_eq]
      exact ⟨fun _ => ⟨rfl, by rw [hd]; exact ⟨rfl, trivial⟩⟩, fun q => absurd (Int32.le_refl _) q⟩
  · have ex : ∃ (k j : Nat) (r r' : Rl), j < k ∧ T.2[k]? = some r ∧ T.2[j]? = some r' ∧ (decide (rF r = rF r') && both r r') = true := by
      apply Classical.byContradiction
      intro n
      refine hd (det_iff.mpr (fun k j r r' h1 h2 h3 => ?_))
      cases e : (decide (rF r = rF r') && both r r') with
      | false => rfl
      | true => exact absurd ⟨k, j, r, r', h1, h2, h3, e⟩ n
    rw [Bool.not_eq_true] at hd
    obtain ⟨k, j0, r0, r0', hjk, hk0, hj0, h0⟩ := ex
    have kl := (List.getElem?_eq_some_iff.mp hk0).1
    have outer : ∀ i, i ≤ k → (i < k → pm_R 39 223 15 [.ref m, .int (Int32.ofInt (sl : Int)), .int (Int32.ofInt ((i + 1 : Nat) : Int)), pm_U] [] σ (fun o σ' => o = .inl (some (.int (bI (det T.2)))) ∧ σ' = σ)) → pm_R 39 223 15 [.ref m, .int (Int32.ofInt (sl : Int)), .int (Int32.ofInt (i : Nat)), pm_U] [] σ (fun o σ' => o = .inl (some (.int (bI (det T.2)))) ∧ σ' = σ) := by
      intro i hik next
      have hi : i < T.2.length := by omega
      have q6 : ¬ Int32.ofInt (T.2.length : Int) ≤ Int32.ofInt (i : Nat) := by rw [oi_le (by omega)]; omega
      refine w_M_isDeterministic_15 ?_
      simp only [hm.1, hm.f2, hm.t2, hm.l2, isr_ref, rv_ref, vs, ws, ht.2.1, q6, not_false_eq_true, false_implies, true_implies, true_and, forall_eq]
      have hr := List.getElem?_eq_getElem hi
      by_cases c : i = k
      · subst c
        refine lp0 (fun j => [.ref m, .int (Int32.ofInt (sl : Int)), .int (Int32.ofInt (i : Nat)), .int (Int32.ofInt (j : Nat))]) j0 (fun j hj next2 => ?_) (step i j0 _ _ hjk hi hk0 hj0 (Or.inr h0) (fun _ => hd)) 0 (Nat.zero_le _)
        exact step i j _ _ (by omega) hi hr (List.getElem?_eq_getElem (show j < T.2.length by omega)) (Or.inl next2) (fun _ => hd)
      · refine lp0 (fun j => [.ref m, .int (Int32.ofInt (sl : Int)), .int (Int32.ofInt (i : Nat)), .int (Int32.ofInt (j : Nat))]) i (fun j hj next2 => ?_) ?_ 0 (Nat.zero_le _)
        · exact step i j _ _ hj hi hr (List.getElem?_eq_getElem (show j < T.2.length by omega)) (Or.inl next2) (fun _ => hd)
        · refine w_M_isDeterministic_23 ⟨fun _ => ?_, fun q => absurd (Int32.le_refl _) q⟩
          rw [oi_s]; exact next (by omega)
    exact lp0 (fun i => [.ref m, .int (Int32.ofInt (sl : Int)), .int (Int32.ofInt (i : Nat)), pm_U]) k (fun i hi next => outer i (by omega) (fun _ => next)) (outer k (Nat.le_refl _) (fun q => absurd q (Nat.lt_irrefl _))) 0 (Nat.zero_le _)
theorem J_isDeterministic {x m N0 L : Nat} {A : AS} (hA : okA A) {z1 : Int} (r1 : rg z1) : ∃ k v A', okA A' ∧ (∀ σ, isB σ x N0 A → isL σ x N0 L → pm_C 39 272 [.ref x, .int (Int32.ofInt z1), .ref L] σ (bOut x N0 1 6 σ k v A' L)) ∧ ∀ σ, isM σ m A → pm_C 39 223 [.ref m, .int (Int32.ofInt z1)] σ (mOutB m σ k v A') := by
  by_cases hv : 0 ≤ z1 ∧ z1 < 4
  · obtain ⟨sl, rfl⟩ : ∃ n : Nat, z1 = n := ⟨z1.toNat, by omega⟩
    have hsl : sl < 4 := by omega
    have hT := hA.1 sl hsl
    have v4 := vi (show sl < 4 from hsl) (by omega)
    have ws := vc (show sl < 2000000 by omega)
    refine ⟨0, if det (aS A sl).2 then 1 else 0, A, hA, fun σ h hL => ?_, fun σ h => ?_⟩
    · obtain ⟨π, ht⟩ := h.2.1 sl hsl
      refine w_L_isDeterministic_0 ⟨h.1.1, w_B_isDeterministic_0 (q_slot r1 (fun _ => ?_) (fun n => absurd hv n))⟩
      simp only [h.1.1, h.1.2.1.1, h.1.2.2.1, h.1.2.2.2.1, h.1.2.2.2.2 sl hsl, isr_ref, rv_ref, v4, ws, true_and, forall_eq]
      refine pm_R_mono (s_B_det ht hT) (fun o σ' p => ?_)
      obtain ⟨rfl, rfl⟩ := p
      exact kI_B (L_okB2 hL h fB_rf)
    · have hm := h.1
      refine w_M_isDeterministic_0 (gD (s_M_isSlot r1) (by omega) (fun n => absurd hv n) (fun _ => thr0 hm (fun σ1 m1 f1 y1 => ?_)))
      have h1 := isM_scr h hA f1 (fun _ q => Or.inl q) (fun _ q => q.elim) (fun _ q => q.elim)
      refine pm_R_mono (s_M_det m1 (h1.2.1 sl hsl) hT hsl) (fun o σ' p => ?_)
      obtain ⟨rfl, rfl⟩ := p
      exact ⟨⟨_, rfl, fun _ => rfl⟩, mCo_e h hA f1 y1⟩
  · refine ⟨1, 0, A, hA, fun σ h hL => ?_, fun σ h => ?_⟩
    · exact w_L_isDeterministic_0 ⟨h.1.1, w_B_isDeterministic_0 (q_slot r1 (fun s => absurd s hv) (fun n => k_L_isDeterministic_12 (L_thr i1_ne h)))⟩
    · exact w_M_isDeterministic_0 (gD (s_M_isSlot r1) (by omega) (fun n => thrK h.1 i1_ne (fun σ1 m1 f1 y1 => ⟨rfl, mOutB_e i1_ne h hA f1 y1⟩)) (fun s => absurd s hv))
theorem isB_do {P : Nat → Prop} {σ σ' : pm_H} {x N0 : Nat} {A : AS} (h : isB σ x N0 A) (f : fr P σ σ') (hP : ∀ b, P b → pDo (x + 1657) b) (hd : isDo σ' (x + 1657)) : isB σ' x N0 A ∧ fB x N0 1 6 σ σ' :=
  isB_scr h f (fun b hb => Or.inr (Or.inr (hP b hb))) (isOu_fr h.2.2.2.2.2.2.2.1 f (fun b hb q => by have := hP b q; unfold pO at hb; unfold pDo at this; omega)) hd (isWo_fr h.2.2.2.2.2.2.1 f (fun b hb q => by have := hP b q; unfold pWo at hb; unfold pDo at this; omega))
theorem J_isWithin {x m N0 L : Nat} {A : AS} (hA : okA A) {z1 z2 : Int} (r1 : rg z1) (r2 : rg z2) : ∃ k v A', okA A' ∧ (∀ σ, isB σ x N0 A → isL σ x N0 L → pm_C 39 275 [.ref x, .int (Int32.ofInt z1), .int (Int32.ofInt z2), .ref L] σ (bOut x N0 1 6 σ k v A' L)) ∧ ∀ σ, isM σ m A → pm_C 39 231 [.ref m, .int (Int32.ofInt z1), .int (Int32.ofInt z2)] σ (mOutB m σ k v A') := by
  by_cases hv : (0 ≤ z1 ∧ z1 < 4) ∧ (0 ≤ z2 ∧ z2 < 4)
  · obtain ⟨s1, rfl⟩ : ∃ n : Nat, z1 = n := ⟨z1.toNat, by omega⟩
    obtain ⟨s2, rfl⟩ : ∃ n : Nat, z2 = n := ⟨z2.toNat, by omega⟩
    have h1 : s1 < 4 := by omega
    have h2 : s2 < 4 := by omega
    have k1 := hA.1 s1 h1
    have k2 := hA.1 s2 h2
    have v1 := vi (show s1 < 4 from h1) (by omega)
    have w1 := vc (show s1 < 2000000 by omega)
    have v2 := vi (show s2 < 4 from h2) (by omega)
    have w2 := vc (show s2 < 2000000 by omega)
    refine ⟨0, if wiB (aS A s1) (aS A s2) then 1 else 0, A, hA, fun σ h hL => ?_, fun σ h => ?_⟩
    · obtain ⟨π1, t1⟩ := h.2.1 s1 h1
      obtain ⟨π2, t2⟩ := h.2.1 s2 h2
      have hd := h.2.2.2.2.2.2.2.2.1
      refine w_L_isWithin_0 ⟨h.1.1, w_B_isWithin_0 (q_slot r1 (fun _ => q_slot r2 (fun _ => ?_) (fun n => absurd hv.2 n)) (fun n => absurd hv.1 n))⟩
      simp only [h.1.1, h.1.2.1.1, h.1.2.1.2.2.2.2.2.2.2.1, h.1.2.2.1, h.1.2.2.2.1, h.1.2.2.2.2 s1 h1, h.1.2.2.2.2 s2 h2, isr_ref, rv_ref, v1, w1, v2, w2, hd.1.1, true_and, forall_eq]
      refine pm_C_mono (pm_C_up (s_Do_isContained hd t1 t2 k1 k2 (by omega) (by omega)) (by omega)) (fun o σ' p => ?_)
      obtain ⟨rfl, p1, f⟩ := p
      have b := isB_do h f (fun _ q => q) p1
      exact kI_B ⟨bI_and _, kI_B (L_okB2 hL b.1 b.2)⟩
    · have hm := h.1
      refine w_M_isWithin_0 (gD (s_M_isSlot r1) (by omega) (fun n => absurd hv.1 n) (fun _ => gD (s_M_isSlot r2) (by omega) (fun n => absurd hv.2 n) (fun _ => w_M_isWithin_10 (thr0 hm (fun σ1 m1 f1 y1 => ?_)))))
      have g1 := isM_scr h hA f1 (fun _ q => Or.inl q) (fun _ q => q.elim) (fun _ q => q.elim)
      refine ⟨m1.1, pm_C_mono (pm_C_up (s_M_isIn m1 (g1.2.1 s1 h1) (g1.2.1 s2 h2) k1 k2 h1 h2) (by omega)) (fun o σ' p => ?_)⟩
      obtain ⟨rfl, f⟩ := p
      have f2 : frX m (fun f => f = 1200 ∨ f = 1234) (fun i => i = 19 ∨ i = 26 ∨ i = 29) (fun _ => False) σ σ' := frX.tr (frX.mono f1 (fun _ q => Or.inl q) (fun _ q => q.elim) (fun _ q => q)) (frX.mono f (fun _ q => Or.inr q) (fun _ q => q) (fun _ q => q))
      have co : mCo m σ 0 A σ' := ⟨by rw [frX.F f (by omega)]; exact y1, isM_scr h hA f2 (fun f q => by omega) (fun i q => by omega) (fun _ q => q.elim), frX.fr f2⟩
      cases wiB (aS A s1) (aS A s2) with
      | true => exact kI_B ⟨fun q => absurd q (by decide), fun _ => ⟨rfl, ⟨true, rfl, fun _ => rfl⟩, co⟩⟩
      | false => exact kI_B ⟨fun _ => ⟨rfl, ⟨false, rfl, fun _ => rfl⟩, co⟩, fun q => absurd rfl q⟩
  · refine ⟨1, 0, A, hA, fun σ h hL => ?_, fun σ h => ?_⟩
    · exact w_L_isWithin_0 ⟨h.1.1, w_B_isWithin_0 (q_slot r1 (fun s => q_slot r2 (fun s' => absurd ⟨s, s'⟩ hv) (fun n => k_L_isWithin_13 (L_thr i1_ne h))) (fun n => k_L_isWithin_13 (L_thr i1_ne h)))⟩
    · have fin : pm_R 39 231 10 [.ref m, .int (Int32.ofInt z1), .int (Int32.ofInt z2)] [.int ((1 : Int32)), .ref m] σ (mOutB m σ 1 0 A) := w_M_isWithin_10 (thrK h.1 i1_ne (fun σ1 m1 f1 y1 => ⟨rfl, mOutB_e i1_ne h hA f1 y1⟩))
      exact w_M_isWithin_0 (gD (s_M_isSlot r1) (by omega) (fun n => fin) (fun s => gD (s_M_isSlot r2) (by omega) (fun n => fin) (fun s' => absurd ⟨s, s'⟩ hv)))
theorem J_domainCount {x m N0 L : Nat} {A : AS} (hA : okA A) {z1 z2 : Int} (r1 : rg z1) (r2 : rg z2) : ∃ k v A', okA A' ∧ (∀ σ, isB σ x N0 A → isL σ x N0 L → pm_C 39 268 [.ref x, .int (Int32.ofInt z1), .int (Int32.ofInt z2), .ref L] σ (bOut x N0 1 6 σ k v A' L)) ∧ ∀ σ, isM σ m A → pm_C 39 215 [.ref m, .int (Int32.ofInt z1), .int (Int32.ofInt z2)] σ (mOutJ m σ k v A') := by
  by_cases hv : (0 ≤ z1 ∧ z1 < 4) ∧ (0 ≤ z2 ∧ z2 ≤ 8)
  · obtain ⟨sl, rfl⟩ : ∃ n : Nat, z1 = n := ⟨z1.toNat, by omega⟩
    obtain ⟨n, rfl⟩ : ∃ n : Nat, z2 = n := ⟨z2.toNat, by omega⟩
    have hsl : sl < 4 := by omega
    have hT := hA.1 sl hsl
    have v4 := vi (show sl < 4 from hsl) (by omega)
    have ws := vc (show sl < 2000000 by omega)
    refine ⟨0, Int64.ofNat (dcnt (aS A sl) n), A, hA, fun σ h hL => ?_, fun σ h => ?_⟩
    · obtain ⟨π, ht⟩ := h.2.1 sl hsl
      have hd := h.2.2.2.2.2.2.2.2.1
      refine w_L_domainCount_0 ⟨h.1.1, w_B_domainCount_0 (q_slot r1 (fun _ => q_counted r2 (fun _ => ?_) (fun n => absurd hv.2 n)) (fun n => absurd hv.1 n))⟩
      simp only [h.1.1, h.1.2.1.1, h.1.2.1.2.2.2.2.2.2.2.1, h.1.2.2.1, h.1.2.2.2.1, h.1.2.2.2.2 sl hsl, isr_ref, rv_ref, v4, ws, hd.1.1, true_and, forall_eq]
      refine pm_C_mono (pm_C_up (s_Do_countWords hd ht hT (by omega) (by omega)) (by omega)) (fun o σ' p => ?_)
      obtain ⟨rfl, p1, f⟩ := p
      have b := isB_do h f (fun _ q => q) p1
      exact kJ_B (L_okJ2 hL b.1 b.2)
    · have hm := h.1
      refine w_M_domainCount_0 (gD (s_M_isSlot r1) (by omega) (fun n => absurd hv.1 n) (fun _ => gD (s_M_in r2 (a := 0) (b := 8) ⟨by decide, by decide⟩ ⟨by decide, by decide⟩) (by omega) (fun n => absurd hv.2 n) (fun _ => thr0 hm (fun σ1 m1 f1 y1 => ?_))))
      have g1 := isM_scr h hA f1 (fun _ q => Or.inl q) (fun _ q => q.elim) (fun _ q => q.elim)
      refine ⟨m1.1, pm_C_mono (pm_C_up (s_M_counted m1 (g1.2.1 sl hsl) hT hsl (show n ≤ 8 by omega)) (by omega)) (fun o σ' p => ?_)⟩
      obtain ⟨rfl, f⟩ := p
      have f2 : frT m (fun i => i = 14 ∨ i = 15 ∨ i = 19) (fun _ => False) σ σ' := frX.tr (frX.mono f1 (fun _ q => q) (fun _ q => q.elim) (fun _ q => q)) (frX.mono f (fun _ q => q.elim) (fun _ q => q) (fun _ q => q))
      exact kJ_B ⟨⟨_, rfl, fun _ => rfl⟩, by rw [frX.F f id]; exact y1, isM_scr h hA f2 (fun _ q => Or.inl q) (fun i q => by omega) (fun _ q => q.elim), frX.fr f2⟩
  · refine ⟨1, 0, A, hA, fun σ h hL => ?_, fun σ h => ?_⟩
    · exact w_L_domainCount_0 ⟨h.1.1, w_B_domainCount_0 (q_slot r1 (fun s => q_counted r2 (fun s' => absurd ⟨s, s'⟩ hv) (fun n => k_L_domainCount_9 (L_thr i1_ne h))) (fun n => k_L_domainCount_9 (L_thr i1_ne h)))⟩
    · exact w_M_domainCount_0 (gD (s_M_isSlot r1) (by omega) (fun n => thrK h.1 i1_ne (fun σ1 m1 f1 y1 => mOutJ_e i1_ne h hA f1 y1)) (fun s => gD (s_M_in r2 (a := 0) (b := 8) ⟨by decide, by decide⟩ ⟨by decide, by decide⟩) (by omega) (fun n => thrK h.1 i1_ne (fun σ1 m1 f1 y1 => mOutJ_e i1_ne h hA f1 y1)) (fun s' => absurd ⟨s, s'⟩ hv)))
