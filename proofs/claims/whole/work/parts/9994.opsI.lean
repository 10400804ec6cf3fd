/-! ===== outputSymbols, isDeterministic, isWithin, domainCount ===== -/
theorem J_outputSymbols {x m N0 L : Nat} {A : AS} (hA : okA A) {z1 : Int} (r1 : rg z1) : ∃ k v A', okA A' ∧ (∀ σ, isB σ x N0 A → isL σ x N0 L → pm_C 39 271 [.ref x, .int (Int32.ofInt z1), .ref L] σ (bOut x N0 1 6 σ k v A' L)) ∧ ∀ σ, isM σ m A → pm_C 39 221 [.ref m, .int (Int32.ofInt z1)] σ (mOut m σ k v A') := by
  by_cases hv : 0 ≤ z1 ∧ z1 < 4
  · obtain ⟨sl, rfl⟩ : ∃ n : Nat, z1 = n := ⟨z1.toNat, by omega⟩
    have hsl : sl < 4 := by omega
    have hT := hA.1 sl hsl
    have v4 := vi (show sl < 4 from hsl) (by omega)
    have ws := vc (show sl < 2000000 by omega)
    refine ⟨0, (Int32.ofInt ((cnt (outS (aS A sl)) 100 : Nat) : Int)).toInt64, A, hA, fun σ h hL => ?_, fun σ h => ?_⟩
    · obtain ⟨π, ht⟩ := h.2.1 sl hsl
      have ho := h.2.2.2.2.2.2.2.1
      refine w_L_outputSymbols_0 ⟨h.1.1, w_B_outputSymbols_0 (q_slot r1 (fun _ => ?_) (fun n => absurd hv n))⟩
      simp only [h.1.1, h.1.2.1.1, h.1.2.1.2.2.2.2.2.2.1, h.1.2.2.1, h.1.2.2.2.1, h.1.2.2.2.2 sl hsl, isr_ref, rv_ref, v4, ws, ho.1.1, true_and, forall_eq]
      refine pm_C_mono (pm_C_up (fx_C (s_Ou_countSymbols ho.2.2 ht hT (by omega)) (by omega)) (by omega)) (fun o σ' p => ?_)
      obtain ⟨⟨rfl, f⟩, g⟩ := p
      have ho' := isOu_fx ho g (by decide +kernel) (by decide +kernel) (by decide +kernel)
      have b := isB_scr h f (fun b hb => by unfold pOe at hb; unfold pScr pO; omega) ho' (isDo_fr h.2.2.2.2.2.2.2.2.1 f (fun b hb => by unfold pDo at hb; unfold pOe; omega)) (isWo_fr h.2.2.2.2.2.2.1 f (fun b hb => by unfold pWo at hb; unfold pOe; omega))
      exact kI_B (L_ok2 hL b.1 b.2)
    · refine pm_C_mono (pm_C_up (s_M_outputSymbols h.1 (h.2.1 sl hsl) hT hsl) (by omega)) (fun o σ' p => ?_)
      obtain ⟨rfl, f, y⟩ := p
      exact ⟨⟨_, rfl, fun _ => rfl⟩, y, isM_scr h hA f (fun _ q => Or.inl q) (fun i q => by omega) (fun _ q => q.elim), frX.fr f⟩
  · refine ⟨1, 0, A, hA, fun σ h hL => ?_, fun σ h => ?_⟩
    · exact w_L_outputSymbols_0 ⟨h.1.1, w_B_outputSymbols_0 (q_slot r1 (fun s => absurd s hv) (fun n => k_L_outputSymbols_9 (L_thr i1_ne h)))⟩
    · exact w_M_outputSymbols_0 (gD (s_M_isSlot r1) (by omega) (fun n => w_M_outputSymbols_7 (thrK h.1 i1_ne (fun σ1 m1 f1 y1 => mOut_e i1_ne h hA f1 y1))) (fun s => absurd s hv))
theorem s_B_det {σ : pm_H} {a : Nat} {T : Tr} {π : Nat → Nat} (ht : isTr σ a T π) (hT : okTr T) : pm_R 38 141 9 [pm_U, pm_U, .ref a, .int ((0 : Int32)), pm_U, pm_U, pm_U] [] σ (fun o σ' => o = .inl (some (.int (bI (det T.2)))) ∧ σ' = σ) := by
  have l40 := ht.2.2.2.2.1
  by_cases hd : det T.2 = true
  · have hd' := det_iff.mp hd
    refine lp0 (fun i => [pm_U, pm_U, .ref a, .int (Int32.ofInt (i : Nat)), pm_U, pm_U, pm_U]) T.2.length (fun i hi next => ?_) ?_ 0 (Nat.zero_le _)
    · have q6 : ¬ Int32.ofInt (T.2.length : Int) ≤ Int32.ofInt (i : Nat) := by rw [oi_le (by omega)]; omega
      have hr := List.getElem?_eq_getElem hi
      generalize T.2[i] = r at hr
      have ra := ht.at hr
      refine w_B_isDeterministic_9 ⟨ht.1.1, fun z ez => ?_⟩
      rw [ht.2.2.1] at ez
      subst ez
      refine ⟨fun q => absurd q q6, fun _ => ?_⟩
      refine lp0 (fun j => [pm_U, pm_U, .ref a, .int (Int32.ofInt (i : Nat)), .int (Int32.ofInt (j : Nat)), pm_U, pm_U]) i (fun j hj next2 => ?_) ?_ 0 (Nat.zero_le _)
      · have hr' := List.getElem?_eq_getElem (show j < T.2.length by omega)
        generalize T.2[j] = r' at hr'
        have rb := ht.at hr'
        have ok := hT.at hr
        have ok' := hT.at hr'
        have := hd' i j r r' hj hr hr'
        refine w_B_isDeterministic_15 ⟨fun q => ?_, fun _ => ?_⟩
        · rw [oi_le (by omega)] at q; omega
        simp only [ht.1.1, ht.1.2.1, ht.1.2.2.1, ht.1.2.2.2.1, ra.1, ra.2.1, ra.2.2.1, rb.1, rb.2.1, rb.2.2.1, ra.2.2.2.1.1, rb.2.2.2.1.1, ra.2.2.2.2.1, rb.2.2.2.2.1, iv_int, isr_ref, rv_ref, true_and, forall_eq, oi_s]
        rw [oi_eq (by have := ok.1; have := ok'.1; omega)]
        refine ⟨fun e => gI (s_Ru_isEnabledWith ra.2.2.2 rb.2.2.2 ok.2.2.1 ok.ts ok'.ts) (by omega) (fun _ => next2) (fun b => ?_), fun _ => next2⟩
        rw [decide_eq_true (by omega), b] at this; cases this
      · refine w_B_isDeterministic_15 ⟨fun _ => ?_, fun q => absurd (Int32.le_refl _) q⟩
        rw [oi_s]; exact next
    · refine w_B_isDeterministic_9 ⟨ht.1.1, fun z ez => ?_⟩
      rw [ht.2.2.1] at ez
      subst ez
      exact ⟨fun _ => ⟨rfl, by rw [hd]; rfl, rfl⟩, fun q => absurd (Int32.le_refl _) q⟩
  · have ex : ∃ (k j : Nat) (r r' : Rl), j < k ∧ T.2[k]? = some r ∧ T.2[j]? = some r' ∧ (decide (rF r = rF r') && both r r') = true := by
      apply Classical.byContradiction
      intro n
      refine hd (det_iff.mpr (fun k j r r' h1 h2 h3 => ?_))
      cases e : (decide (rF r = rF r') && both r r') with
      | false => rfl
      | true => exact absurd ⟨k, j, r, r', h1, h2, h3, e⟩ n
    rw [Bool.not_eq_true] at hd
    obtain ⟨k, j0, r0, r0', hjk, hk0, hj0, h0⟩ := ex
    rw [Bool.and_eq_true, decide_eq_true_eq] at h0
    have kl := (List.getElem?_eq_some_iff.mp hk0).1
    -- the loops end at the latest there
    have inner : ∀ i, i < T.2.length → (i < k → pm_R 38 141 9 [pm_U, pm_U, .ref a, .int (Int32.ofInt ((i + 1 : Nat) : Int)), pm_U, pm_U, pm_U] [] σ (fun o σ' => o = .inl (some (.int (bI (det T.2)))) ∧ σ' = σ)) → i ≤ k → pm_R 38 141 15 [pm_U, pm_U, .ref a, .int (Int32.ofInt (i : Nat)), .int ((0 : Int32)), pm_U, pm_U] [] σ (fun o σ' => o = .inl (some (.int (bI (det T.2)))) ∧ σ' = σ) := by
      intro i hi next hik
      have hr := List.getElem?_eq_getElem hi
      generalize T.2[i] = r at hr
      have ra := ht.at hr
      have body : ∀ j, j < i → (pm_R 38 141 15 [pm_U, pm_U, .ref a, .int (Int32.ofInt (i : Nat)), .int (Int32.ofInt ((j + 1 : Nat) : Int)), pm_U, pm_U] [] σ (fun o σ' => o = .inl (some (.int (bI (det T.2)))) ∧ σ' = σ) ∨ (i = k ∧ j = j0)) → pm_R 38 141 15 [pm_U, pm_U, .ref a, .int (Int32.ofInt (i : Nat)), .int (Int32.ofInt (j : Nat)), pm_U, pm_U] [] σ (fun o σ' => o = .inl (some (.int (bI (det T.2)))) ∧ σ' = σ) := by
        intro j hj next2
        have hr' := List.getElem?_eq_getElem (show j < T.2.length by omega)
        generalize T.2[j] = r' at hr'
        have rb := ht.at hr'
        have ok := hT.at hr
        have ok' := hT.at hr'
        refine w_B_isDeterministic_15 ⟨fun q => ?_, fun _ => ?_⟩
        · rw [oi_le (by omega)] at q; omega
        simp only [ht.1.1, ht.1.2.1, ht.1.2.2.1, ht.1.2.2.2.1, ra.1, ra.2.1, ra.2.2.1, rb.1, rb.2.1, rb.2.2.1, ra.2.2.2.1.1, rb.2.2.2.1.1, ra.2.2.2.2.1, rb.2.2.2.2.1, iv_int, isr_ref, rv_ref, true_and, forall_eq, oi_s]
        rw [oi_eq (by have := ok.1; have := ok'.1; omega)]
        rcases next2 with next2 | ⟨e1, e2⟩
        · refine ⟨fun e => gI (s_Ru_isEnabledWith ra.2.2.2 rb.2.2.2 ok.2.2.1 ok.ts ok'.ts) (by omega) (fun _ => next2) (fun b => ⟨rfl, by rw [hd]; rfl, rfl⟩), fun _ => next2⟩
        · subst e1 e2
          rw [hk0] at hr
          rw [hj0] at hr'
          cases hr
          cases hr'
          refine ⟨fun e => gI (s_Ru_isEnabledWith ra.2.2.2 rb.2.2.2 ok.2.2.1 ok.ts ok'.ts) (by omega) (fun b => ?_) (fun b => ⟨rfl, by rw [hd]; rfl, rfl⟩), fun e => absurd (by omega) e⟩
          rw [h0.2] at b; cases b
      by_cases c : i = k
      · subst c
        refine lp0 (fun j => [pm_U, pm_U, .ref a, .int (Int32.ofInt (i : Nat)), .int (Int32.ofInt (j : Nat)), pm_U, pm_U]) j0 (fun j hj n2 => body j (by omega) (Or.inl n2)) (body j0 hjk (Or.inr ⟨rfl, rfl⟩)) 0 (Nat.zero_le _)
      · refine lp0 (fun j => [pm_U, pm_U, .ref a, .int (Int32.ofInt (i : Nat)), .int (Int32.ofInt (j : Nat)), pm_U, pm_U]) i (fun j hj n2 => body j hj (Or.inl n2)) ?_ 0 (Nat.zero_le _)
        refine w_B_isDeterministic_15 ⟨fun _ => ?_, fun q => absurd (Int32.le_refl _) q⟩
        rw [oi_s]; exact next (by omega)
    have outer : ∀ i, i < T.2.length → (i < k → pm_R 38 141 9 [pm_U, pm_U, .ref a, .int (Int32.ofInt ((i + 1 : Nat) : Int)), pm_U, pm_U, pm_U] [] σ (fun o σ' => o = .inl (some (.int (bI (det T.2)))) ∧ σ' = σ)) → i ≤ k → pm_R 38 141 9 [pm_U, pm_U, .ref a, .int (Int32.ofInt (i : Nat)), pm_U, pm_U, pm_U] [] σ (fun o σ' => o = .inl (some (.int (bI (det T.2)))) ∧ σ' = σ) := by
      intro i hi next hik
      have q6 : ¬ Int32.ofInt (T.2.length : Int) ≤ Int32.ofInt (i : Nat) := by rw [oi_le (by omega)]; omega
      refine w_B_isDeterministic_9 ⟨ht.1.1, fun z ez => ?_⟩
      rw [ht.2.2.1] at ez
      subst ez
      exact ⟨fun q => absurd q q6, fun _ => inner i hi next hik⟩
    refine lp0 (fun i => [pm_U, pm_U, .ref a, .int (Int32.ofInt (i : Nat)), pm_U, pm_U, pm_U]) k (fun i hi next => outer i (by omega) (fun _ => next) (by omega)) (outer k kl (fun q => absurd q (Nat.lt_irrefl _)) (Nat.le_refl _)) 0 (Nat.zero_le _)
