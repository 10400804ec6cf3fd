/-! ===== the model's table of steps ===== -/
theorem s_M_steps {σ : pm_H} {m sl sd : Nat} {T : Tr} (hm : mS σ m) (h : mTr σ m sl T) (hT : okTr T) (hsl : sl < 4) (hsd : sd < 2) : cV 3 212 [.ref m, .int (Int32.ofInt (sl : Int)), .int (Int32.ofInt (sd : Int))] σ (fun σ' => mSt σ' m sd T.2 ∧ X19 m σ σ' ∧ ∀ rs sd', sd' ≠ sd → sd' < 2 → mSt σ m sd' rs → mSt σ' m sd' rs) := by
  have hl40 := h.2.2.1
  have vs := vi (show sl < 13 by omega) (by omega)
  have ws := vc (show sl < 2000000 by omega)
  refine w_M_steps_0 ?_
  refine lp (d := 3) (m := 212) (k := 2) (fun k => [.ref m, .int (Int32.ofInt (sl : Int)), .int (Int32.ofInt (sd : Int)), .int (Int32.ofInt (k : Nat)), pm_U, pm_U]) (fun k τ => X19 m σ τ ∧ (∀ j, j < k → iv (pm_A τ (m + 19) (1200 * sd + j)) = 0) ∧ ∀ rs sd', sd' ≠ sd → sd' < 2 → mSt σ m sd' rs → mSt τ m sd' rs) 1200 ?_ ?_ 0 (Nat.zero_le _) σ ⟨frX.rf, fun j hj => absurd hj (Nat.not_lt_zero _), fun _ _ _ _ h => h⟩
  · rintro k hk τ ⟨i1, i2, i3⟩ next
    have hm' := i1.mS hm
    have vk := vi (show 1200 * sd + k < 2400 by omega) (by omega)
    have wk := vc (show 1200 * sd + k < 2000000 by omega)
    refine w_M_steps_2 ⟨fun q => ?_, fun q => ?_⟩
    · rw [oi_lle ⟨by omega, by decide⟩] at q; omega
    · simp only [hm'.1, hm'.f19, hm'.t19, hm'.l19, isr_ref, rv_ref, oi_r1200, vk, wk, true_and, forall_eq, oi_s]
      refine next _ ⟨i1.tr X19_sA, fun j hj => ?_, fun rs sd' h1 h2 h3 p s hp hs => ?_⟩
      · rw [A_sA]
        by_cases e : j = k
        · rw [if_pos ⟨rfl, by omega⟩]; rfl
        · rw [if_neg (by omega)]; exact i2 j (by omega)
      · rw [A_sA, if_neg (by omega)]; exact i3 rs sd' h1 h2 h3 p s hp hs
  · rintro τ ⟨i1, i2, i3⟩
    refine w_M_steps_2 ⟨fun _ => ?_, fun q => absurd (Int32.le_refl _) q⟩
    refine lp (d := 3) (m := 212) (k := 18) (fun k => [.ref m, .int (Int32.ofInt (sl : Int)), .int (Int32.ofInt (sd : Int)), .int (Int32.ofInt (k : Nat)), pm_U, pm_U]) (fun k τ => X19 m σ τ ∧ (∀ p s, p < 12 → s < 100 → iv (pm_A τ (m + 19) (1200 * sd + 100 * p + s)) = Int32.ofInt (((T.2.take k).foldl (addT p s) 0 : Nat) : Int)) ∧ ∀ rs sd', sd' ≠ sd → sd' < 2 → mSt σ m sd' rs → mSt τ m sd' rs) T.2.length ?_ ?_ 0 (Nat.zero_le _) τ ⟨i1, fun p s hp hs => ?_, i3⟩
    · rintro k hk τ1 ⟨j1, j2, j3⟩ next
      have hm1 := j1.mS hm
      have h1 := frX.T j1 h hT (fun q => q)
      have hr := List.getElem?_eq_getElem hk
      generalize T.2[k] = r at hr
      have ok := hT.at hr
      have q6 : ¬ Int32.ofInt (T.2.length : Int) ≤ Int32.ofInt (k : Nat) := by rw [oi_le (by omega)]; omega
      have vr := vi (show 40 * sl + k < 520 by omega) (by omega)
      have wr := vc (show 40 * sl + k < 2000000 by omega)
      refine w_M_steps_18 ?_
      simp only [hm1.1, hm1.f2, hm1.t2, hm1.l2, isr_ref, rv_ref, vs, ws, h1.2.1, q6, not_false_eq_true, false_implies, true_implies, oi_row, true_and, forall_eq]
      refine lp (d := 3) (m := 212) (k := 32) (fun s => [.ref m, .int (Int32.ofInt (sl : Int)), .int (Int32.ofInt (sd : Int)), .int (Int32.ofInt (k : Nat)), .int (Int32.ofInt ((40 * sl + k : Nat) : Int)), .int (Int32.ofInt (s : Nat))]) (fun s0 τ => X19 m σ τ ∧ (∀ p s, p < 12 → s < 100 → iv (pm_A τ (m + 19) (1200 * sd + 100 * p + s)) = Int32.ofInt ((if s < s0 then addT p s ((T.2.take k).foldl (addT p s) 0) r else (T.2.take k).foldl (addT p s) 0 : Nat) : Int)) ∧ ∀ rs sd', sd' ≠ sd → sd' < 2 → mSt σ m sd' rs → mSt τ m sd' rs) 100 ?_ ?_ 0 (Nat.zero_le _) τ1 ⟨j1, fun p s hp hs => by rw [if_neg (by omega)]; exact j2 p s hp hs, j3⟩
      · rintro s0 hs0 τ2 ⟨k1, k2, k3⟩ next1
        have hm2 := k1.mS hm
        have h2 := frX.T k1 h hT (fun q => q)
        have rk := h2.2.2.2 k r hr
        have hf := ok.1
        have vx := vi (show 1200 * sd + 100 * rF r + s0 < 2400 by omega) (by omega)
        have wx := vc (show 1200 * sd + 100 * rF r + s0 < 2000000 by omega)
        have hz := k2 (rF r) s0 ok.1 hs0
        rw [if_neg (by omega)] at hz
        refine w_M_steps_32 ⟨fun q => ?_, fun q => ⟨hm2.1, (s_M_enables hm2 rk (by omega) ok.2.2.2 hs0).use (by omega) ⟨fun e1 => ?_, fun e1 => ?_⟩⟩⟩
        · rw [i32_100 (by omega)] at q; omega
        · rw [oi_s]
          refine next1 τ2 ⟨k1, fun p s hp hs => ?_, k3⟩
          rw [k2 p s hp hs]
          by_cases e2 : s = s0
          · subst e2
            rw [if_neg (by omega), if_pos (by omega), addT, bI_0.mp e1, Bool.and_false]; rfl
          · by_cases e3 : s < s0
            · rw [if_pos e3, if_pos (by omega)]
            · rw [if_neg e3, if_neg (by omega)]
        · simp only [hm2.1, hm2.f19, hm2.t19, hm2.l19, hm2.f3, hm2.t3, hm2.l3, hm2.f4, hm2.t4, hm2.l4, isr_ref, rv_ref, vr, wr, rk.1, rk.2.1, oi_l100, oi_r1200, oi_addN, vx, wx, hz, st_one ok.2.1, i_orN, true_and, forall_eq, oi_s]
          refine next1 _ ⟨k1.tr X19_sA, fun p s hp hs => ?_, fun rs sd' h1 h2 h3 p s hp hs => ?_⟩
          · rw [A_sA]
            by_cases e2 : s = s0
            · subst e2
              by_cases e3 : p = rF r
              · subst e3
                rw [if_pos ⟨rfl, rfl⟩, if_pos (by omega), addT, bI_1.mp e1, decide_eq_true rfl]; rfl
              · rw [if_neg (by omega), k2 p s hp hs, if_neg (by omega), if_pos (by omega), addT, decide_eq_false (fun q => e3 q.symm), Bool.false_and]; rfl
            · rw [if_neg (by omega), k2 p s hp hs]
              by_cases e3 : s < s0
              · rw [if_pos e3, if_pos (by omega)]
              · rw [if_neg e3, if_neg (by omega)]
          · rw [A_sA, if_neg (by omega)]; exact k3 rs sd' h1 h2 h3 p s hp hs
      · rintro τ2 ⟨k1, k2, k3⟩
        refine w_M_steps_32 ⟨fun _ => ?_, fun q => absurd (Int32.le_refl _) q⟩
        rw [oi_s]
        refine next τ2 ⟨k1, fun p s hp hs => ?_, k3⟩
        rw [k2 p s hp hs, if_pos hs, foldl_take hr]
    · rintro τ1 ⟨j1, j2, j3⟩
      have hm1 := j1.mS hm
      have h1 := frX.T j1 h hT (fun q => q)
      have q6 : Int32.ofInt (T.2.length : Int) ≤ Int32.ofInt (T.2.length : Int) := Int32.le_refl _
      refine w_M_steps_18 ?_
      rw [take_len] at j2
      simp only [hm1.1, hm1.f2, hm1.t2, hm1.l2, isr_ref, rv_ref, vs, ws, h1.2.1, q6, not_true_eq_false, false_implies, true_implies, true_and, and_true, forall_eq]
      exact ⟨j2, j1, j3⟩
    · have := i2 (100 * p + s) (by omega)
      rw [← Nat.add_assoc] at this
      rw [this]; rfl
