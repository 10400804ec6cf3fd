/-! ===== outputs of the class: the whole word ===== -/
theorem ouW_sF {σ : pm_H} {o f : Nat} {v : Value} (h : ouW σ o) (hf : f = 307) : ouW (pm_sF σ f o v) o := by
  subst hf
  have hf : fr (fun b => b = o) σ (pm_sF σ 307 o v) := fr_sF (P := fun b => b = o) rfl
  obtain ⟨h1, h2, h3, h4, h5, h6, h7, h8, h9, h10⟩ := h
  refine ⟨h1, ?_, h3, h4, ?_, h6, h7, ?_, woS_fr h9 hf (by omega), fun q hq => ⟨(h10 q hq).1, (h10 q hq).2.1, woS_fr (h10 q hq).2.2.1 hf (by omega), woS_fr (h10 q hq).2.2.2 hf (by omega)⟩⟩
  · rw [F_sF, if_neg (by omega), h2]
  · rw [F_sF, if_neg (by omega), h5]
  · rw [F_sF, if_neg (by omega), h8]
theorem s_Ou_find {σ : pm_H} {o a w t : Nat} {T : Tr} {π : Nat → Nat} {l : List Nat} {last : Bool} (h : ouW σ o) (ht : isTr σ a T π) (hT : okTr T) (hw : isWo σ w l) (hl10 : l.length ≤ 10) (hlw : ∀ s, s ∈ l → s < 100) (hS : woS σ t) (hd : a + 122 ≤ o) (hdw : w + 2 ≤ o) (hdt : t + 2 ≤ o) : pm_C 4 24 [.ref o, .ref a, .ref w, .int (bI last), .ref t] σ (fun o' σ' => o' = .inl (some (.int (bI (bestW T last l 0).isSome))) ∧ (∀ r, bestW T last l 0 = some r → isWo σ' t r) ∧ ((bestW T last l 0) = none → fr (pO o) σ σ') ∧ ouW σ' o ∧ fr (fun b => pO o b ∨ pWo t b) σ σ') := by
  have hl60 := hw.2.2.1
  refine w_Ou_find_0 ?_
  simp only [ht.1.1, ht.2.2.2.1, h.1, true_and, forall_eq]
  have f0 : fr (pO o) σ (pm_sF σ 307 o (.int (Int32.ofInt (T.1 : Int)))) := fr_sF ⟨by omega, by omega⟩
  refine lp (d := 4) (m := 24) (k := 6) (fun k => [.ref o, .ref a, .ref w, .int (bI last), .ref t, .int (Int32.ofInt (k : Nat))]) (fun k τ => ouW τ o ∧ iv (pm_F τ 307 o) = Int32.ofInt (T.1 : Int) ∧ (∀ q, q < k → isWo τ (o + 9 + 4 * q) []) ∧ fr (pO o) σ τ) 12 ?_ ?_ 0 (Nat.zero_le _) _ ⟨ouW_sF h rfl, by rw [F_sF, if_pos ⟨rfl, rfl⟩]; rfl, fun q hq => absurd hq (Nat.not_lt_zero _), f0⟩
  · rintro k hk τ ⟨i1, i2, i3, i4⟩ next
    have qi := vi hk (by omega)
    have qc := vc (show k < 2000000 by omega)
    obtain ⟨k1, k2, k3, k4⟩ := i1.2.2.2.2.2.2.2.2.2 k hk
    refine w_Ou_find_6 ⟨fun qq => ?_, fun _ => ?_⟩
    · rw [i32_12 (by omega)] at qq; omega
    · simp only [i1.1, i1.2.1, i1.2.2.1, i1.2.2.2.1, isr_ref, rv_ref, qi, qc, k1, k3.1, true_and, forall_eq]
      refine (s_Wo_clear k3).use (by omega) (fun σ' ⟨r1, r2⟩ => ?_)
      rw [oi_s]
      refine next σ' ⟨ouW_wo i1 r2 r1.1 (Or.inr ⟨k, hk, Or.inl rfl⟩), by rw [r2.F (fun z => by have := z.1; omega)]; exact i2, fun q hq => ?_, i4.tr (pWo_O (by omega) (by omega) r2)⟩
      by_cases e : q = k
      · subst e; exact r1
      · exact isWo_fr (i3 q (by omega)) r2 (fun c hc z => by have := hc.1; have := hc.2; have := z.1; have := z.2; omega)
  · rintro τ ⟨i1, i2, i3, i4⟩
    have hw1 := isWo_fr hw i4 (fun b hb z => by have := hb.2; have := z.1; omega)
    refine w_Ou_find_6 ⟨fun _ => ?_, fun qq => absurd (Int32.le_refl _) qq⟩
    simp only [hw1.1.1, hw1.2.1, true_and, forall_eq]
    have e0 : Int32.ofInt (l.length : Int) - 1 = Int32.ofInt (dn l.length) := by rw [oi_subl]; rfl
    rw [e0]
    refine lpd (d := 4) (m := 24) (k := 21) (fun i => [.ref o, .ref a, .ref w, .int (bI last), .ref t, .int (Int32.ofInt (dn i))]) (fun i τ => i ≤ l.length ∧ ouW τ o ∧ (∃ H : Nat, iv (pm_F τ 307 o) = Int32.ofInt (H : Int) ∧ msk H (bestW T last (l.drop i))) ∧ wds τ (o + 9) (bestW T last (l.drop i)) ∧ fr (pO o) σ τ) ?_ ?_ l.length τ ⟨Nat.le_refl _, i1, ⟨T.1, i2, ?_⟩, ?_, i4⟩
    · rintro i τ1 ⟨j0, j1, ⟨H, j2, j3⟩, j4, j5⟩ next
      have hr := List.getElem?_eq_getElem (show i < l.length by omega)
      generalize l[i] = s at hr
      have hw2 := isWo_fr hw j5 (fun b hb z => by have := hb.2; have := z.1; omega)
      have ht2 := isTr_fr ht j5 (fun b hb z => by have := hb.2; have := z.1; omega)
      have q6 : ¬ Int32.ofInt (i : Int) < 0 := by rw [oi_ltl ⟨by omega, by decide⟩]; omega
      have qi := vi (show i < 60 by omega) (by omega)
      have qc := vc (show i < 2000000 by omega)
      have hdn : Int32.ofInt (i : Int) + (-1) = Int32.ofInt (dn i) := by rw [← dn_s, dn_m1]
      rw [dn_s]
      refine w_Ou_find_21 ⟨fun z => absurd z q6, fun _ => ?_⟩
      simp only [hw2.1.1, hw2.1.2.1, hw2.1.2.2.1, hw2.1.2.2.2, hw2.2.2.2 i s hr, isr_ref, rv_ref, qi, qc, j1.1, true_and, forall_eq, hdn]
      refine (s_Ou_chooseEarlier (n := (l.drop (i + 1)).length) j1 ht2 hT (hlw s (List.mem_of_getElem? hr)) j2 j3 j4 (bestW_ok hT last _) (by rw [List.length_drop]; omega) hd).use (by omega) (fun σ' ⟨r1, r2, r3, r4⟩ => ?_)
      have eb : bestW T last (l.drop i) = stepB T.2 last s (bestW T last (l.drop (i + 1))) := by rw [drop_cons hr]; rfl
      rw [← eb] at r2 r3
      exact next σ' ⟨by omega, r1, r2, r3, j5.tr r4⟩
    · rintro τ1 ⟨j0, j1, ⟨H, j2, j3⟩, j4, j5⟩
      rw [List.drop_zero] at j3 j4
      have hS1 := woS_fr hS j5 (fun z => by have := z.1; omega)
      have v0 : vp_in (0 : Int32) 12 := vi (n := 0) (N := 12) (by omega) (by omega)
      refine w_Ou_find_21 ⟨fun _ => ?_, fun z => absurd (by decide) z⟩
      simp only [j1.1, j2, true_and, forall_eq]
      refine (s_hasS (s := 0) j3.1 (by omega)).use (by omega) ⟨fun e => ⟨bI_and _, ?_⟩, fun e => ?_⟩
      · have e1 : (bestW T last l 0).isSome = false := by rw [← j3.2 0 (by omega)]; exact bI_0.mp e
        rw [j3.2 0 (by omega)]
        refine ⟨rfl, fun r hr => ?_, fun _ => j5, j1, j5.mono (fun b z => Or.inl z)⟩
        rw [hr] at e1; cases e1
      · have e1 : (bestW T last l 0).isSome = true := by rw [← j3.2 0 (by omega)]; exact bI_1.mp e
        obtain ⟨r, hr⟩ := isSome_t e1
        obtain ⟨k1, k2, k3, k4⟩ := j1.2.2.2.2.2.2.2.2.2 0 (by omega)
        simp only [j1.1, j1.2.1, j1.2.2.1, j1.2.2.2.1, isr_ref, rv_ref, v0, i32_c0, k1, hS1.1, true_and, forall_eq]
        refine (s_Wo_copyFrom hS1 (j4 0 r (by omega) hr)).use (by omega) (fun σ' ⟨r1, r2⟩ => ⟨bI_and _, ?_⟩)
        rw [j3.2 0 (by omega)]
        refine ⟨rfl, fun r' hr' => ?_, fun z => ?_, ouW_fr j1 r2 (fun b b1 b2 z => by have := z.2; omega), (j5.mono (fun b z => Or.inl z)).tr (r2.mono (fun b z => Or.inr z))⟩
        · rw [hr] at hr'; cases hr'; exact r1
        · rw [hr] at z; cases z
    · rw [List.drop_length]
      refine ⟨hT.1, fun q _ => ?_⟩
      show T.1.testBit q = (if T.1.testBit q then some ([] : List Nat) else none).isSome
      cases T.1.testBit q <;> rfl
    · rw [List.drop_length]
      intro q l' hq hl'
      have : (if T.1.testBit q then some ([] : List Nat) else none) = some l' := hl'
      split at this
      · cases this; exact i3 q hq
      · cases this
