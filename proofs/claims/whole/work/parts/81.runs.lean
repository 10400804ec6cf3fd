/-! ===== runs of the class ===== -/
theorem s_fillL {σ : pm_H} {a N : Nat} {v : Int64} (ht : pm_t σ a = 101) (hl : pm_l σ a = N) (hN : N < 1000000) : cV 0 246 [.ref a, .long v] σ (fun σ' => (∀ j, j < N → pm_A σ' a j = .long v) ∧ fr (fun b => b = a) σ σ') := by
  refine w_J_fillL_0 ⟨ht, fun z hz => ?_⟩
  rw [hl, oi_nat] at hz
  subst hz
  refine lp (d := 0) (m := 246) (k := 5) (fun i => [.ref a, .long v, pm_U, .int (Int32.ofInt (i : Nat)), .int (Int32.ofInt (N : Int))]) (fun i τ => (∀ j, j < i → pm_A τ a j = .long v) ∧ fr (fun b => b = a) σ τ) N ?_ ?_ 0 (Nat.zero_le _) σ ⟨fun j hj => absurd hj (Nat.not_lt_zero _), fr.rf⟩
  · rintro i hi τ ⟨i1, i2⟩ next
    have q6 : ¬ Int32.ofInt (N : Int) ≤ Int32.ofInt (i : Nat) := by rw [oi_le (by omega)]; omega
    have qi := vi hi (by omega)
    have qc := vc (show i < 2000000 by omega)
    refine w_J_fillL_5 ⟨fun q => absurd q q6, fun _ => ?_⟩
    simp only [i2.t, i2.l, ht, hl, qi, qc, true_and, forall_eq, oi_s]
    refine next _ ⟨fun j hj => ?_, i2.tr (fr_sA (P := fun b => b = a) rfl)⟩
    rw [A_sA]
    by_cases e : j = i
    · rw [if_pos ⟨rfl, e⟩]
    · rw [if_neg (fun q => e q.2)]; exact i1 j (by omega)
  · rintro τ ⟨i1, i2⟩
    exact w_J_fillL_5 ⟨fun _ => ⟨rfl, i1, i2⟩, fun q => absurd (Int32.le_refl _) q⟩
/-- one rule's share of a step -/
def addC (C : Nat → Int64) (s : Nat) (D : Nat → Int64) (r : Rl) : Nat → Int64 := if en r s then fun q => if q = rT r then D q + C (rF r) else D q else D
def stepC (rs : List Rl) (s : Nat) (C : Nat → Int64) : Nat → Int64 := rs.foldl (addC C s) (fun _ => 0)
def runC (rs : List Rl) (w : List Nat) : Nat → Int64 := w.foldl (fun C s => stepC rs s C) (fun q => if q = 0 then 1 else 0)
def sumF (F : Nat) (C : Nat → Int64) : Nat → Int64
  | 0 => 0
  | n + 1 => sumF F C n + (if F.testBit n then C n else 0)
theorem sumF_0 {F : Nat} {C : Nat → Int64} {i : Nat} (h : F.testBit i = false) : sumF F C (i + 1) = sumF F C i := by rw [sumF, h]; simp
theorem sumF_1 {F : Nat} {C : Nat → Int64} {i : Nat} (h : F.testBit i = true) : sumF F C (i + 1) = sumF F C i + C i := by rw [sumF, h]; simp
def ouS (σ : pm_H) (o : Nat) : Prop := pm_t σ o = 4 ∧ pm_F σ 300 o = .ref (o + 1) ∧ pm_F σ 301 o = .ref (o + 2) ∧ pm_t σ (o + 1) = 101 ∧ pm_l σ (o + 1) = 12 ∧ pm_t σ (o + 2) = 101 ∧ pm_l σ (o + 2) = 12
theorem ouS_fr {P : Nat → Prop} {σ σ' : pm_H} {o : Nat} (h : ouS σ o) (hf : fr P σ σ') (hp : ¬ P o) : ouS σ' o := by
  obtain ⟨h1, h2, h3, h4, h5, h6, h7⟩ := h
  exact ⟨by rw [hf.t, h1], by rw [hf.F hp, h2], by rw [hf.F hp, h3], by rw [hf.t, h4], by rw [hf.l, h5], by rw [hf.t, h6], by rw [hf.l, h7]⟩
theorem i32_120 : ¬ ((12 : Int32) < 0) := by decide
theorem i32_c12 : (12 : Int32).toNatClampNeg = 12 := by decide
/-- the two rows of counts -/
def pOu (o b : Nat) : Prop := b = o + 1 ∨ b = o + 2
theorem s_Ou_countStep {σ : pm_H} {o a s : Nat} {T : Tr} {π : Nat → Nat} {C : Nat → Int64} (ho : ouS σ o) (h : isTr σ a T π) (hT : okTr T) (hs : s < 100) (hC : ∀ q, q < 12 → jv (pm_A σ (o + 1) q) = C q) (hd : a + 122 ≤ o ∨ o + 3 ≤ a) : cV 2 23 [.ref o, .ref a, .int (Int32.ofInt (s : Int))] σ (fun σ' => (∀ q, q < 12 → jv (pm_A σ' (o + 1) q) = stepC T.2 s C q) ∧ fr (pOu o) σ σ') := by
  have hl := h.2.2.2.2.1
  have p2 : ∀ b, b = o + 2 → pOu o b := fun b q => Or.inr q
  refine w_Ou_countStep_0 ?_
  simp only [ho.1, ho.2.2.1, isr_ref, rv_ref, true_and, forall_eq]
  refine (s_fillL ho.2.2.2.2.2.1 ho.2.2.2.2.2.2 (by omega)).use (by omega) (fun τ0 ⟨z1, z2⟩ => ?_)
  refine lp (d := 2) (m := 23) (k := 6) (fun i => [.ref o, .ref a, .int (Int32.ofInt (s : Int)), .int (Int32.ofInt (i : Nat)), pm_U]) (fun i τ => (∀ q, q < 12 → jv (pm_A τ (o + 2) q) = (T.2.take i).foldl (addC C s) (fun _ => 0) q) ∧ fr (fun b => b = o + 2) σ τ) T.2.length ?_ ?_ 0 (Nat.zero_le _) τ0 ⟨fun q hq => by rw [z1 q hq]; rfl, z2⟩
  · rintro i hi τ ⟨i1, i2⟩ next
    have hr := List.getElem?_eq_getElem hi
    generalize T.2[i] = r at hr
    have ok := hT.at hr
    have ho' := ouS_fr ho i2 (by omega)
    have h' := isTr_fr h i2 (fun b hb q => by have := hb.1; have := hb.2; omega)
    obtain ⟨qi, qc, qa, qr⟩ := h'.at hr
    have q6 : ¬ Int32.ofInt (T.2.length) ≤ Int32.ofInt (i : Nat) := by rw [oi_le (by omega)]; omega
    have vt := vi ok.2.1 (by omega)
    have wt := vc (show rT r < 2000000 by have := ok.2.1; omega)
    have vf := vi ok.1 (by omega)
    have wf := vc (show rF r < 2000000 by have := ok.1; omega)
    have cF : jv (pm_A τ (o + 1) (rF r)) = C (rF r) := by rw [i2.A (by omega)]; exact hC _ ok.1
    refine w_Ou_countStep_6 ?_
    simp only [h'.1.1, h'.1.2.1, h'.1.2.2.1, h'.1.2.2.2.1, h'.2.2.1, q6, not_false_eq_true, false_implies, true_implies, isr_ref, rv_ref, qi, qc, qa, qr.1.1, true_and, forall_eq]
    refine (s_Ru_isEnabled qr ok.ts hs).use (by omega) ⟨fun e => ?_, fun e => ?_⟩
    · rw [oi_s]
      refine next τ ⟨fun q hq => ?_, i2⟩
      rw [foldl_take hr, addC, bI_0.mp e]
      exact i1 q hq
    · simp only [ho'.1, ho'.2.1, ho'.2.2.1, ho'.2.2.2.1, ho'.2.2.2.2.1, ho'.2.2.2.2.2.1, ho'.2.2.2.2.2.2, qr.1.1, qr.2.1, qr.2.2.1, iv_int, isr_ref, rv_ref, vt, wt, vf, wf, cF, i1 _ ok.2.1, true_and, forall_eq, oi_s]
      refine next _ ⟨fun q hq => ?_, i2.tr (fr_sA (P := fun b => b = o + 2) rfl)⟩
      rw [foldl_take hr, addC, bI_1.mp e, A_sA]
      simp only [if_true, true_and]
      by_cases eq : q = rT r
      · rw [if_pos eq, if_pos eq, eq]; rfl
      · rw [if_neg eq, if_neg eq]; exact i1 q hq
  · rintro τ ⟨i1, i2⟩
    have ho' := ouS_fr ho i2 (by omega)
    have h' := isTr_fr h i2 (fun b hb q => by have := hb.1; have := hb.2; omega)
    have q6 : Int32.ofInt (T.2.length) ≤ Int32.ofInt (T.2.length) := Int32.le_refl _
    refine w_Ou_countStep_6 ?_
    simp only [h'.1.1, h'.2.2.1, q6, not_true_eq_false, false_implies, true_implies, ho'.1, ho'.2.1, ho'.2.2.1, ho'.2.2.2.1, ho'.2.2.2.2.1, ho'.2.2.2.2.2.1, ho'.2.2.2.2.2.2, isr_ref, rv_ref, i32_00, i32_120, i32_c0, i32_c12, not_false_eq_true, Nat.zero_add, Nat.le_refl, true_and, and_true, forall_eq]
    refine ⟨fun q hq => ?_, (i2.mono (fun b q => Or.inr q)).tr (fr_cp (P := pOu o) (Or.inl rfl))⟩
    rw [A_cp, if_pos ⟨rfl, by omega, by omega⟩, Nat.zero_add, Nat.sub_zero, i1 q hq, take_len]
    rfl
theorem s_Ou_countRuns {σ : pm_H} {o a w : Nat} {T : Tr} {π : Nat → Nat} {l : List Nat} (ho : ouS σ o) (h : isTr σ a T π) (hT : okTr T) (hw : isWo σ w l) (hlw : ∀ s, s ∈ l → s < 100) (hd : a + 122 ≤ o) (hdw : w + 2 ≤ o) : pm_C 3 22 [.ref o, .ref a, .ref w] σ (fun o' σ' => o' = .inl (some (.long (sumF T.1 (runC T.2 l) 12))) ∧ fr (pOu o) σ σ') := by
  have hl := h.2.2.2.2.1
  have hl60 := hw.2.2.1
  refine w_Ou_countRuns_0 ?_
  simp only [ho.1, ho.2.1, isr_ref, rv_ref, true_and, forall_eq]
  refine (s_fillL ho.2.2.2.1 ho.2.2.2.2.1 (by omega)).use (by omega) (fun τ0 ⟨z1, z2⟩ => ?_)
  have ho0 := ouS_fr ho z2 (by omega)
  have v0 : vp_in (0 : Int32) 12 := vi (n := 0) (N := 12) (by omega) (by omega)
  simp only [ho0.1, ho0.2.1, ho0.2.2.2.1, ho0.2.2.2.2.1, isr_ref, rv_ref, v0, i32_c0, true_and, forall_eq]
  refine lp (d := 3) (m := 22) (k := 11) (fun i => [.ref o, .ref a, .ref w, .int (Int32.ofInt (i : Nat)), pm_U, pm_U]) (fun i τ => (∀ q, q < 12 → jv (pm_A τ (o + 1) q) = runC T.2 (l.take i) q) ∧ fr (pOu o) σ τ) l.length ?_ ?_ 0 (Nat.zero_le _) _ ⟨fun q hq => ?_, (z2.mono (fun b q => Or.inl q)).tr (fr_sA (P := pOu o) (Or.inl rfl))⟩
  · rintro i hi τ ⟨i1, i2⟩ next
    have hr := List.getElem?_eq_getElem hi
    generalize l[i] = s at hr
    have np : ∀ b, b < o → ¬ pOu o b := fun b hb q => by rcases q with q | q <;> omega
    have ho' := ouS_fr ho i2 (fun q => by rcases q with q | q <;> omega)
    have h' := isTr_fr h i2 (fun b hb => np b (by have := hb.2; omega))
    have hw' := isWo_fr hw i2 (fun b hb => np b (by have := hb.2; omega))
    have q6 : ¬ Int32.ofInt (l.length : Int) ≤ Int32.ofInt (i : Nat) := by rw [oi_le (by omega)]; omega
    have qi := vi (show i < 60 by omega) (by omega)
    have qc := vc (show i < 2000000 by omega)
    refine w_Ou_countRuns_11 ?_
    simp only [hw'.1.1, hw'.1.2.1, hw'.1.2.2.1, hw'.1.2.2.2, hw'.2.1, hw'.2.2.2 i s hr, q6, not_false_eq_true, false_implies, true_implies, isr_ref, rv_ref, qi, qc, ho'.1, true_and, forall_eq]
    refine (s_Ou_countStep ho' h' hT (hlw s (List.mem_of_getElem? hr)) i1 (Or.inl hd)).use (by omega) (fun σ' ⟨r1, r2⟩ => ?_)
    rw [oi_s]
    refine next σ' ⟨fun q hq => ?_, i2.tr r2⟩
    rw [r1 q hq]
    unfold runC
    rw [foldl_take hr]
  · rintro τ ⟨i1, i2⟩
    have np : ∀ b, b < o → ¬ pOu o b := fun b hb q => by rcases q with q | q <;> omega
    have ho' := ouS_fr ho i2 (fun q => by rcases q with q | q <;> omega)
    have h' := isTr_fr h i2 (fun b hb => np b (by have := hb.2; omega))
    have hw' := isWo_fr hw i2 (fun b hb => np b (by have := hb.2; omega))
    have q6 : Int32.ofInt (l.length : Int) ≤ Int32.ofInt (l.length : Int) := Int32.le_refl _
    rw [take_len] at i1
    refine w_Ou_countRuns_11 ?_
    simp only [hw'.1.1, hw'.2.1, q6, not_true_eq_false, false_implies, true_implies, true_and, and_true, forall_eq]
    refine lp0 (fun i => [.ref o, .ref a, pm_U, .long (sumF T.1 (runC T.2 l) i), pm_U, .int (Int32.ofInt (i : Nat))]) 12 (fun i hi next => ?_) ?_ 0 (Nat.zero_le _)
    · have qi := vi hi (by omega)
      have qc := vc (show i < 2000000 by omega)
      refine w_Ou_countRuns_28 ⟨fun q => ?_, fun q => ⟨h'.1.1, (s_Tr_hasFinal h' hT.1 hi).use (by omega) ⟨fun e => ?_, fun e => ?_⟩⟩⟩
      · rw [i32_lt12 (by omega)] at q; omega
      · rw [oi_s]
        rw [sumF_0 (bI_0.mp e)] at next
        exact next
      · simp only [ho'.1, ho'.2.1, ho'.2.2.2.1, ho'.2.2.2.2.1, isr_ref, rv_ref, qi, qc, i1 i hi, true_and, forall_eq, oi_s]
        rw [sumF_1 (bI_1.mp e)] at next
        exact next
    · exact w_Ou_countRuns_28 ⟨fun q => ⟨rfl, i2⟩, fun q => absurd (Int32.le_refl _) q⟩
  · rw [A_sA]
    by_cases e : q = 0
    · subst e; rw [if_pos ⟨rfl, rfl⟩]; rfl
    · rw [if_neg (fun z => e z.2), z1 q hq]
      unfold runC
      simp [e, jv]
