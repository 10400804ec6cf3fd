/-! ===== the class's changes: a ring of transducers ===== -/
/-- the place of the i-th of n changes -/
def hIx (nx n i : Nat) : Nat := (nx + 8 - n + i) % 8
def hiS (σ : pm_H) (h : Nat) : Prop := pm_t σ h = 3 ∧ pm_F σ 200 h = .ref (h + 1) ∧ pm_F σ 201 h = .ref (h + 2) ∧ pm_t σ (h + 1) = 129 ∧ pm_l σ (h + 1) = 8 ∧ pm_t σ (h + 2) = 100 ∧ pm_l σ (h + 2) = 8 ∧ ∀ i, i < 8 → pm_A σ (h + 1) i = .ref (h + 3 + 122 * i) ∧ ∃ π, isTr0 σ (h + 3 + 122 * i) π
def isHi (σ : pm_H) (h : Nat) (hs : List (Nat × Tr)) : Prop := hiS σ h ∧ ∃ nx : Nat, nx < 8 ∧ iv (pm_F σ 202 h) = Int32.ofInt (nx : Int) ∧ iv (pm_F σ 203 h) = Int32.ofInt hs.length ∧ hs.length ≤ 8 ∧ ∀ (i : Nat) (e : Nat × Tr), hs[i]? = some e → (∃ π, isTr σ (h + 3 + 122 * hIx nx hs.length i) e.2 π) ∧ iv (pm_A σ (h + 2) (hIx nx hs.length i)) = Int32.ofInt e.1
/-- the cells of the changes -/
def pHi (h b : Nat) : Prop := h ≤ b ∧ b < h + 979
theorem hIx_lt (nx n i : Nat) : hIx nx n i < 8 := Nat.mod_lt _ (by omega)
theorem isHi_fr {P : Nat → Prop} {σ σ' : pm_H} {h : Nat} {hs : List (Nat × Tr)} (hh : isHi σ h hs) (hf : fr P σ σ') (hp : ∀ b, pHi h b → ¬ P b) : isHi σ' h hs := by
  obtain ⟨⟨h1, h2, h3, h4, h5, h6, h7, h8⟩, nx, g1, g2, g3, g4, g5⟩ := hh
  have p0 := hp h ⟨by omega, by omega⟩
  have p1 := hp (h + 1) ⟨by omega, by omega⟩
  have p2 := hp (h + 2) ⟨by omega, by omega⟩
  refine ⟨⟨by rw [hf.t, h1], by rw [hf.F p0, h2], by rw [hf.F p0, h3], by rw [hf.t, h4], by rw [hf.l, h5], by rw [hf.t, h6], by rw [hf.l, h7], fun i hi => ⟨by rw [hf.A p1, (h8 i hi).1], ?_⟩⟩, nx, g1, by rw [hf.F p0, g2], by rw [hf.F p0, g3], g4, fun i e he => ⟨?_, ?_⟩⟩
  · obtain ⟨π, hπ⟩ := (h8 i hi).2
    exact ⟨π, isTr0_fr hπ hf (fun b hb => hp b ⟨by have := hb.1; omega, by have := hb.2; omega⟩)⟩
  · obtain ⟨π, hπ⟩ := (g5 i e he).1
    have := hIx_lt nx hs.length i
    exact ⟨π, isTr_fr hπ hf (fun b hb => hp b ⟨by have := hb.1; omega, by have := hb.2; omega⟩)⟩
  · rw [hf.A p2]; exact (g5 i e he).2
theorem i32_rem8 {a : Nat} (ha : a < 1000) : Int32.ofInt (a : Int) - Int32.ofInt (a : Int) / 8 * 8 = Int32.ofInt ((a % 8 : Nat) : Int) := by
  have := pk_rem (a := a) (d := 8) (by omega) (by omega) (by omega)
  rw [oi_nI, oi_nI, ← this]
  rfl
theorem i32_80 : ¬ ((8 : Int32) = 0) := by decide
theorem s_Hi_save {σ : pm_H} {h a sl : Nat} {hs : List (Nat × Tr)} {T : Tr} {π : Nat → Nat} (hh : isHi σ h hs) (ht : isTr σ a T π) (hT : okTr T) (hd : a + 122 ≤ h ∨ h + 979 ≤ a) (hsl : sl < 4) : cV 3 19 [.ref h, .int (Int32.ofInt (sl : Int)), .ref a] σ (fun σ' => isHi σ' h (hPush hs (sl, T)) ∧ fr (pHi h) σ σ') := by
  obtain ⟨⟨h1, h2, h3, h4, h5, h6, h7, h8⟩, nx, g1, g2, g3, g4, g5⟩ := hh
  have qi := vi g1 (by omega)
  have qc := vc (show nx < 2000000 by omega)
  obtain ⟨π0, hπ0⟩ := (h8 nx g1).2
  refine w_Hi_save_0 ?_
  simp only [h1, h2, h4, h5, g2, isr_ref, rv_ref, qi, qc, (h8 nx g1).1, hπ0.1.1, true_and, forall_eq]
  refine (s_Tr_copyFrom hπ0 ht hT (by omega)).use (by omega) (fun σ' ⟨r1, r2⟩ => ?_)
  have np : ∀ b, b < h + 3 → ¬ pTr (h + 3 + 122 * nx) b := fun b hb q => by have := q.1; omega
  have e8 : (if (8 : Int32) < Int32.ofInt ((hs.length + 1 : Nat) : Int) then 8 else Int32.ofInt ((hs.length + 1 : Nat) : Int)) = Int32.ofInt (((hPush hs (sl, T)).length : Nat) : Int) := by
    unfold hPush
    by_cases q : hs.length = 8
    · rw [if_pos q, if_pos ((oi_llt ⟨by omega, by decide⟩).mpr (by omega)), List.length_append, List.length_drop, q]
      rfl
    · rw [if_neg q, if_neg (fun z => by rw [oi_llt ⟨by omega, by decide⟩] at z; omega), List.length_append]
      rfl
  simp only [r2.t, r2.l, h1, h3, h6, h7, r2.F (np h (by omega)), g2, g3, isr_ref, rv_ref, qi, qc, t_sA, F_sA, t_sF, F_sF, oi_s, i32_80, i32_rem8 (show nx + 1 < 1000 by omega), not_false_eq_true, true_and, forall_eq, Nat.reduceEqDiff, false_and, if_false, e8]
  generalize hτ : pm_sF (pm_sF (pm_sA σ' (h + 2) nx (.int (Int32.ofInt (sl : Int)))) 202 h (.int (Int32.ofInt (((nx + 1) % 8 : Nat) : Int)))) 203 h (.int (Int32.ofInt ((hPush hs (sl, T)).length : Int))) = τ
  have hf : fr (fun b => b = h ∨ b = h + 2) σ' τ := by
    subst hτ
    exact ((fr_sA (P := fun b => b = h ∨ b = h + 2) (Or.inr rfl)).tr (fr_sF (Or.inl rfl))).tr (fr_sF (Or.inl rfl))
  have hf2 : fr (fun b => (b = h ∨ b = h + 2) ∨ pTr (h + 3 + 122 * nx) b) σ τ := (r2.mono (fun b q => Or.inr q)).tr (hf.mono (fun b q => Or.inl q))
  have F1 : ∀ f, f ≠ 202 → f ≠ 203 → pm_F τ f h = pm_F σ f h := fun f q1 q2 => by
    subst hτ
    rw [F_sF, if_neg (by omega), F_sF, if_neg (by omega), F_sA, r2.F (np h (by omega))]
  have A1 : ∀ j, j ≠ nx → pm_A τ (h + 2) j = pm_A σ (h + 2) j := fun j q => by
    subst hτ
    rw [A_sF, A_sF, A_sA, if_neg (by omega), r2.A (np _ (by omega))]
  have A2 : iv (pm_A τ (h + 2) nx) = Int32.ofInt (sl : Int) := by
    subst hτ
    rw [A_sF, A_sF, A_sA, if_pos ⟨rfl, rfl⟩]; rfl
  have rT : isTr τ (h + 3 + 122 * nx) T π0 := isTr_fr r1 hf (fun b hb q => by have := hb.1; omega)
  have hlen : (hPush hs (sl, T)).length = if hs.length = 8 then 8 else hs.length + 1 := by
    unfold hPush
    split
    · rename_i q; rw [List.length_append, List.length_drop, q]; rfl
    · rw [List.length_append]; rfl
  refine ⟨⟨⟨by rw [hf2.t, h1], by rw [F1 _ (by omega) (by omega), h2], by rw [F1 _ (by omega) (by omega), h3], by rw [hf2.t, h4], by rw [hf2.l, h5], by rw [hf2.t, h6], by rw [hf2.l, h7], fun i hi => ⟨?_, ?_⟩⟩, (nx + 1) % 8, Nat.mod_lt _ (by omega), ?_, ?_, by rw [hlen]; split <;> omega, fun i e he => ?_⟩, hf2.mono (fun b q => ?_)⟩
  · rw [hf2.A (fun q => by rcases q with q | q; omega; exact np _ (by omega) q)]
    exact (h8 i hi).1
  · by_cases ei : i = nx
    · subst ei; exact ⟨π0, rT.z⟩
    · obtain ⟨π', hπ'⟩ := (h8 i hi).2
      exact ⟨π', isTr0_fr hπ' hf2 (fun b hb q => by have := hb.1; have := hb.2; rcases q with q | q; omega; have := q.1; have := q.2; omega)⟩
  · subst hτ; rw [F_sF, if_neg (by omega), F_sF, if_pos ⟨rfl, rfl⟩]; rfl
  · subst hτ; rw [F_sF, if_pos ⟨rfl, rfl⟩]; rfl
  · have old : ∀ (j : Nat) (e : Nat × Tr), hs[j]? = some e → hIx nx hs.length j ≠ nx → (∃ π, isTr τ (h + 3 + 122 * hIx nx hs.length j) e.2 π) ∧ iv (pm_A τ (h + 2) (hIx nx hs.length j)) = Int32.ofInt e.1 := fun j e hj hne => by
      obtain ⟨⟨π', hπ'⟩, k2⟩ := g5 j e hj
      refine ⟨⟨π', isTr_fr hπ' hf2 (fun b hb q => ?_)⟩, by rw [A1 _ hne]; exact k2⟩
      have := hb.1; have := hb.2; have := hIx_lt nx hs.length j
      rcases q with q | q
      · omega
      · have := q.1; have := q.2; omega
    have hi := (List.getElem?_eq_some_iff.mp he).1
    rw [hlen] at hi ⊢
    unfold hPush at he
    by_cases q : hs.length = 8
    · rw [if_pos q] at he hi ⊢
      rw [List.getElem?_append] at he
      split at he
      · rename_i hi2
        rw [List.length_drop] at hi2
        rw [List.getElem?_drop] at he
        have e1 : hIx ((nx + 1) % 8) 8 i = hIx nx hs.length (1 + i) := by unfold hIx; omega
        rw [e1]
        exact old _ e he (by unfold hIx; omega)
      · rename_i hi2
        rw [List.length_drop] at hi2
        have hz := (List.getElem?_eq_some_iff.mp he).1
        simp at hz
        have ei : i = 7 := by omega
        subst ei
        simp [q] at he
        subst he
        have e1 : hIx ((nx + 1) % 8) 8 7 = nx := by unfold hIx; omega
        rw [e1]
        exact ⟨⟨π0, rT⟩, A2⟩
    · rw [if_neg q] at he hi ⊢
      rw [List.getElem?_append] at he
      split at he
      · rename_i hi2
        have e1 : hIx ((nx + 1) % 8) (hs.length + 1) i = hIx nx hs.length i := by unfold hIx; omega
        rw [e1]
        exact old _ e he (by unfold hIx; omega)
      · rename_i hi2
        have ei : i = hs.length := by omega
        subst ei
        simp at he
        subst he
        have e1 : hIx ((nx + 1) % 8) (hs.length + 1) hs.length = nx := by unfold hIx; omega
        rw [e1]
        exact ⟨⟨π0, rT⟩, A2⟩
  · rcases q with q | q
    · exact ⟨by omega, by omega⟩
    · exact ⟨by have := q.1; omega, by have := q.2; omega⟩
