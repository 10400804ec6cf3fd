/-! ===== taking back ===== -/
theorem s_Hi_takeBack {σ : pm_H} {h b c : Nat} {hs : List (Nat × Tr)} {e : Nat × Tr} {π : Nat → Nat} (hh : isHi σ h (hs ++ [e])) (hok : e.1 < 4 ∧ okTr e.2) (hb : pm_t σ b = 129 ∧ pm_l σ b = 4 ∧ ∀ i, i < 4 → pm_A σ b i = .ref (c + 122 * i)) (hz : isTr0 σ (c + 122 * e.1) π) (hd : c + 488 ≤ h) : cIP 3 20 [.ref h, .ref b] σ (Int32.ofInt (e.1 : Int)) (fun σ' => isHi σ' h hs ∧ isTr σ' (c + 122 * e.1) e.2 π ∧ fr (fun d => pHi h d ∨ pTr (c + 122 * e.1) d) σ σ') := by
  obtain ⟨⟨h1, h2, h3, h4, h5, h6, h7, h8⟩, nx, g1, g2, g3, g4, g5⟩ := hh
  have hl : (hs ++ [e]).length = hs.length + 1 := by simp
  rw [hl] at g3 g4
  have ge : (hs ++ [e])[hs.length]? = some e := by simp
  obtain ⟨⟨π1, hπ1⟩, k2⟩ := g5 _ e ge
  rw [hl] at hπ1 k2
  have ey : (nx + 7) % 8 = hIx nx (hs.length + 1) hs.length := by unfold hIx; omega
  rw [← ey] at hπ1 k2
  have hy : (nx + 7) % 8 < 8 := Nat.mod_lt _ (by omega)
  have e87 : Int32.ofInt (nx : Int) + 8 - 1 = Int32.ofInt ((nx + 7 : Nat) : Int) := by rw [oi_addl, oi_subl]; congr 1; omega
  have e1 : Int32.ofInt ((hs.length + 1 : Nat) : Int) - 1 = Int32.ofInt (hs.length : Int) := by rw [oi_subl]; congr 1; omega
  have qi := vi hy (by omega)
  have qc := vc (show (nx + 7) % 8 < 2000000 by omega)
  have qj := vi hok.1 (by omega)
  have qd := vc (show e.1 < 2000000 by omega)
  have ey' : hIx nx (hs.length + 1) hs.length = (nx + 7) % 8 := ey.symm
  refine w_Hi_takeBack_0 ?_
  simp only [h1, h2, h3, h4, h5, h6, h7, g2, g3, e87, i32_rem8 (show nx + 7 < 1000 by omega), e1, i32_80, not_false_eq_true, isr_ref, rv_ref, iv_int, qi, qc, t_sF, l_sF, F_sF, A_sF, k2, hb.1, hb.2.1, qj, qd, hb.2.2 e.1 hok.1, (h8 _ hy).1, hz.1.1, true_and, forall_eq, Nat.reduceEqDiff, false_and, if_false, if_true]
  generalize hτ : pm_sF (pm_sF σ 202 h (.int (Int32.ofInt (((nx + 7) % 8 : Nat) : Int)))) 203 h (.int (Int32.ofInt (hs.length : Int))) = τ
  have hf : fr (fun d => d = h) σ τ := by
    subst hτ
    exact (fr_sF (P := fun d => d = h) rfl).tr (fr_sF (P := fun d => d = h) rfl)
  have z1 : isTr0 τ (c + 122 * e.1) π := isTr0_fr hz hf (fun d hd q => by have := hd.1; have := hd.2; omega)
  have z2 : isTr τ (h + 3 + 122 * ((nx + 7) % 8)) e.2 π1 := isTr_fr hπ1 hf (fun d hd q => by have := hd.1; omega)
  refine (s_Tr_copyFrom z1 z2 hok.2 (by omega)).use (by omega) (fun σ' ⟨r1, r2⟩ => ?_)
  have F1 : ∀ f, f ≠ 202 → f ≠ 203 → pm_F τ f h = pm_F σ f h := fun f q1 q2 => by
    subst hτ
    rw [F_sF, if_neg (by omega), F_sF, if_neg (by omega)]
  have hH : isHi τ h hs := by
    refine ⟨⟨by rw [hf.t, h1], by rw [F1 _ (by omega) (by omega), h2], by rw [F1 _ (by omega) (by omega), h3], by rw [hf.t, h4], by rw [hf.l, h5], by rw [hf.t, h6], by rw [hf.l, h7], fun i hi => ⟨by rw [hf.A (by omega)]; exact (h8 i hi).1, ?_⟩⟩, (nx + 7) % 8, hy, ?_, ?_, by omega, fun i e' he' => ?_⟩
    · obtain ⟨π', hπ'⟩ := (h8 i hi).2
      exact ⟨π', isTr0_fr hπ' hf (fun d hd q => by have := hd.1; omega)⟩
    · subst hτ; rw [F_sF, if_neg (by omega), F_sF, if_pos ⟨rfl, rfl⟩]; rfl
    · subst hτ; rw [F_sF, if_pos ⟨rfl, rfl⟩]; rfl
    · have hi := (List.getElem?_eq_some_iff.mp he').1
      obtain ⟨⟨π', hπ'⟩, k3⟩ := g5 i e' (by rw [List.getElem?_append_left hi]; exact he')
      rw [hl] at hπ' k3
      have e2 : hIx ((nx + 7) % 8) hs.length i = hIx nx (hs.length + 1) i := by unfold hIx; omega
      rw [e2]
      exact ⟨⟨π', isTr_fr hπ' hf (fun d hd q => by have := hd.1; omega)⟩, by rw [hf.A (by omega)]; exact k3⟩
  refine ⟨isHi_fr hH r2 (fun d hd q => by have := hd.1; have := q.2; omega), r1, (hf.mono (fun d q => Or.inl ⟨by omega, by omega⟩)).tr (r2.mono (fun d q => Or.inr q))⟩
theorem s_M_undo {σ : pm_H} {m : Nat} {hs : List (Nat × Tr)} {e : Nat × Tr} (hm : mS σ m) (h : mHi σ m (hs ++ [e])) (hok : okH (hs ++ [e])) : cIP 2 170 [.ref m] σ (Int32.ofInt (e.1 : Int)) (fun σ' => mHi σ' m hs ∧ mTr σ' m e.1 e.2 ∧ iv (pm_F σ' 1200 m) = 0 ∧ frX m (fun f => f = 1211 ∨ f = 1200) (fun i => 1 ≤ i ∧ i ≤ 9) (fun s => s = e.1) σ σ') := by
  obtain ⟨h1, h2, h3⟩ := h
  have hl : (hs ++ [e]).length = hs.length + 1 := by simp
  rw [hl] at h1 h2
  have ge : (hs ++ [e])[hs.length]? = some e := by simp
  obtain ⟨k1, k2⟩ := h3 _ e ge
  have oke := hok.at ge
  have qi := vi (show hs.length < 8 by omega) (by omega)
  have qc := vc (show hs.length < 2000000 by omega)
  have e1 : Int32.ofInt ((hs.length + 1 : Nat) : Int) - 1 = Int32.ofInt (hs.length : Int) := by rw [oi_subl]; congr 1; omega
  refine w_M_undo_0 ?_
  simp only [hm.1, h1, true_and, forall_eq]
  refine ⟨fun q => ?_, fun _ => ?_⟩
  · rw [oi_eql ⟨by omega, by decide⟩] at q; omega
  · refine w_M_undo_7 ?_
    simp only [hm.1, hm.f10, hm.t10, hm.l10, h1, e1, t_sF, l_sF, F_sF, A_sF, isr_ref, rv_ref, iv_int, qi, qc, k2, oi_5, true_and, forall_eq, Nat.reduceEqDiff, false_and, and_self, if_true, if_false, not_true_eq_false, false_implies, true_implies, and_true]
    generalize hτ : pm_sF (pm_sF σ 1200 m (.int 0)) 1211 m (.int (Int32.ofInt (hs.length : Int))) = τ
    have f : frX m (fun f => f = 1211 ∨ f = 1200) (fun i => 1 ≤ i ∧ i ≤ 9) (fun s => s = e.1) σ τ := by
      subst hτ
      exact ((frX_sF (f := 1200)).mono (fun f q => Or.inr q) (fun i q => q.elim) (fun s q => q.elim)).tr ((frX_sF (f := 1211)).mono (fun f q => Or.inl q) (fun i q => q.elim) (fun s q => q.elim))
    have f0 : frX m (fun f => f = 1211 ∨ f = 1200) (fun i => False) (fun s => False) σ τ := by
      subst hτ
      exact ((frX_sF (f := 1200)).mono (fun f q => Or.inr q) (fun i q => q.elim) (fun s q => q.elim)).tr ((frX_sF (f := 1211)).mono (fun f q => Or.inl q) (fun i q => q.elim) (fun s q => q.elim))
    have hm' := f.mS hm (by rintro _ (rfl | rfl) <;> decide)
    refine (s_M_copies hm' (f0.T k1 oke.2 (fun q => q)) oke.2 (by omega) (by omega)).use (by omega) (fun σ' ⟨r1, r2⟩ => ?_)
    have hm2 := r2.mS hm'
    have n1 : iv (pm_F σ' 1211 m) = Int32.ofInt (hs.length : Int) := by rw [r2.1.F (by omega)]; subst hτ; rw [F_sF, if_pos ⟨rfl, rfl⟩]; rfl
    have n0 : iv (pm_F σ' 1200 m) = 0 := by rw [r2.1.F (by omega)]; subst hτ; rw [F_sF, if_neg (by omega), F_sF, if_pos ⟨rfl, rfl⟩]; rfl
    have n2 : iv (pm_A σ' (m + 10) hs.length) = Int32.ofInt (e.1 : Int) := by rw [r2.1.A (by omega), f0.A (by omega) (fun q => q), k2]
    simp only [hm2.1, hm2.f10, hm2.t10, hm2.l10, n1, n2, isr_ref, rv_ref, qi, qc, true_and, forall_eq]
    refine ⟨⟨n1, by omega, fun i e' he' => ?_⟩, r1, n0, f.tr (r2.X.mono (fun f q => q.elim) (fun i q => q) (fun s q => q))⟩
    have hi := (List.getElem?_eq_some_iff.mp he').1
    have he2 : (hs ++ [e])[i]? = some e' := by rw [List.getElem?_append_left hi]; exact he'
    obtain ⟨l1, l2⟩ := h3 i e' he2
    refine ⟨r2.mTr (f0.T l1 (hok.at he2).2 (fun q => q)) (hok.at he2).2 (by omega), ?_⟩
    rw [r2.1.A (by omega), f0.A (by omega) (fun q => q)]; exact l2
theorem s_M_undo0 {σ : pm_H} {m : Nat} (hm : mS σ m) (h : mHi σ m []) : cIP 2 170 [.ref m] σ 0 (fun σ' => σ' = pm_sF σ 1200 m (.int 1)) := by
  obtain ⟨h1, h2, h3⟩ := h
  refine w_M_undo_0 ?_
  simp only [hm.1, h1, true_and, forall_eq]
  refine ⟨fun q => ?_, fun q => absurd rfl q⟩
  refine w_M_undo_7 ?_
  simp only [hm.1, F_sF, iv_int, true_and, forall_eq, and_self, if_true, t_sF]
  exact ⟨fun q => absurd q (by decide), fun _ => trivial⟩
