/-! ===== compose ===== -/
theorem isM_rf {m : Nat} {σ σ2 σ3 : pm_H} {sl : Nat} {A : AS} {T : Tr} (h : isM σ m A) (hA : okA A) (hsl : sl < 4) (p1 : mHi σ2 m (hPush (aH A) (sl, aS A sl))) (f1 : frX m (fun f => f = 1211) (fun i => 1 ≤ i ∧ i ≤ 10) (fun s => 5 ≤ s) σ σ2) (f2 : frM m (fun s => s = sl) σ2 σ3) (t2 : mTr σ3 m sl T) : isM σ3 m (chg A sl T) ∧ fr (fun b => m ≤ b ∧ b ≤ m + 34) σ σ3 :=
  isM_chg h hA hsl (As0 := fun _ => False) frX.rf (fun _ q => q.elim) p1 f1 f2.X (fun _ q => q.elim) (fun i q => by omega) (fun _ q => q) t2
/-- the composer has worked -/
theorem isB_cx {σ σ' : pm_H} {x N0 : Nat} {A : AS} {π : Nat → Nat} (h : isB σ x N0 A) (f : fr (cxP (x + 1680) (x + 490)) σ σ') (hc : isCo σ' (x + 1680)) (ht : isTr0 σ' (x + 490) π) : isB σ' x N0 A := by
  have k : ∀ b, ¬ pTr (x + 490) b → ¬ pCo (x + 1680) b → ¬ cxP (x + 1680) (x + 490) b := fun b h1 h2 q => by
    rcases q with q | q
    · exact h1 q
    · exact h2 ⟨q.1, q.2.1⟩
  refine isB_mk h f ⟨k _ ?_ ?_, k _ ?_ ?_⟩ (fun i hi => Or.inl ⟨fun b hb => k _ ?_ ?_, rfl⟩) (Or.inr ⟨π, ht⟩) (Or.inl ⟨fun b hb => k _ ?_ ?_, rfl⟩) (Or.inl ⟨fun b hb => k _ ?_ ?_, rfl⟩) (Or.inl ⟨fun b hb => k _ ?_ ?_, rfl⟩) (Or.inl ⟨fun b hb => k _ ?_ ?_, rfl⟩) (Or.inl (fun b hb => k _ ?_ ?_)) (Or.inl (fun b hb => k _ ?_ ?_)) (Or.inl (k _ ?_ ?_)) (Or.inr hc)
  · unfold pTr; omega
  · unfold pCo; omega
  · unfold pTr; omega
  · unfold pCo; omega
  · unfold pTr at hb ⊢; omega
  · unfold pTr at hb; unfold pCo; omega
  · unfold pHi at hb; unfold pTr; omega
  · unfold pHi at hb; unfold pCo; omega
  · unfold pRe at hb; unfold pTr; omega
  · unfold pRe at hb; unfold pCo; omega
  · unfold pWo at hb; unfold pTr; omega
  · unfold pWo at hb; unfold pCo; omega
  · unfold pWo at hb; unfold pTr; omega
  · unfold pWo at hb; unfold pCo; omega
  · unfold pO at hb; unfold pTr; omega
  · unfold pO at hb; unfold pCo; omega
  · unfold pDo at hb; unfold pTr; omega
  · unfold pDo at hb; unfold pCo; omega
  · unfold pTr; omega
  · unfold pCo; omega
theorem J_compose {x m N0 L : Nat} {A : AS} (hA : okA A) {z1 z2 z3 : Int} (r1 : rg z1) (r2 : rg z2) (r3 : rg z3) : ∃ k v A', okA A' ∧ (∀ σ, isB σ x N0 A → isL σ x N0 L → pm_C 39 276 [.ref x, .int (Int32.ofInt z1), .int (Int32.ofInt z2), .int (Int32.ofInt z3), .ref L] σ (bOut x N0 1 6 σ k v A' L)) ∧ ∀ σ, isM σ m A → pm_C 39 238 [.ref m, .int (Int32.ofInt z1), .int (Int32.ofInt z2), .int (Int32.ofInt z3)] σ (mOut m σ k v A') := by
  by_cases hv : (0 ≤ z1 ∧ z1 < 4) ∧ (0 ≤ z2 ∧ z2 < 4) ∧ (0 ≤ z3 ∧ z3 < 4)
  · obtain ⟨s1, rfl⟩ : ∃ n : Nat, z1 = n := ⟨z1.toNat, by omega⟩
    obtain ⟨s2, rfl⟩ : ∃ n : Nat, z2 = n := ⟨z2.toNat, by omega⟩
    obtain ⟨s3, rfl⟩ : ∃ n : Nat, z3 = n := ⟨z3.toNat, by omega⟩
    have h1 : s1 < 4 := by omega
    have h2 : s2 < 4 := by omega
    have h3 : s3 < 4 := by omega
    have k1 := hA.1 s1 h1
    have k2 := hA.1 s2 h2
    have k3 := hA.1 s3 h3
    generalize eT1 : aS A s1 = T1 at k1
    generalize eT2 : aS A s2 = T2 at k2
    have v1 := vi (show s1 < 4 from h1) (by omega)
    have w1 := vc (show s1 < 2000000 by omega)
    have v2 := vi (show s2 < 4 from h2) (by omega)
    have w2 := vc (show s2 < 2000000 by omega)
    have v13 := vi (show s3 < 13 by omega) (by omega)
    have w3 := vc (show s3 < 2000000 by omega)
    have v4 : vp_in (4 : Int32) 13 := by rw [vp_in_iff]; decide
    have c4 : (4 : Int32).toNatClampNeg = 4 := by decide
    have cls : ∀ σ, isB σ x N0 A → ∀ (Q : pm_O → pm_H → Prop), (∀ σ' : pm_H, fr (pB x) σ σ' → isB σ' x N0 A → (match cmpS T1 T2 with
        | none => True
        | some st => (∃ π, isTr σ' (x + 490) (finA T1.1 T2.1 st.1 st.1.length, st.2) π) ∧ st.1.length ≤ 12 ∧ ∀ r, r ∈ st.2 → okR r) → (((bI (cmpS T1 T2).isSome) = 0 → Q (.inr 4) (pm_thr σ')) ∧ (¬ (bI (cmpS T1 T2).isSome) = 0 → pm_C 37 158 [.ref x, .int (Int32.ofInt (s3 : Int)), .ref (x + 490)] σ' (pm_kI (fun r12 σ12 => Q (.inl (some (.int r12))) σ12) (pm_kX 38 145 false [] Q))))) → pm_C 38 145 [.ref x, .int (Int32.ofInt (s1 : Int)), .int (Int32.ofInt (s2 : Int)), .int (Int32.ofInt (s3 : Int))] σ Q := by
      intro σ h Q post
      obtain ⟨π1, t1⟩ := h.2.1 s1 h1
      obtain ⟨π2, t2⟩ := h.2.1 s2 h2
      rw [eT1] at t1
      rw [eT2] at t2
      obtain ⟨πd, td⟩ := h.2.2.1
      have hc := h.2.2.2.2.2.2.2.2.2.2
      refine w_B_compose_0 (q_slot r1 (fun _ => q_slot r2 (fun _ => q_slot r3 (fun _ => ?_) (fun n => absurd hv.2.2 n)) (fun n => absurd hv.2.1 n)) (fun n => absurd hv.1 n))
      simp only [h.1.1, h.1.2.1.1, h.1.2.1.2.1, h.1.2.1.2.2.2.2.2.2.2.2.2, h.1.2.2.1, h.1.2.2.2.1, h.1.2.2.2.2 s1 h1, h.1.2.2.2.2 s2 h2, hc.1, isr_ref, rv_ref, v1, w1, v2, w2, true_and, forall_eq]
      refine (s_Co_build hc td t1 k1 t2 k2 (by omega) (by omega) (by omega)).use (by omega) (fun σ' p => ?_)
      obtain ⟨f, c, p⟩ := p
      have hpB : ∀ b, cxP (x + 1680) (x + 490) b → pB x b := fun b hb => by unfold cxP pTr at hb; unfold pB; omega
      have b : isB σ' x N0 A := by
        refine isB_cx (π := πd) h f c ?_
        cases eo : cmpS T1 T2 with
        | none => rw [eo] at p; exact p
        | some st => rw [eo] at p; exact p.1.z
      have pp := post σ' (f.mono hpB) b (by
        cases eo : cmpS T1 T2 with
        | none => trivial
        | some st => rw [eo] at p; exact ⟨⟨πd, p.1⟩, p.2⟩)
      simp only [b.1.1, b.1.2.1.2.1, isr_ref, rv_ref, true_and, forall_eq]
      exact pp
    have mdl : ∀ σ, isM σ m A → ∀ (Q : pm_O → pm_H → Prop), (∀ τ, isM τ m A → fr (fun b => m ≤ b ∧ b ≤ m + 34) σ τ → (match cmpS T1 T2 with
        | none => pm_R 39 238 156 [.ref m, pm_U, pm_U, .int (Int32.ofInt (s3 : Int)), pm_U, pm_U, pm_U, pm_U, pm_U] [.int ((2 : Int32)), .ref m] τ Q
        | some st => mTr τ m 4 (finA T1.1 T2.1 st.1 st.1.length, st.2) → (st.1.length ≤ 12 ∧ ∀ r, r ∈ st.2 → okR r) → pm_R 39 238 156 [.ref m, pm_U, pm_U, .int (Int32.ofInt (s3 : Int)), pm_U, pm_U, pm_U, pm_U, pm_U] [.int ((0 : Int32)), .ref m] τ Q)) → pm_C 39 238 [.ref m, .int (Int32.ofInt (s1 : Int)), .int (Int32.ofInt (s2 : Int)), .int (Int32.ofInt (s3 : Int))] σ Q := by
      sorry
    sorry
  · sorry
