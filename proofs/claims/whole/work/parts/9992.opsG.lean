/-! ===== the bench after questions ===== -/
theorem isOu_fx {m o : Nat} {σ σ' : pm_H} (h : isOu σ o) (g : fx_rel m σ σ') (ha : (fx m).2.2 = false) (hf : ∀ f, f ∈ [300, 301, 302, 303, 304, 305, 306, 1000] → f ∉ (fx m).1) (hk : 130 ∉ (fx m).2.1) : isOu σ' o := by
  obtain ⟨g2, g3, g4⟩ := (g.2 ha).2
  have T : ∀ a, pm_t σ' a = pm_t σ a := fun a => by unfold pm_t; rw [g2]
  have Le : ∀ a, pm_l σ' a = pm_l σ a := fun a => by unfold pm_l; rw [g2]
  have A3 : ∀ q, pm_A σ' (o + 3) q = pm_A σ (o + 3) q := g4 _ (by rw [h.2.1.2.2.1]; exact hk)
  have A4 : ∀ q, pm_A σ' (o + 4) q = pm_A σ (o + 4) q := g4 _ (by rw [h.2.1.2.2.2.2.2.1]; exact hk)
  unfold isOu ouS ouW ouE woS
  simp only [T, Le, A3, A4, g3 300 (hf 300 (by decide)), g3 301 (hf 301 (by decide)), g3 302 (hf 302 (by decide)), g3 303 (hf 303 (by decide)), g3 304 (hf 304 (by decide)), g3 305 (hf 305 (by decide)), g3 306 (hf 306 (by decide)), g3 1000 (hf 1000 (by decide))]
  exact h
/-- scratch of the bench, and a new result -/
def pScr (x b : Nat) : Prop := pWo (x + 1598) b ∨ pO (x + 1600) b ∨ pDo (x + 1657) b
theorem isB_scr {P : Nat → Prop} {σ σ' : pm_H} {x N0 : Nat} {A : AS} {R : List Nat} (h : isB σ x N0 A) (f : fr P σ σ') (hP : ∀ b, P b → pScr x b) (ho : isOu σ' (x + 1600)) (hd : isDo σ' (x + 1657)) (hw : isWo σ' (x + 1598) R) : isB σ' x N0 (aS A, aH A, aL A, aW A, R) ∧ fB x N0 1 6 σ σ' := by
  have f' := f.mono hP
  refine ⟨isB_mk h f' ⟨?_, ?_⟩ (fun i hi => Or.inl ⟨fun b hb => ?_, rfl⟩) (Or.inl (fun b hb => ?_)) (Or.inl ⟨fun b hb => ?_, rfl⟩) (Or.inl ⟨fun b hb => ?_, rfl⟩) (Or.inl ⟨fun b hb => ?_, rfl⟩) (Or.inr hw) (Or.inr ho) (Or.inr hd) (Or.inl ?_) (Or.inl (fun b hb => ?_)), fB_fr f' (fun b hb => ?_)⟩
  · unfold pScr pWo pO pDo; omega
  · unfold pScr pWo pO pDo; omega
  · unfold pTr at hb; unfold pScr pWo pO pDo; omega
  · unfold pTr at hb; unfold pScr pWo pO pDo; omega
  · unfold pHi at hb; unfold pScr pWo pO pDo; omega
  · unfold pRe at hb; unfold pScr pWo pO pDo; omega
  · unfold pWo at hb; unfold pScr pWo pO pDo; omega
  · unfold pScr pWo pO pDo; omega
  · unfold pCo at hb; unfold pScr pWo pO pDo; omega
  · unfold pScr pWo pO pDo at hb; unfold pB; omega
theorem okA_R {A : AS} {R : List Nat} (h : okA A) (h1 : R.length ≤ 60) (h2 : ∀ c, c ∈ R → c < 100) : okA (aS A, aH A, aL A, aW A, R) := ⟨h.1, h.2.1, h.2.2.1, h.2.2.2.1, h1, h2⟩
theorem okA_W {A : AS} {W : List Nat} (h : okA A) (h1 : W.length ≤ 10) (h2 : ∀ c, c ∈ W → c < 100) : okA (aS A, aH A, aL A, W, aR A) := ⟨h.1, h.2.1, h.2.2.1, ⟨h1, h2⟩, h.2.2.2.2⟩
theorem okA_L {A : AS} {W : List Nat} (h : okA A) (h1 : W.length ≤ 120) (h2 : ∀ c, c ∈ W → c < 65536) : okA (aS A, aH A, W, aW A, aR A) := ⟨h.1, h.2.1, ⟨h1, h2⟩, h.2.2.2.1, h.2.2.2.2⟩
/-- a new word -/
theorem isB_word {σ σ' : pm_H} {x N0 : Nat} {A : AS} {W : List Nat} (h : isB σ x N0 A) (f : fr (pWo (x + 1596)) σ σ') (hw : isWo σ' (x + 1596) W) : isB σ' x N0 (aS A, aH A, aL A, W, aR A) ∧ fB x N0 1 6 σ σ' := by
  refine ⟨isB_mk h f ⟨?_, ?_⟩ (fun i hi => Or.inl ⟨fun b hb => ?_, rfl⟩) (Or.inl (fun b hb => ?_)) (Or.inl ⟨fun b hb => ?_, rfl⟩) (Or.inl ⟨fun b hb => ?_, rfl⟩) (Or.inr hw) (Or.inl ⟨fun b hb => ?_, rfl⟩) (Or.inl (fun b hb => ?_)) (Or.inl (fun b hb => ?_)) (Or.inl ?_) (Or.inl (fun b hb => ?_)), fB_fr f (fun b hb => ?_)⟩
  · unfold pWo; omega
  · unfold pWo; omega
  · unfold pTr at hb; unfold pWo; omega
  · unfold pTr at hb; unfold pWo; omega
  · unfold pHi at hb; unfold pWo; omega
  · unfold pRe at hb; unfold pWo; omega
  · unfold pWo at hb ⊢; omega
  · unfold pO at hb; unfold pWo; omega
  · unfold pDo at hb; unfold pWo; omega
  · unfold pWo; omega
  · unfold pCo at hb; unfold pWo; omega
  · unfold pWo at hb; unfold pB; omega
/-- new letters -/
theorem isB_let {σ σ' : pm_H} {x N0 : Nat} {A : AS} {W : List Nat} (h : isB σ x N0 A) (f : fr (pRe (x + 1591)) σ σ') (hw : isRe σ' (x + 1591) W) : isB σ' x N0 (aS A, aH A, W, aW A, aR A) ∧ fB x N0 1 6 σ σ' := by
  refine ⟨isB_mk h f ⟨?_, ?_⟩ (fun i hi => Or.inl ⟨fun b hb => ?_, rfl⟩) (Or.inl (fun b hb => ?_)) (Or.inl ⟨fun b hb => ?_, rfl⟩) (Or.inr hw) (Or.inl ⟨fun b hb => ?_, rfl⟩) (Or.inl ⟨fun b hb => ?_, rfl⟩) (Or.inl (fun b hb => ?_)) (Or.inl (fun b hb => ?_)) (Or.inl ?_) (Or.inl (fun b hb => ?_)), fB_fr f (fun b hb => ?_)⟩
  · unfold pRe; omega
  · unfold pRe; omega
  · unfold pTr at hb; unfold pRe; omega
  · unfold pTr at hb; unfold pRe; omega
  · unfold pHi at hb; unfold pRe; omega
  · unfold pWo at hb; unfold pRe; omega
  · unfold pWo at hb; unfold pRe; omega
  · unfold pO at hb; unfold pRe; omega
  · unfold pDo at hb; unfold pRe; omega
  · unfold pRe; omega
  · unfold pCo at hb; unfold pRe; omega
  · unfold pRe at hb; unfold pB; omega
theorem vp_nc {c : Nat} (h : c < 65536) : vp_nar .char (Int32.ofInt (c : Int)) = Int32.ofInt (c : Int) := by
  unfold vp_nar
  rw [oi_nI, (pk_charN h).1]
theorem s_Re_append {σ : pm_H} {e c : Nat} {l : List Nat} (h : isRe σ e l) (hl : l.length < 120) (hc : c < 65536) : cV 0 42 [.ref e, .int (Int32.ofInt (c : Int))] σ (fun σ' => isRe σ' e (l ++ [c]) ∧ fr (pRe e) σ σ') := by
  have v := vi hl (by omega)
  have w := vc (show l.length < 2000000 by omega)
  have q : ¬ (120 : Int32) ≤ Int32.ofInt (l.length : Int) := by
    have h : ((120 : Int32) ≤ Int32.ofInt (l.length : Int)) ↔ (120 : Int) ≤ (l.length : Int) := oi_lle ⟨by omega, by decide⟩
    rw [h]; omega
  have hs := h.1
  refine w_Re_append_0 ?_
  simp only [hs.1, hs.2.1, hs.2.2.1, hs.2.2.2.1, h.2.1, t_sA, F_sA, q, not_false_eq_true, false_implies, true_implies, vp_nc hc, v, w, isr_ref, rv_ref, true_and, forall_eq, oi_s]
  have f : fr (pRe e) σ (pm_sF (pm_sA σ (e + 1) l.length (.int (Int32.ofInt (c : Int)))) 501 e (.int (Int32.ofInt ((l.length + 1 : Nat) : Int)))) := (fr_sA (by unfold pRe; omega)).tr (fr_sF (by unfold pRe; omega))
  refine ⟨⟨⟨?_, ?_, ?_, ?_, ?_, ?_⟩, ?_, ?_, fun i c' hi => ?_⟩, f⟩
  · exact hs.1
  · simp only [F_sF, F_sA, Nat.reduceEqDiff, false_and, if_false]; exact hs.2.1
  · exact hs.2.2.1
  · exact hs.2.2.2.1
  · simp only [F_sF, F_sA, Nat.reduceEqDiff, false_and, if_false]; exact hs.2.2.2.2.1
  · exact ruS_fr hs.2.2.2.2.2 ((fr_sA (P := fun b => b = e + 1 ∨ b = e) (Or.inl rfl)).tr (fr_sF (Or.inr rfl))) (by omega)
  · rw [F_sF, if_pos ⟨rfl, rfl⟩, List.length_append]; rfl
  · rw [List.length_append]; exact hl
  · rw [A_sF, A_sA]
    rcases getA hi with q | ⟨q, rfl⟩
    · have := (List.getElem?_eq_some_iff.mp q).1
      rw [if_neg (by omega)]; exact h.2.2.2 i c' q
    · rw [if_pos ⟨rfl, q⟩]; rfl
theorem J_feed {x m N0 L c : Nat} {A : AS} (hA : okA A) (hc : c < 65536) : ∃ k v A', okA A' ∧ (∀ σ, isB σ x N0 A → isL σ x N0 L → pm_C 39 260 [.ref x, .int (Int32.ofInt (c : Int)), .ref L] σ (bOut x N0 1 6 σ k v A' L)) ∧ ∀ σ, isM σ m A → pm_C 39 193 [.ref m, .int (Int32.ofInt (c : Int))] σ (mOut m σ k v A') := by
  have l120 := hA.2.2.1.1
  by_cases hl : (aL A).length < 120
  · refine ⟨0, (Int32.ofInt (((aL A).length + 1 : Nat) : Int)).toInt64, (aS A, aH A, aL A ++ [c], aW A, aR A), okA_L hA (by rw [List.length_append]; exact hl) (fun d hd => ?_), fun σ h hL => ?_, fun σ h => ?_⟩
    · rcases List.mem_append.mp hd with q | q
      · exact hA.2.2.1.2 d q
      · rw [List.mem_singleton.mp q]; exact hc
    · have hr := h.2.2.2.2.1
      have q : Int32.ofInt ((aL A).length : Int) < 120 := (z_lt120 (nrg (by omega))).mpr (by omega)
      refine w_L_feed_0 ⟨h.1.1, w_B_feed_0 ?_⟩
      simp only [h.1.1, h.1.2.1.2.2.2.1, hr.1.1, hr.2.1, q, not_true_eq_false, false_implies, true_implies, and_true, isr_ref, rv_ref, true_and, forall_eq]
      refine (s_Re_append hr hl hc).use (by omega) (fun σ1 p1 => ?_)
      have g := isB_let h p1.2 p1.1
      have hd1 := g.1.1
      have e1 : iv (pm_F σ1 501 (x + 1591)) = Int32.ofInt (((aL A).length + 1 : Nat) : Int) := by rw [p1.1.2.1, List.length_append]; rfl
      simp only [hd1.1, hd1.2.1.2.2.2.1, p1.1.1.1, e1, isr_ref, rv_ref, true_and, forall_eq]
      exact L_ok2 hL g.1 g.2
    · have hm := h.1
      have q : ¬ Int32.ofInt ((aL A).length : Int) = 120 := by rw [z_eq120 (nrg (by omega))]; omega
      have v := vi (show (aL A).length < 120 from hl) (by omega)
      have w := vc (show (aL A).length < 2000000 by omega)
      refine w_M_feed_0 ?_
      simp only [hm.1, h.2.2.2.1.1, q, not_false_eq_true, false_implies, true_implies, true_and, forall_eq]
      refine w_M_feed_8 (thr0 hm (fun σ1 m1 f1 y1 => ?_))
      have h1 := isM_scr h hA f1 (fun _ q => Or.inl q) (fun _ q => q.elim) (fun _ q => q.elim)
      have hl1 := h1.2.2.2.1
      simp only [m1.1, m1.f11, m1.t11, m1.l11, t_sA, t_sF, F_sA, F_sF, and_self, if_true, iv_int, hl1.1, v, w, isr_ref, rv_ref, true_and, forall_eq, oi_s]
      have f2 : frX m (fun f => f = 1200 ∨ f = 1213) (fun i => i = 11) (fun _ => False) σ (pm_sF (pm_sA σ1 (m + 11) (aL A).length (.int (Int32.ofInt (c : Int)))) 1213 m (.int (Int32.ofInt (((aL A).length + 1 : Nat) : Int)))) := (frX.mono f1 (fun _ q => Or.inl q) (fun _ q => q.elim) (fun _ q => q)).tr (((frX_sA (by omega) (by omega)).mono (fun _ q => q.elim) (fun _ q => q) (fun _ q => q)).tr (frX_sF.mono (fun _ q => Or.inr q) (fun _ q => q.elim) (fun _ q => q)))
      refine ⟨⟨_, rfl, fun _ => rfl⟩, ?_, isM_mk h hA f2 (fun f hf => by rcases hf with e | e <;> (rw [e]; decide)) (fun i hi => Or.inl ⟨id, rfl⟩) (Or.inl ⟨by omega, by omega, fun _ _ q => q, rfl⟩) (Or.inr ⟨?_, ?_, fun i d hi => ?_⟩) (Or.inl ⟨by omega, by omega, rfl⟩) (Or.inl ⟨by omega, by omega, rfl⟩), f2.fr⟩
      · simp only [F_sF, F_sA, Nat.reduceEqDiff, false_and, if_false]; exact y1
      · show _ = Int32.ofInt ((aL A ++ [c]).length : Int)
        rw [F_sF, if_pos ⟨rfl, rfl⟩, List.length_append]; rfl
      · show (aL A ++ [c]).length ≤ 120
        rw [List.length_append]; exact hl
      · rw [A_sF, A_sA]
        rcases getA hi with q | ⟨q, rfl⟩
        · have := (List.getElem?_eq_some_iff.mp q).1
          rw [if_neg (by omega)]; exact hl1.2.2 i d q
        · rw [if_pos ⟨rfl, q⟩]; rfl
  · refine ⟨1, 0, A, hA, fun σ h hL => ?_, fun σ h => ?_⟩
    · have hr := h.2.2.2.2.1
      have q : ¬ Int32.ofInt ((aL A).length : Int) < 120 := by rw [z_lt120 (nrg (by omega))]; omega
      refine w_L_feed_0 ⟨h.1.1, w_B_feed_0 ?_⟩
      simp only [h.1.1, h.1.2.1.2.2.2.1, hr.1.1, hr.2.1, q, not_false_eq_true, false_implies, true_implies, isr_ref, rv_ref, true_and, forall_eq]
      exact k_L_feed_9 (L_thr i1_ne h)
    · have hm := h.1
      have q : Int32.ofInt ((aL A).length : Int) = 120 := by rw [z_eq120 (nrg (by omega))]; omega
      refine w_M_feed_0 ?_
      simp only [hm.1, h.2.2.2.1.1, q, not_true_eq_false, false_implies, true_implies, and_true, true_and, forall_eq]
      exact w_M_feed_8 (thrK hm i1_ne (fun σ1 m1 f1 y1 => mOut_e i1_ne h hA f1 y1))
theorem J_push {x m N0 L : Nat} {A : AS} (hA : okA A) {z1 : Int} (r1 : rg z1) : ∃ k v A', okA A' ∧ (∀ σ, isB σ x N0 A → isL σ x N0 L → pm_C 39 262 [.ref x, .int (Int32.ofInt z1), .ref L] σ (bOut x N0 1 6 σ k v A' L)) ∧ ∀ σ, isM σ m A → pm_C 39 203 [.ref m, .int (Int32.ofInt z1)] σ (mOut m σ k v A') := by
  have l10 := hA.2.2.2.1.1
  by_cases hv : 0 ≤ z1 ∧ z1 < 100
  · obtain ⟨c, rfl⟩ : ∃ n : Nat, z1 = n := ⟨z1.toNat, by omega⟩
    have hv2 : 0 ≤ (c : Int) ∧ (c : Int) ≤ (c : Int) ∧ (c : Int) < 100 := by omega
    by_cases hl : (aW A).length < 10
    · refine ⟨0, (Int32.ofInt (((aW A).length + 1 : Nat) : Int)).toInt64, (aS A, aH A, aL A, aW A ++ [c], aR A), okA_W hA (by rw [List.length_append]; exact hl) (fun d hd => ?_), fun σ h hL => ?_, fun σ h => ?_⟩
      · rcases List.mem_append.mp hd with q | q
        · exact hA.2.2.2.1.2 d q
        · rw [List.mem_singleton.mp q]; omega
      · have hr := h.2.2.2.2.2.1
        have q : Int32.ofInt ((aW A).length : Int) < 10 := (z_lt10 (nrg (by omega))).mpr (by omega)
        refine w_L_push_0 ⟨h.1.1, w_B_push_0 (q_symbols r1 r1 (fun _ => ?_) (fun n => absurd hv2 n))⟩
        simp only [h.1.1, h.1.2.1.2.2.2.2.1, hr.1.1, hr.2.1, q, not_true_eq_false, false_implies, true_implies, and_true, isr_ref, rv_ref, true_and, forall_eq]
        refine (s_Wo_append hr (by omega)).use (by omega) (fun σ1 p1 => ?_)
        have g := isB_word h p1.2 p1.1
        have hd1 := g.1.1
        have e1 : iv (pm_F σ1 1001 (x + 1596)) = Int32.ofInt (((aW A).length + 1 : Nat) : Int) := by rw [p1.1.2.1, List.length_append]; rfl
        simp only [hd1.1, hd1.2.1.2.2.2.2.1, p1.1.1.1, e1, isr_ref, rv_ref, true_and, forall_eq]
        exact L_ok2 hL g.1 g.2
      · have hm := h.1
        have q : ¬ Int32.ofInt ((aW A).length : Int) = 10 := by rw [z_eq10 (nrg (by omega))]; omega
        have v := vi (show (aW A).length < 10 from hl) (by omega)
        have w := vc (show (aW A).length < 2000000 by omega)
        refine w_M_push_0 (gD (s_M_isSymbol r1) (by omega) (fun n => absurd hv n) (fun _ => ?_))
        simp only [hm.1, h.2.2.2.2.1.1, q, not_false_eq_true, false_implies, true_implies, true_and, forall_eq]
        refine w_M_push_13 (thr0 hm (fun σ1 m1 f1 y1 => ?_))
        have h1 := isM_scr h hA f1 (fun _ q => Or.inl q) (fun _ q => q.elim) (fun _ q => q.elim)
        have hl1 := h1.2.2.2.2.1
        simp only [m1.1, m1.f12, m1.t12, m1.l12, t_sA, t_sF, F_sA, F_sF, and_self, if_true, iv_int, hl1.1, v, w, isr_ref, rv_ref, true_and, forall_eq, oi_s]
        have f2 : frX m (fun f => f = 1200 ∨ f = 1218) (fun i => i = 12) (fun _ => False) σ (pm_sF (pm_sA σ1 (m + 12) (aW A).length (.int (Int32.ofInt (c : Int)))) 1218 m (.int (Int32.ofInt (((aW A).length + 1 : Nat) : Int)))) := (frX.mono f1 (fun _ q => Or.inl q) (fun _ q => q.elim) (fun _ q => q)).tr (((frX_sA (by omega) (by omega)).mono (fun _ q => q.elim) (fun _ q => q) (fun _ q => q)).tr (frX_sF.mono (fun _ q => Or.inr q) (fun _ q => q.elim) (fun _ q => q)))
        refine ⟨⟨_, rfl, fun _ => rfl⟩, ?_, isM_mk h hA f2 (fun f hf => by rcases hf with e | e <;> (rw [e]; decide)) (fun i hi => Or.inl ⟨id, rfl⟩) (Or.inl ⟨by omega, by omega, fun _ _ q => q, rfl⟩) (Or.inl ⟨by omega, by omega, rfl⟩) (Or.inr ⟨?_, ?_, fun i d hi => ?_⟩) (Or.inl ⟨by omega, by omega, rfl⟩), f2.fr⟩
        · simp only [F_sF, F_sA, Nat.reduceEqDiff, false_and, if_false]; exact y1
        · show _ = Int32.ofInt ((aW A ++ [c]).length : Int)
          rw [F_sF, if_pos ⟨rfl, rfl⟩, List.length_append]; rfl
        · show (aW A ++ [c]).length ≤ 10
          rw [List.length_append]; exact hl
        · rw [A_sF, A_sA]
          rcases getA hi with q | ⟨q, rfl⟩
          · have := (List.getElem?_eq_some_iff.mp q).1
            rw [if_neg (by omega)]; exact hl1.2.2 i d q
          · rw [if_pos ⟨rfl, q⟩]; rfl
    · refine ⟨2, 0, A, hA, fun σ h hL => ?_, fun σ h => ?_⟩
      · have hr := h.2.2.2.2.2.1
        have q : ¬ Int32.ofInt ((aW A).length : Int) < 10 := by rw [z_lt10 (nrg (by omega))]; omega
        refine w_L_push_0 ⟨h.1.1, w_B_push_0 (q_symbols r1 r1 (fun _ => ?_) (fun n => absurd hv2 n))⟩
        simp only [h.1.1, h.1.2.1.2.2.2.2.1, hr.1.1, hr.2.1, q, not_false_eq_true, false_implies, true_implies, isr_ref, rv_ref, true_and, forall_eq]
        exact k_L_push_12 (L_thr i2_ne h)
      · have hm := h.1
        have q : Int32.ofInt ((aW A).length : Int) = 10 := by rw [z_eq10 (nrg (by omega))]; omega
        refine w_M_push_0 (gD (s_M_isSymbol r1) (by omega) (fun n => absurd hv n) (fun _ => ?_))
        simp only [hm.1, h.2.2.2.2.1.1, q, not_true_eq_false, false_implies, true_implies, and_true, true_and, forall_eq]
        exact w_M_push_13 (thrK hm i2_ne (fun σ1 m1 f1 y1 => mOut_e i2_ne h hA f1 y1))
  · refine ⟨1, 0, A, hA, fun σ h hL => ?_, fun σ h => ?_⟩
    · exact w_L_push_0 ⟨h.1.1, w_B_push_0 (q_symbols r1 r1 (fun s => absurd (by omega) hv) (fun n => k_L_push_9 (L_thr i1_ne h)))⟩
    · exact w_M_push_0 (gD (s_M_isSymbol r1) (by omega) (fun n => w_M_push_13 (thrK h.1 i1_ne (fun σ1 m1 f1 y1 => mOut_e i1_ne h hA f1 y1))) (fun s => absurd s hv))
