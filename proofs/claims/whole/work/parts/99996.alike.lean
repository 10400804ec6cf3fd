/-! ===== heaps alike at some cells (others may have been made) ===== -/
def al (P : Nat → Prop) (σ σ' : pm_H) : Prop := ∀ a, P a → (pm_t σ' a = pm_t σ a ∧ pm_l σ' a = pm_l σ a) ∧ (∀ f, pm_F σ' f a = pm_F σ f a) ∧ ∀ j, pm_A σ' a j = pm_A σ a j
theorem al.sub {P P' : Nat → Prop} {σ σ' : pm_H} (h : al P σ σ') (hp : ∀ a, P' a → P a) : al P' σ σ' := fun a ha => h a (hp a ha)
theorem al.tr {P : Nat → Prop} {σ σ1 σ2 : pm_H} (h : al P σ σ1) (g : al P σ1 σ2) : al P σ σ2 := fun a ha =>
  ⟨⟨(g a ha).1.1.trans (h a ha).1.1, (g a ha).1.2.trans (h a ha).1.2⟩, fun f => ((g a ha).2.1 f).trans ((h a ha).2.1 f), fun j => ((g a ha).2.2 j).trans ((h a ha).2.2 j)⟩
theorem al_fr {P Q : Nat → Prop} {σ σ' : pm_H} (h : fr P σ σ') (hp : ∀ a, Q a → ¬ P a) : al Q σ σ' := fun a ha => ⟨⟨h.t a, h.l a⟩, fun _ => h.F (hp a ha), fun _ => h.A (hp a ha)⟩
theorem al_new {Q : Nat → Prop} {σ : pm_H} {t len w : Nat} (hq : ∀ a, Q a → a < pm_n σ) : al Q σ (pm_new σ t len w) := fun a ha => by
  have h := hq a ha
  refine ⟨⟨?_, ?_⟩, fun f => ?_, fun j => ?_⟩
  · rw [t_new, if_neg (by omega)]
  · rw [l_new, if_neg (by omega)]
  · rw [F_new, if_neg (by omega)]
  · rw [A_new, if_neg (by omega)]
theorem al_thr {Q : Nat → Prop} {σ : pm_H} : al Q σ (pm_thr σ) := fun _ _ => ⟨⟨rfl, rfl⟩, fun _ => rfl, fun _ => rfl⟩
theorem ruS_al {σ σ' : pm_H} {ρ : Nat} (h : ruS σ ρ) (e : al (pRu ρ) σ σ') : ruS σ' ρ := by
  have k0 := e ρ ⟨by omega, by omega⟩
  have k1 := e (ρ + 1) ⟨by omega, by omega⟩
  have k2 := e (ρ + 2) ⟨by omega, by omega⟩
  unfold ruS
  simp only [k0.1.1, k0.2.1, k1.1.1, k2.1.1, k2.1.2]
  exact h
theorem isRu_al {σ σ' : pm_H} {ρ : Nat} {r : Rl} (h : isRu σ ρ r) (e : al (pRu ρ) σ σ') : isRu σ' ρ r := by
  have k0 := e ρ ⟨by omega, by omega⟩
  have k1 := e (ρ + 1) ⟨by omega, by omega⟩
  have k2 := e (ρ + 2) ⟨by omega, by omega⟩
  refine ⟨ruS_al h.1 e, ?_⟩
  unfold ruV
  simp only [k0.2.1, k1.2.1, k2.2.2]
  exact h.2
theorem isTr0_al {σ σ' : pm_H} {a : Nat} {π : Nat → Nat} (h : isTr0 σ a π) (e : al (pTr a) σ σ') : isTr0 σ' a π := by
  have k0 := e a ⟨by omega, by omega⟩
  have k1 := e (a + 1) ⟨by omega, by omega⟩
  obtain ⟨⟨h1, h2, h3, h4, h5⟩, h6, h7⟩ := h
  refine ⟨⟨by rw [k0.1.1]; exact h1, by rw [k0.2.1]; exact h2, by rw [k1.1.1]; exact h3, by rw [k1.1.2]; exact h4, fun k hk => ruS_al (h5 k hk) (e.sub (fun b hb => ?_))⟩, fun k hk => ⟨(h6 k hk).1, by rw [k1.2.2]; exact (h6 k hk).2⟩, h7⟩
  unfold pRu at hb; unfold pTr; omega
theorem isTr_al {σ σ' : pm_H} {a : Nat} {T : Tr} {π : Nat → Nat} (h : isTr σ a T π) (e : al (pTr a) σ σ') : isTr σ' a T π := by
  have k0 := e a ⟨by omega, by omega⟩
  have hz := isTr0_al h.z e
  refine ⟨hz.1, hz.2, by rw [k0.2.1]; exact h.2.2.1, by rw [k0.2.1]; exact h.2.2.2.1, h.2.2.2.2.1, fun k r hk => isRu_al (h.2.2.2.2.2 k r hk) (e.sub (fun b hb => ?_))⟩
  have l40 := h.2.2.2.2.1
  have lk := (List.getElem?_eq_some_iff.mp hk).1
  have hπ := (h.2.1.1 k (by omega)).1
  unfold pRu at hb; unfold pTr; omega
theorem hIx_l8 (nx n i : Nat) : hIx nx n i < 8 := by unfold hIx; omega
theorem isHi_al {σ σ' : pm_H} {h : Nat} {hs : List (Nat × Tr)} (hh : isHi σ h hs) (e : al (pHi h) σ σ') : isHi σ' h hs := by
  have k0 := e h ⟨by omega, by omega⟩
  have k1 := e (h + 1) ⟨by omega, by omega⟩
  have k2 := e (h + 2) ⟨by omega, by omega⟩
  obtain ⟨⟨h1, h2, h3, h4, h5, h6, h7, h8⟩, nx, g1, g2, g3, g4, g5⟩ := hh
  have tr : ∀ i, i < 8 → al (pTr (h + 3 + 122 * i)) σ σ' := fun i hi => e.sub (fun b hb => by unfold pTr at hb; unfold pHi; omega)
  refine ⟨⟨by rw [k0.1.1]; exact h1, by rw [k0.2.1]; exact h2, by rw [k0.2.1]; exact h3, by rw [k1.1.1]; exact h4, by rw [k1.1.2]; exact h5, by rw [k2.1.1]; exact h6, by rw [k2.1.2]; exact h7, fun i hi => ⟨by rw [k1.2.2]; exact (h8 i hi).1, ?_⟩⟩, nx, g1, by rw [k0.2.1]; exact g2, by rw [k0.2.1]; exact g3, g4, fun i x hx => ⟨?_, by rw [k2.2.2]; exact (g5 i x hx).2⟩⟩
  · obtain ⟨π, t⟩ := (h8 i hi).2
    exact ⟨π, isTr0_al t (tr i hi)⟩
  · obtain ⟨π, t⟩ := (g5 i x hx).1
    exact ⟨π, isTr_al t (tr _ (hIx_l8 _ _ _))⟩
theorem woS_al {σ σ' : pm_H} {w : Nat} (h : woS σ w) (e : al (pWo w) σ σ') : woS σ' w := by
  have k0 := e w ⟨by omega, by omega⟩
  have k1 := e (w + 1) ⟨by omega, by omega⟩
  unfold woS
  simp only [k0.1.1, k0.2.1, k1.1.1, k1.1.2]
  exact h
theorem isWo_al {σ σ' : pm_H} {w : Nat} {l : List Nat} (h : isWo σ w l) (e : al (pWo w) σ σ') : isWo σ' w l := by
  have k0 := e w ⟨by omega, by omega⟩
  have k1 := e (w + 1) ⟨by omega, by omega⟩
  exact ⟨woS_al h.1 e, by rw [k0.2.1]; exact h.2.1, h.2.2.1, fun i s hs => by rw [k1.2.2]; exact h.2.2.2 i s hs⟩
theorem isRe_al {σ σ' : pm_H} {e0 : Nat} {l : List Nat} (h : isRe σ e0 l) (e : al (pRe e0) σ σ') : isRe σ' e0 l := by
  have k0 := e e0 ⟨by omega, by omega⟩
  have k1 := e (e0 + 1) ⟨by omega, by omega⟩
  obtain ⟨⟨h1, h2, h3, h4, h5, h6⟩, g1, g2, g3⟩ := h
  exact ⟨⟨by rw [k0.1.1]; exact h1, by rw [k0.2.1]; exact h2, by rw [k1.1.1]; exact h3, by rw [k1.1.2]; exact h4, by rw [k0.2.1]; exact h5, ruS_al h6 (e.sub (fun b hb => by unfold pRu at hb; unfold pRe; omega))⟩, by rw [k0.2.1]; exact g1, g2, fun i c hc => by rw [k1.2.2]; exact g3 i c hc⟩
theorem isOu_al {σ σ' : pm_H} {o : Nat} (h : isOu σ o) (e : al (pO o) σ σ') : isOu σ' o := by
  have k0 := e o ⟨by omega, by omega⟩
  have k1 := e (o + 1) ⟨by omega, by omega⟩
  have k2 := e (o + 2) ⟨by omega, by omega⟩
  have k3 := e (o + 3) ⟨by omega, by omega⟩
  have k4 := e (o + 4) ⟨by omega, by omega⟩
  have k7 := e (o + 7) ⟨by omega, by omega⟩
  have k8 := e (o + 8) ⟨by omega, by omega⟩
  obtain ⟨h1, h2, h3⟩ := h
  have wo : ∀ w, o ≤ w → w + 2 ≤ o + 57 → woS σ w → woS σ' w := fun w a b hw => woS_al hw (e.sub (fun c hc => by unfold pWo at hc; unfold pO; omega))
  refine ⟨?_, ?_, ?_⟩
  · unfold ouS
    simp only [k0.1.1, k0.2.1, k1.1.1, k1.1.2, k2.1.1, k2.1.2]
    exact h1
  · obtain ⟨a1, a2, a3, a4, a5, a6, a7, a8, a9, a10⟩ := h2
    refine ⟨by rw [k0.1.1]; exact a1, by rw [k0.2.1]; exact a2, by rw [k3.1.1]; exact a3, by rw [k3.1.2]; exact a4, by rw [k0.2.1]; exact a5, by rw [k4.1.1]; exact a6, by rw [k4.1.2]; exact a7, by rw [k0.2.1]; exact a8, wo _ (by omega) (by omega) a9, fun q hq => ?_⟩
    obtain ⟨b1, b2, b3, b4⟩ := a10 q hq
    exact ⟨by rw [k3.2.2]; exact b1, by rw [k4.2.2]; exact b2, wo _ (by omega) (by omega) b3, wo _ (by omega) (by omega) b4⟩
  · unfold ouE
    simp only [k0.1.1, k0.2.1, k7.1.1, k8.1.1]
    exact h3
theorem stS_al {σ σ' : pm_H} {s : Nat} (h : stS σ s) (e : al (fun b => s ≤ b ∧ b < s + 2) σ σ') : stS σ' s := by
  have k0 := e s ⟨by omega, by omega⟩
  have k1 := e (s + 1) ⟨by omega, by omega⟩
  unfold stS
  simp only [k0.1.1, k0.2.1, k1.1.1, k1.1.2]
  exact h
theorem isDo_al {σ σ' : pm_H} {d : Nat} (h : isDo σ d) (e : al (pDo d) σ σ') : isDo σ' d := by
  have k0 := e d ⟨by omega, by omega⟩
  have k5 := e (d + 5) ⟨by omega, by omega⟩
  have k6 := e (d + 6) ⟨by omega, by omega⟩
  have k7 := e (d + 7) ⟨by omega, by omega⟩
  have k8 := e (d + 8) ⟨by omega, by omega⟩
  have k9 := e (d + 9) ⟨by omega, by omega⟩
  have k10 := e (d + 10) ⟨by omega, by omega⟩
  have k11 := e (d + 11) ⟨by omega, by omega⟩
  have k12 := e (d + 12) ⟨by omega, by omega⟩
  have k13 := e (d + 13) ⟨by omega, by omega⟩
  obtain ⟨⟨h1, h2, h3, h4, h5⟩, g⟩ := h
  refine ⟨⟨by rw [k0.1.1]; exact h1, ?_, ?_, stS_al h4 (e.sub (fun b hb => by unfold pDo; omega)), stS_al h5 (e.sub (fun b hb => by unfold pDo; omega))⟩, fun j hj => by rw [k8.2.2]; exact g j hj⟩
  · simp only [k0.2.1]; exact h2
  · simp only [k5.1.1, k5.1.2, k6.1.1, k6.1.2, k7.1.1, k7.1.2, k8.1.1, k8.1.2, k9.1.1, k9.1.2, k10.1.1, k10.1.2, k11.1.1, k11.1.2, k12.1.1, k12.1.2, k13.1.1, k13.1.2]; exact h3
theorem isCo_al {σ σ' : pm_H} {c : Nat} (h : isCo σ c) (e : al (pCo c) σ σ') : isCo σ' c := by
  have k0 := e c ⟨by omega, by omega⟩
  have k1 := e (c + 1) ⟨by omega, by omega⟩
  have k2 := e (c + 2) ⟨by omega, by omega⟩
  have k3 := e (c + 3) ⟨by omega, by omega⟩
  have k4 := e (c + 4) ⟨by omega, by omega⟩
  have k5 := e (c + 5) ⟨by omega, by omega⟩
  obtain ⟨h1, h2, h3, h4, h5⟩ := h
  refine ⟨by rw [k0.1.1]; exact h1, ?_, ?_, fun i hi => ?_, fun i hi => ?_⟩
  · simp only [k0.2.1]; exact h2
  · simp only [k1.1.1, k1.1.2, k2.1.1, k2.1.2, k3.1.1, k3.1.2, k4.1.1, k4.1.2, k5.1.1]; exact h3
  · have k6 := e (c + 6 + i) ⟨by omega, by omega⟩
    exact ⟨by rw [k3.2.2]; exact (h4 i hi).1, by rw [k6.1.1]; exact (h4 i hi).2⟩
  · have k6 := e (c + 13 + i) ⟨by omega, by omega⟩
    exact ⟨by rw [k4.2.2]; exact (h5 i hi).1, by rw [k6.1.1]; exact (h5 i hi).2⟩
theorem isHd_al {σ σ' : pm_H} {x : Nat} (h : isHd σ x) (e : al (fun b => b = x ∨ b = x + 1) σ σ') : isHd σ' x := by
  have k0 := e x (Or.inl rfl)
  have k1 := e (x + 1) (Or.inr rfl)
  unfold isHd
  simp only [k0.1.1, k0.2.1, k1.1.1, k1.1.2, k1.2.2]
  exact h
/-- the bench is as it was, but for the pairing -/
theorem isB_al {σ σ' : pm_H} {x N0 : Nat} {A : AS} (h : isB σ x N0 A) (e : al (fun b => pB x b ∧ ¬ pPa (x + 1671) b) σ σ') (hp : isPa σ' (x + 1671) N0) : isB σ' x N0 A := by
  obtain ⟨h1, h3, h4, h5, h6, h7, h8, h9, h10, h11, h12⟩ := h
  refine ⟨isHd_al h1 (e.sub (fun b hb => ?_)), fun i hi => ?_, ?_, isHi_al h5 (e.sub (fun b hb => ?_)), isRe_al h6 (e.sub (fun b hb => ?_)), isWo_al h7 (e.sub (fun b hb => ?_)), isWo_al h8 (e.sub (fun b hb => ?_)), isOu_al h9 (e.sub (fun b hb => ?_)), isDo_al h10 (e.sub (fun b hb => ?_)), hp, isCo_al h12 (e.sub (fun b hb => ?_))⟩
  · unfold pB pPa; omega
  · obtain ⟨π, t⟩ := h3 i hi
    exact ⟨π, isTr_al t (e.sub (fun b hb => by unfold pTr at hb; unfold pB pPa; omega))⟩
  · obtain ⟨π, t⟩ := h4
    exact ⟨π, isTr0_al t (e.sub (fun b hb => by unfold pTr at hb; unfold pB pPa; omega))⟩
  · unfold pHi at hb; unfold pB pPa; omega
  · unfold pRe at hb; unfold pB pPa; omega
  · unfold pWo at hb; unfold pB pPa; omega
  · unfold pWo at hb; unfold pB pPa; omega
  · unfold pO at hb; unfold pB pPa; omega
  · unfold pDo at hb; unfold pB pPa; omega
  · unfold pCo at hb; unfold pB pPa; omega
