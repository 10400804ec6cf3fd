/-! ===== constructors: the bench ===== -/
def paZ (σ : pm_H) (e N0 : Nat) : Prop := isPa σ e N0 ∧ pm_F σ 406 e = .ref (e + 6)
theorem paZ_al {σ σ' : pm_H} {e N0 : Nat} (h : paZ σ e N0) (g : al (pPa e) σ σ') : paZ σ' e N0 := by
  have k0 := g e ⟨by omega, by omega⟩
  have k1 := g (e + 1) ⟨by omega, by omega⟩
  have k2 := g (e + 2) ⟨by omega, by omega⟩
  have k3 := g (e + 3) ⟨by omega, by omega⟩
  have k4 := g (e + 4) ⟨by omega, by omega⟩
  have k5 := g (e + 5) ⟨by omega, by omega⟩
  have k6 := g (e + 6) ⟨by omega, by omega⟩
  have k7 := g (e + 7) ⟨by omega, by omega⟩
  have k8 := g (e + 8) ⟨by omega, by omega⟩
  obtain ⟨⟨h1, h2, h3, p, h4, h5, h6, k, h7, h8, h9⟩, hp⟩ := h
  rw [hp] at h4
  injection h4 with h4
  subst h4
  refine ⟨⟨by rw [k0.1.1]; exact h1, ?_, ?_, e + 6, by rw [k0.2.1]; exact hp, Or.inl rfl, by rw [k6.1.1]; exact h6, k, h7, by rw [k6.1.2]; exact h8, h9⟩, by rw [k0.2.1]; exact hp⟩
  · simp only [k0.2.1]; exact h2
  · simp only [k1.1.1, k1.1.2, k2.1.1, k2.1.2, k3.1.1, k3.1.2, k4.1.1, k4.1.2, k5.1.1, k5.1.2, k7.1.1, k7.1.2, k8.1.1, k8.1.2]; exact h3
/-- the bench so far: cells made, slots, fields, what stands -/
def bS (σ : pm_H) (x ρ w : Nat) (Fs : List (Nat × Nat)) (C : pm_H → Prop) (τ : pm_H) : Prop := (x < ρ ∧ pm_n τ = ρ ∧ pm_w τ = pm_w σ + w) ∧ al (fun b => b < x) σ τ ∧ pm_t τ x = 12 ∧ (∀ e, e ∈ Fs → pm_F τ e.1 x = .ref e.2) ∧ C τ ∧ ∀ τ1 τ2, al (fun b => x < b ∧ b < ρ) τ1 τ2 → C τ1 → C τ2
theorem bS_next {σ τ σ3 : pm_H} {x ρ ρ' w w' f : Nat} {Fs : List (Nat × Nat)} {C D : pm_H → Prop} {K : pm_H → Prop} (h : bS σ x ρ w Fs C τ) (d : mkd ρ ρ' w' τ σ3) (hD : D σ3) (hr : ρ < ρ') (hs : ∀ τ1 τ2, al (fun b => ρ ≤ b ∧ b < ρ') τ1 τ2 → D τ1 → D τ2) (hf : ∀ e, e ∈ Fs → e.1 ≠ f) (hk : ∀ σ4, bS σ x ρ' (w + w') ((f, ρ) :: Fs) (fun τ => C τ ∧ D τ) σ4 → K σ4) : pm_t σ3 x = 12 ∧ ∀ σ4, σ4 = pm_sF σ3 f x (.ref ρ) → K σ4 := by
  obtain ⟨⟨h1, h2, h3⟩, h4, h5, h6, h7, h8⟩ := h
  obtain ⟨d1, d2, d3⟩ := d
  have kx := d1 x (by omega)
  refine ⟨by rw [kx.1.1]; exact h5, fun σ4 e4 => hk σ4 ?_⟩
  have f4 : fr (fun c => c = x) σ3 σ4 := by rw [e4]; exact fr_sF rfl
  refine ⟨⟨by omega, by rw [f4.n, d2], by rw [f4.w, d3, h3]; omega⟩, (h4.tr (d1.sub (fun b hb => by omega))).tr (al_fr f4 (fun b hb => by omega)), by rw [f4.t, kx.1.1]; exact h5, fun e he => ?_, ⟨h8 τ σ4 ((d1.sub (fun b hb => by omega)).tr (al_fr f4 (fun b hb => by omega))) h7, hs σ3 σ4 (al_fr f4 (fun b hb => by omega)) hD⟩, fun τ1 τ2 g q => ⟨h8 τ1 τ2 (g.sub (fun b hb => by omega)) q.1, hs τ1 τ2 (g.sub (fun b hb => by omega)) q.2⟩⟩
  rcases List.mem_cons.mp he with q | q
  · rw [q, e4, F_sF, if_pos ⟨rfl, rfl⟩]
  · rw [e4, F_sF, if_neg (fun y => hf e q y.1), kx.2.1]; exact h6 e q
theorem mk_gen {τ : pm_H} {ρ ρ' d d' k w w' m : Nat} {D : pm_H → Prop} {K : pm_H → Prop} {X : Nat → pm_H → Prop} (hn : pm_n τ = ρ) (hd : d' ≤ d) (hi : ∀ σ2, pm_t σ2 ρ = k → pm_n σ2 = ρ + 1 → (∀ f, pm_F σ2 f ρ = .null) → cV d' m [.ref ρ] σ2 (fun σ' => D σ' ∧ mkd ρ ρ' w' σ2 σ')) (hk : ∀ σ3, D σ3 → mkd ρ ρ' (w + w') τ σ3 → K σ3) : ∀ σ2, σ2 = pm_new τ k 0 w → pm_t σ2 (pm_n τ) = k ∧ pm_C d m [.ref (pm_n τ)] σ2 (pm_kV K X) := by
  intro σ2 e2
  obtain ⟨q1, q2, q3, q4, q5⟩ := mk_obj (k := k) (w := w) hn
  rw [← e2] at q1 q2 q3 q4 q5
  rw [hn]
  exact ⟨q1, (hi σ2 q1 q2 q5).use hd (fun σ3 p3 => hk σ3 p3.1 ⟨q4.tr p3.2.1, p3.2.2.1, by rw [p3.2.2.2, q3]; omega⟩)⟩
theorem s_B_init {σ : pm_H} {x N0 : Nat} (ht : pm_t σ x = 12) (hn : pm_n σ = x + 1) : cV 4 116 [.ref x] σ (fun σ' => isB σ' x N0 A00 ∧ mkd x (x + 1777) 41089 σ σ') := by
  refine w_B_init_0 (oB_next 4 (oB_0 ht hn) (by decide) (by simp) (fun τ h => ?_))
  have a0 := h.2.2.2.2 0 _ rfl
  have b0 : bS σ x (x + 2 + 122 * 0) (4 + 643 * 0) [(1100, x + 1)] (fun τ => (pm_t τ (x + 1) = 129 ∧ pm_l τ (x + 1) = 4) ∧ ∀ k, k < 0 → pm_A τ (x + 1) k = .ref (x + 2 + 122 * k) ∧ isTr τ (x + 2 + 122 * k) (0, []) id) τ := by
    refine ⟨⟨by omega, h.2.1.1, h.2.1.2⟩, h.2.2.1.sub (fun b hb => by omega), h.1.1, fun e he => ?_, ⟨⟨a0.2.1.1, a0.2.1.2⟩, fun k hk => absurd hk (Nat.not_lt_zero _)⟩, fun τ1 τ2 g q => ?_⟩
    · rw [List.mem_singleton.mp he]; exact a0.1
    · have k1 := g (x + 1) (by omega)
      exact ⟨⟨by rw [k1.1.1]; exact q.1.1, by rw [k1.1.2]; exact q.1.2⟩, fun k hk => absurd hk (Nat.not_lt_zero _)⟩
  refine lp (fun i => [.ref x, .int (Int32.ofInt (i : Nat))]) (fun i τ => bS σ x (x + 2 + 122 * i) (4 + 643 * i) [(1100, x + 1)] (fun τ => (pm_t τ (x + 1) = 129 ∧ pm_l τ (x + 1) = 4) ∧ ∀ k, k < i → pm_A τ (x + 1) k = .ref (x + 2 + 122 * k) ∧ isTr τ (x + 2 + 122 * k) (0, []) id) τ) 4 (fun i hi τ hh next => ?_) (fun τ hh => ?_) 0 (Nat.zero_le _) τ b0
  · obtain ⟨⟨i0, i2, i3⟩, i1, g1, g2, ⟨g4, i5⟩, _⟩ := hh
    have g2 := g2 (1100, x + 1) (List.mem_singleton.mpr rfl)
    dsimp only at g2
    have v := vi (show i < 4 from hi) (by omega)
    have wv := vc (show i < 2000000 by omega)
    refine w_B_init_8 ⟨fun q => ?_, fun _ => ⟨⟨g1, by rw [g2]; rfl⟩, fun z1 e1 => ?_⟩⟩
    · rw [z_4le (by omega)] at q; omega
    rw [g2] at e1
    rw [e1]
    refine mk_Tr i2 (by omega) (fun σ3 t3 d3 => ?_)
    obtain ⟨b3, n3, w3⟩ := d3
    have ka := b3 x (by omega)
    have kb := b3 (x + 1) (by omega)
    rw [i2]
    simp only [rv_ref, kb.1.1, kb.1.2, g4.1, g4.2, v, wv, t3.1.1, true_and, forall_eq, oi_s]
    have f4 : fr (fun b => b = x + 1) σ3 (pm_sA σ3 (x + 1) i (.ref (x + 2 + 122 * i))) := fr_sA (P := fun b => b = x + 1) rfl
    refine next _ ⟨⟨by omega, ?_, ?_⟩, (i1.tr (b3.sub (fun b hb => by omega))).tr (al_fr f4 (fun b hb => by omega)), ?_, fun e he => ?_, ⟨⟨?_, ?_⟩, fun k hk => ?_⟩, fun τ1 τ2 g q => ?_⟩
    · rw [n_sA, n3]; omega
    · rw [w_sA, w3, i3]; omega
    · rw [t_sA, ka.1.1]; exact g1
    · rw [List.mem_singleton.mp he]
      show pm_F _ 1100 x = _
      rw [F_sA, ka.2.1]; exact g2
    · rw [t_sA, kb.1.1]; exact g4.1
    · rw [l_sA, kb.1.2]; exact g4.2
    · by_cases c : k = i
      · subst c
        exact ⟨by rw [A_sA, if_pos ⟨rfl, rfl⟩], isTr_fr t3 f4 (fun b hb => by unfold pTr at hb; omega)⟩
      · have hk' := i5 k (by omega)
        refine ⟨?_, isTr_fr (isTr_al hk'.2 (b3.sub (fun b hb => by unfold pTr at hb; omega))) f4 (fun b hb => by unfold pTr at hb; omega)⟩
        rw [A_sA, if_neg (fun q => c q.2), kb.2.2]; exact hk'.1
    · have k1 := g (x + 1) (by omega)
      refine ⟨⟨by rw [k1.1.1]; exact q.1.1, by rw [k1.1.2]; exact q.1.2⟩, fun k hk => ⟨by rw [k1.2.2]; exact (q.2 k hk).1, isTr_al (q.2 k hk).2 (g.sub (fun b hb => by unfold pTr at hb; omega))⟩⟩
  have h0 : bS σ x (x + 490) 2576 [(1100, x + 1)] (fun τ => (pm_t τ (x + 1) = 129 ∧ pm_l τ (x + 1) = 4) ∧ ∀ k, k < 4 → pm_A τ (x + 1) k = .ref (x + 2 + 122 * k) ∧ isTr τ (x + 2 + 122 * k) (0, []) id) τ := hh
  refine w_B_init_8 ⟨fun _ => ?_, fun q => absurd (show (4 : Int32) ≤ Int32.ofInt ((4 : Nat) : Int) from (z_4le (by omega)).mpr (Nat.le_refl 4)) q⟩
  refine mk_Tr h0.1.2.1 (by omega) (fun σ3 t3 d3 => ?_)
  rw [h0.1.2.1]
  refine bS_next h0 d3 (D := fun τ => isTr τ (x + 490) (0, []) id) t3 (by omega) (fun τ1 τ2 g q => isTr_al q (g.sub (fun b hb => by unfold pTr at hb; omega))) (by simp) (fun τ1 h1 => ?_)
  refine mk_gen (k := 3) (w := 4) (d' := 3) (ρ' := x + 1591) (w' := 5160) (D := fun τ => isHi τ (x + 612) []) h1.1.2.1 (by omega) (fun σ2 p1 p2 p3 => s_Hi_init p1 p2 ⟨by rw [p3]; rfl, by rw [p3]; rfl⟩) (fun σ3 t3 d3 => ?_)
  rw [h1.1.2.1]
  refine bS_next h1 d3 (D := fun τ => isHi τ (x + 612) []) t3 (by omega) (fun τ1 τ2 g q => isHi_al q (g.sub (fun b hb => by unfold pHi at hb; omega))) (by simp) (fun τ2 h2 => ?_)
  refine mk_gen (k := 6) (w := 7) (d' := 2) (ρ' := x + 1596) (w' := 135) (D := fun τ => isRe τ (x + 1591) []) h2.1.2.1 (by omega) (fun σ2 p1 p2 p3 => s_Re_init p1 p2 (by rw [p3]; rfl)) (fun σ3 t3 d3 => ?_)
  rw [h2.1.2.1]
  refine bS_next h2 d3 (D := fun τ => isRe τ (x + 1591) []) t3 (by omega) (fun τ1 τ2 g q => isRe_al q (g.sub (fun b hb => by unfold pRe at hb; omega))) (by simp) (fun τ3 h3 => ?_)
  refine mk_gen (k := 11) (w := 2) (d' := 0) (ρ' := x + 1598) (w' := 60) (D := fun τ => isWo τ (x + 1596) []) h3.1.2.1 (by omega) (fun σ2 p1 p2 p3 => s_Wo_init p1 p2 (by rw [p3]; rfl)) (fun σ3 t3 d3 => ?_)
  rw [h3.1.2.1]
  refine bS_next h3 d3 (D := fun τ => isWo τ (x + 1596) []) t3 (by omega) (fun τ1 τ2 g q => isWo_al q (g.sub (fun b hb => by unfold pWo at hb; omega))) (by simp) (fun τ4 h4 => ?_)
  refine mk_gen (k := 11) (w := 2) (d' := 0) (ρ' := x + 1600) (w' := 60) (D := fun τ => isWo τ (x + 1598) []) h4.1.2.1 (by omega) (fun σ2 p1 p2 p3 => s_Wo_init p1 p2 (by rw [p3]; rfl)) (fun σ3 t3 d3 => ?_)
  rw [h4.1.2.1]
  refine bS_next h4 d3 (D := fun τ => isWo τ (x + 1598) []) t3 (by omega) (fun τ1 τ2 g q => isWo_al q (g.sub (fun b hb => by unfold pWo at hb; omega))) (by simp) (fun τ5 h5 => ?_)
  refine mk_gen (k := 4) (w := 8) (d' := 1) (ρ' := x + 1657) (w' := 1602) (D := fun τ => isOu τ (x + 1600)) h5.1.2.1 (by omega) (fun σ2 p1 p2 p3 => s_Ou_init p1 p2) (fun σ3 t3 d3 => ?_)
  rw [h5.1.2.1]
  refine bS_next h5 d3 (D := fun τ => isOu τ (x + 1600)) t3 (by omega) (fun τ1 τ2 g q => isOu_al q (g.sub (fun b hb => by unfold pO at hb; omega))) (by simp) (fun τ6 h6 => ?_)
  refine mk_gen (k := 2) (w := 14) (d' := 1) (ρ' := x + 1671) (w' := 27192) (D := fun τ => isDo τ (x + 1657)) h6.1.2.1 (by omega) (fun σ2 p1 p2 p3 => s_Do_init p1 p2) (fun σ3 t3 d3 => ?_)
  rw [h6.1.2.1]
  refine bS_next h6 d3 (D := fun τ => isDo τ (x + 1657)) t3 (by omega) (fun τ1 τ2 g q => isDo_al q (g.sub (fun b hb => by unfold pDo at hb; omega))) (by simp) (fun τ7 h7 => ?_)
  refine mk_gen (k := 5) (w := 12) (d' := 0) (ρ' := x + 1680) (w' := 3312) (D := fun τ => paZ τ (x + 1671) N0) h7.1.2.1 (by omega) (fun σ2 p1 p2 p3 => s_Pa_init p1 p2) (fun σ3 t3 d3 => ?_)
  rw [h7.1.2.1]
  refine bS_next h7 d3 (D := fun τ => paZ τ (x + 1671) N0) t3 (by omega) (fun τ1 τ2 g q => paZ_al q (g.sub (fun b hb => by unfold pPa at hb; omega))) (by simp) (fun τ8 h8 => ?_)
  refine mk_gen (k := 1) (w := 7) (d' := 1) (ρ' := x + 1777) (w' := 293) (D := fun τ => isCo τ (x + 1680)) h8.1.2.1 (by omega) (fun σ2 p1 p2 p3 => s_Co_init p1 p2) (fun σ3 t3 d3 => ?_)
  rw [h8.1.2.1]
  refine bS_next h8 d3 (D := fun τ => isCo τ (x + 1680)) t3 (by omega) (fun τ1 τ2 g q => isCo_al q (g.sub (fun b hb => by unfold pCo at hb; omega))) (by simp) (fun τ9 h9 => ?_)
  obtain ⟨⟨_, n9, w9⟩, a9, t9, F9, ⟨⟨⟨⟨⟨⟨⟨⟨⟨⟨c1, c2⟩, c3⟩, c4⟩, c5⟩, c6⟩, c7⟩, c8⟩, c9⟩, c10⟩, c11⟩, _⟩ := h9
  refine ⟨rfl, ⟨⟨t9, ⟨F9 (1100, x + 1) (by simp), F9 (1101, x + 490) (by simp), F9 (1102, x + 612) (by simp), F9 (1103, x + 1591) (by simp), F9 (1104, x + 1596) (by simp), F9 (1105, x + 1598) (by simp), F9 (1106, x + 1600) (by simp), F9 (1107, x + 1657) (by simp), F9 (1108, x + 1671) (by simp), F9 (1109, x + 1680) (by simp)⟩, c1.1, c1.2, fun i hi => (c2 i hi).1⟩, fun i hi => ⟨id, (c2 i hi).2⟩, ⟨id, c3.z⟩, c4, c5, c6, c7, c8, c9, c10.1, c11⟩, a9, n9, by omega⟩
