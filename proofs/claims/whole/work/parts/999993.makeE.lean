/-! ===== constructors: outputs, composer ===== -/
theorem mk_Wo {τ : pm_H} {ρ d : Nat} {K : pm_H → Prop} {X : Nat → pm_H → Prop} (hn : pm_n τ = ρ) (hk : ∀ σ3, isWo σ3 ρ [] → mkd ρ (ρ + 2) 62 τ σ3 → K σ3) : ∀ σ2, σ2 = pm_new τ 11 0 2 → pm_t σ2 (pm_n τ) = 11 ∧ pm_C d 109 [.ref (pm_n τ)] σ2 (pm_kV K X) := by
  intro σ2 e2
  obtain ⟨q1, q2, q3, q4, q5⟩ := mk_obj (k := 11) (w := 2) hn
  rw [← e2] at q1 q2 q3 q4 q5
  rw [hn]
  refine ⟨q1, (s_Wo_init q1 q2 (by rw [q5]; rfl)).use (by omega) (fun σ3 p3 => hk σ3 p3.1 ⟨q4.tr p3.2.1, p3.2.2.1, by rw [p3.2.2.2, q3]⟩)⟩
theorem mk_Sy {τ : pm_H} {ρ d : Nat} {K : pm_H → Prop} {X : Nat → pm_H → Prop} (hn : pm_n τ = ρ) (hk : ∀ σ3, pm_t σ3 ρ = 9 → mkd ρ (ρ + 1) 2 τ σ3 → K σ3) : ∀ σ2, σ2 = pm_new τ 9 0 2 → pm_t σ2 (pm_n τ) = 9 ∧ pm_C d 72 [.ref (pm_n τ)] σ2 (pm_kV K X) := by
  intro σ2 e2
  obtain ⟨q1, q2, q3, q4, q5⟩ := mk_obj (k := 9) (w := 2) hn
  rw [← e2] at q1 q2 q3 q4 q5
  rw [hn]
  refine ⟨q1, s_Sy_init.use (by omega) (fun σ3 p3 => ?_)⟩
  rw [p3]
  exact hk σ2 q1 ⟨q4, q2, q3⟩
def ouB (τ : pm_H) (o : Nat) : Prop := ouS τ o ∧ (pm_t τ o = 4 ∧ pm_F τ 302 o = .ref (o + 3) ∧ pm_t τ (o + 3) = 130 ∧ pm_l τ (o + 3) = 12 ∧ pm_F τ 303 o = .ref (o + 4) ∧ pm_t τ (o + 4) = 130 ∧ pm_l τ (o + 4) = 12 ∧ pm_F τ 304 o = .ref (o + 5) ∧ woS τ (o + 5)) ∧ ouE τ o
theorem ouB_al {σ σ' : pm_H} {o : Nat} (h : ouB σ o) (e : al (fun b => o ≤ b ∧ b < o + 9) σ σ') : ouB σ' o := by
  have k0 := e o ⟨by omega, by omega⟩
  have k1 := e (o + 1) ⟨by omega, by omega⟩
  have k2 := e (o + 2) ⟨by omega, by omega⟩
  have k3 := e (o + 3) ⟨by omega, by omega⟩
  have k4 := e (o + 4) ⟨by omega, by omega⟩
  have k5 := e (o + 5) ⟨by omega, by omega⟩
  have k6 := e (o + 5 + 1) ⟨by omega, by omega⟩
  have k7 := e (o + 7) ⟨by omega, by omega⟩
  have k8 := e (o + 8) ⟨by omega, by omega⟩
  unfold ouB ouS ouE woS
  simp only [k0.1.1, k0.2.1, k1.1.1, k1.1.2, k2.1.1, k2.1.2, k3.1.1, k3.1.2, k4.1.1, k4.1.2, k5.1.1, k5.2.1, k6.1.1, k6.1.2, k7.1.1, k8.1.1]
  exact h
theorem ouB_sA {σ : pm_H} {o a j : Nat} {v : Value} (h : ouB σ o) : ouB (pm_sA σ a j v) o := h
theorem s_Ou_init {σ : pm_H} {o : Nat} (ht : pm_t σ o = 4) (hn : pm_n σ = o + 1) : cV 1 21 [.ref o] σ (fun σ' => isOu σ' o ∧ mkd o (o + 57) 1602 σ σ') := by
  refine w_Ou_init_0 (oB_next 12 (oB_0 ht hn) (by decide) (by simp) (fun τ1 h1 => oB_next 12 h1 (by decide) (by decide) (fun τ2 h2 => oB_next 12 h2 (by decide) (by decide) (fun τ3 h3 => oB_next 12 h3 (by decide) (by decide) (fun τ h => ?_)))))
  have k := h.2.2.2.2
  have a0 := k 0 _ rfl
  have a1 := k 1 _ rfl
  have a2 := k 2 _ rfl
  have a3 := k 3 _ rfl
  have nτ : pm_n τ = o + 5 := h.2.1.1
  have wτ : pm_w τ = pm_w σ + 48 := h.2.1.2
  have aτ : al (fun b => b < o) σ τ := h.2.2.1.sub (fun b hb => by omega)
  refine mk_Wo nτ (fun σ1 w1 d1 => ?_)
  obtain ⟨b1, n1, v1⟩ := d1
  have f1 := b1 o (by omega)
  rw [nτ]
  refine ⟨by rw [f1.1.1]; exact h.1.1, fun σ2 e2 => ?_⟩
  have f2 : fr (fun c => c = o) σ1 σ2 := by rw [e2]; exact fr_sF rfl
  have n2 : pm_n σ2 = o + 7 := by rw [f2.n, n1]
  refine mk_Sy n2 (fun σ3 s3 d3 => ?_)
  obtain ⟨b3, n3, v3⟩ := d3
  have f3 := b3 o (by omega)
  rw [n2]
  refine ⟨by rw [f3.1.1, f2.t, f1.1.1]; exact h.1.1, fun σ4 e4 => ?_⟩
  have f4 : fr (fun c => c = o) σ3 σ4 := by rw [e4]; exact fr_sF rfl
  have n4 : pm_n σ4 = o + 8 := by rw [f4.n, n3]
  refine mk_Sy n4 (fun σ5 s5 d5 => ?_)
  obtain ⟨b5, n5, v5⟩ := d5
  have f5 := b5 o (by omega)
  rw [n4]
  refine ⟨by rw [f5.1.1, f4.t, f3.1.1, f2.t, f1.1.1]; exact h.1.1, fun σ6 e6 => ?_⟩
  have f6 : fr (fun c => c = o) σ5 σ6 := by rw [e6]; exact fr_sF rfl
  have n6 : pm_n σ6 = o + 9 := by rw [f6.n, n5]
  -- what lies between o and o + 5 stays
  have al6 : al (fun b => b < o + 5 ∧ b ≠ o) τ σ6 := ((((b1.sub (fun b hb => by omega)).tr (al_fr f2 (fun b hb => by omega))).tr ((b3.sub (fun b hb => by omega)).tr (al_fr f4 (fun b hb => by omega)))).tr ((b5.sub (fun b hb => by omega)).tr (al_fr f6 (fun b hb => by omega))))
  have F6 : ∀ f, f ≠ 304 → f ≠ 305 → f ≠ 306 → pm_F σ6 f o = pm_F τ f o := fun f g1 g2 g3 => by
    rw [e6, F_sF, if_neg (fun q => g3 q.1), f5.2.1, e4, F_sF, if_neg (fun q => g2 q.1), f3.2.1, e2, F_sF, if_neg (fun q => g1 q.1), f1.2.1]
  have t6 : pm_t σ6 o = 4 := by rw [f6.t, f5.1.1, f4.t, f3.1.1, f2.t, f1.1.1]; exact h.1.1
  have base : ouB σ6 o := by
    have k1 := al6 (o + 1) (by omega)
    have k2 := al6 (o + 2) (by omega)
    have k3 := al6 (o + 3) (by omega)
    have k4 := al6 (o + 4) (by omega)
    refine ⟨⟨t6, ?_, ?_, ?_, ?_, ?_, ?_⟩, ⟨t6, ?_, ?_, ?_, ?_, ?_, ?_, ?_, ?_⟩, t6, ?_, ?_, ?_, ?_⟩
    · rw [F6 300 (by decide) (by decide) (by decide)]; exact a0.1
    · rw [F6 301 (by decide) (by decide) (by decide)]; exact a1.1
    · rw [k1.1.1]; exact a0.2.1.1
    · rw [k1.1.2]; exact a0.2.1.2
    · rw [k2.1.1]; exact a1.2.1.1
    · rw [k2.1.2]; exact a1.2.1.2
    · rw [F6 302 (by decide) (by decide) (by decide)]; exact a2.1
    · rw [k3.1.1]; exact a2.2.1.1
    · rw [k3.1.2]; exact a2.2.1.2
    · rw [F6 303 (by decide) (by decide) (by decide)]; exact a3.1
    · rw [k4.1.1]; exact a3.2.1.1
    · rw [k4.1.2]; exact a3.2.1.2
    · rw [e6, F_sF, if_neg (by omega), f5.2.1, e4, F_sF, if_neg (by omega), f3.2.1, e2, F_sF, if_pos ⟨rfl, rfl⟩]
    · have w2 := isWo_fr w1 f2 (fun b hb => by unfold pWo at hb; omega)
      have w4 := isWo_fr (isWo_al w2 (b3.sub (fun b hb => by unfold pWo at hb; omega))) f4 (fun b hb => by unfold pWo at hb; omega)
      exact (isWo_fr (isWo_al w4 (b5.sub (fun b hb => by unfold pWo at hb; omega))) f6 (fun b hb => by unfold pWo at hb; omega)).1
    · rw [e6, F_sF, if_neg (by omega), f5.2.1, e4, F_sF, if_pos ⟨rfl, rfl⟩]
    · rw [e6, F_sF, if_pos ⟨rfl, rfl⟩]
    · rw [f6.t, (b5 (o + 7) (by omega)).1.1, f4.t]; exact s3
    · rw [f6.t]; exact s5
  have d6 : al (fun b => b < o) σ σ6 := aτ.tr (al6.sub (fun b hb => by omega))
  have w6 : pm_w σ6 = pm_w σ + 114 := by rw [f6.w, v5, f4.w, v3, f2.w, v1, wτ]
  clear al6 F6 e2 e4 e6 b1 b3 b5
  refine lp (fun i => [.ref o, .int (Int32.ofInt (i : Nat))]) (fun i τ => al (fun b => b < o) σ τ ∧ (pm_n τ = o + 9 + 4 * i ∧ pm_w τ = pm_w σ + 114 + 124 * i) ∧ ouB τ o ∧ ∀ k, k < i → (pm_A τ (o + 3) k = .ref (o + 9 + 4 * k) ∧ pm_A τ (o + 4) k = .ref (o + 11 + 4 * k)) ∧ woS τ (o + 9 + 4 * k) ∧ woS τ (o + 11 + 4 * k)) 12 (fun i hi τ hh next => ?_) (fun τ hh => ?_) 0 (Nat.zero_le _) σ6 ⟨d6, ⟨n6, w6⟩, base, fun k hk => absurd hk (Nat.not_lt_zero _)⟩
  · obtain ⟨i1, ⟨i2, i3⟩, hB, i5⟩ := hh
    have v := vi (show i < 12 from hi) (by omega)
    have wv := vc (show i < 2000000 by omega)
    refine w_Ou_init_35 ⟨fun q => ?_, fun _ => ⟨⟨hB.1.1, by rw [hB.2.1.2.1]; rfl⟩, fun z1 e1 => ?_⟩⟩
    · rw [z_12le (n := i) (Nat.le_refl _) (by omega)] at q; omega
    rw [hB.2.1.2.1] at e1
    rw [e1]
    refine mk_Wo i2 (fun σ1 w1 d1 => ?_)
    obtain ⟨b1, n1, v1⟩ := d1
    have hB1 := ouB_al hB (b1.sub (fun b hb => by omega))
    rw [i2]
    refine ⟨⟨by rw [rv_ref]; exact hB1.2.1.2.2.1, by rw [rv_ref, hB1.2.1.2.2.2.1]; exact v, w1.1.1⟩, fun σ2 e2 => ?_⟩
    rw [rv_ref, wv] at e2
    have f2 : fr (fun c => c = o + 3) σ1 σ2 := by rw [e2]; exact fr_sA rfl
    have hB2 : ouB σ2 o := by rw [e2]; exact ouB_sA hB1
    have n2 : pm_n σ2 = o + 9 + 4 * i + 2 := by rw [f2.n, n1]
    refine ⟨⟨hB2.1.1, by rw [hB2.2.1.2.2.2.2.1]; rfl⟩, fun z5 e5 => ?_⟩
    rw [hB2.2.1.2.2.2.2.1] at e5
    rw [e5]
    refine mk_Wo n2 (fun σ3 w3 d3 => ?_)
    obtain ⟨b3, n3, v3⟩ := d3
    have hB3 := ouB_al hB2 (b3.sub (fun b hb => by omega))
    rw [n2]
    refine ⟨⟨by rw [rv_ref]; exact hB3.2.1.2.2.2.2.2.1, by rw [rv_ref, hB3.2.1.2.2.2.2.2.2.1]; exact v, w3.1.1⟩, fun σ4 e4 => ?_⟩
    rw [rv_ref, wv] at e4
    have f4 : fr (fun c => c = o + 4) σ3 σ4 := by rw [e4]; exact fr_sA rfl
    have hB4 : ouB σ4 o := by rw [e4]; exact ouB_sA hB3
    rw [oi_s]
    have w1' : woS σ2 (o + 9 + 4 * i) := (isWo_fr w1 f2 (fun b hb => by unfold pWo at hb; omega)).1
    refine next σ4 ⟨((i1.tr (b1.sub (fun b hb => by omega))).tr (al_fr f2 (fun b hb => by omega))).tr ((b3.sub (fun b hb => by omega)).tr (al_fr f4 (fun b hb => by omega))), ⟨?_, ?_⟩, hB4, fun k hk => ?_⟩
    · rw [f4.n, n3]; omega
    · rw [f4.w, v3, f2.w, v1, i3]; omega
    · have g2 : ∀ w, o + 5 ≤ w → w + 2 ≤ o + 9 + 4 * i + 2 → al (pWo w) σ2 σ4 := fun w g1 g2 => (b3.sub (fun b hb => by unfold pWo at hb; omega)).tr (al_fr f4 (fun b hb => by unfold pWo at hb; omega))
      have g1 : ∀ w, o + 5 ≤ w → w + 2 ≤ o + 9 + 4 * i → al (pWo w) τ σ2 := fun w g1 g2 => (b1.sub (fun b hb => by unfold pWo at hb; omega)).tr (al_fr f2 (fun b hb => by unfold pWo at hb; omega))
      have k3 : pm_A σ4 (o + 3) k = pm_A σ2 (o + 3) k := by rw [f4.A (by omega), (b3 (o + 3) (by omega)).2.2]
      by_cases c : k = i
      · subst c
        refine ⟨⟨by rw [k3, e2, A_sA, if_pos ⟨rfl, rfl⟩], ?_⟩, woS_al w1' (g2 _ (by omega) (by omega)), ?_⟩
        · rw [e4, A_sA, if_pos ⟨rfl, rfl⟩, show o + 9 + 4 * k + 2 = o + 11 + 4 * k by omega]
        · rw [show o + 11 + 4 * k = o + 9 + 4 * k + 2 by omega]
          exact (isWo_fr w3 f4 (fun b hb => by unfold pWo at hb; omega)).1
      · have hk' := i5 k (by omega)
        refine ⟨⟨?_, ?_⟩, woS_al (woS_al hk'.2.1 (g1 _ (by omega) (by omega))) (g2 _ (by omega) (by omega)), woS_al (woS_al hk'.2.2 (g1 _ (by omega) (by omega))) (g2 _ (by omega) (by omega))⟩
        · rw [k3, e2, A_sA, if_neg (fun q => c q.2), (b1 (o + 3) (by omega)).2.2]; exact hk'.1.1
        · rw [e4, A_sA, if_neg (fun q => c q.2), (b3 (o + 4) (by omega)).2.2, f2.A (by omega), (b1 (o + 4) (by omega)).2.2]; exact hk'.1.2
  · obtain ⟨i1, ⟨i2, i3⟩, hB, i5⟩ := hh
    refine w_Ou_init_35 ⟨fun _ => ⟨rfl, ⟨hB.1, ⟨hB.2.1.1, hB.2.1.2.1, hB.2.1.2.2.1, hB.2.1.2.2.2.1, hB.2.1.2.2.2.2.1, hB.2.1.2.2.2.2.2.1, hB.2.1.2.2.2.2.2.2.1, hB.2.1.2.2.2.2.2.2.2.1, hB.2.1.2.2.2.2.2.2.2.2, fun q hq => ⟨(i5 q hq).1.1, (i5 q hq).1.2, (i5 q hq).2.1, (i5 q hq).2.2⟩⟩, hB.2.2⟩, i1, by omega, by omega⟩, fun q => absurd (Int32.le_refl _) q⟩
