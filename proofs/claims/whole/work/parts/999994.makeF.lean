/-! ===== constructors: composer ===== -/
def coB (τ : pm_H) (e : Nat) : Prop := pm_t τ e = 1 ∧ (pm_F τ 0 e = .ref (e + 1) ∧ pm_F τ 2 e = .ref (e + 2) ∧ pm_F τ 3 e = .ref (e + 3) ∧ pm_F τ 4 e = .ref (e + 4) ∧ pm_F τ 5 e = .ref (e + 5)) ∧ (pm_t τ (e + 1) = 100 ∧ pm_l τ (e + 1) = 12 ∧ pm_t τ (e + 2) = 100 ∧ pm_l τ (e + 2) = 6 ∧ pm_t τ (e + 3) = 128 ∧ pm_l τ (e + 3) = 7 ∧ pm_t τ (e + 4) = 128 ∧ pm_l τ (e + 4) = 84 ∧ pm_t τ (e + 5) = 9)
theorem coB_al {σ σ' : pm_H} {e : Nat} (h : coB σ e) (g : al (fun b => e ≤ b ∧ b < e + 6) σ σ') : coB σ' e := by
  have k0 := g e ⟨by omega, by omega⟩
  have k1 := g (e + 1) ⟨by omega, by omega⟩
  have k2 := g (e + 2) ⟨by omega, by omega⟩
  have k3 := g (e + 3) ⟨by omega, by omega⟩
  have k4 := g (e + 4) ⟨by omega, by omega⟩
  have k5 := g (e + 5) ⟨by omega, by omega⟩
  unfold coB
  simp only [k0.1.1, k0.2.1, k1.1.1, k1.1.2, k2.1.1, k2.1.2, k3.1.1, k3.1.2, k4.1.1, k4.1.2, k5.1.1]
  exact h
theorem coB_fr {σ σ' : pm_H} {e a : Nat} (h : coB σ e) (f : fr (fun b => b = a) σ σ') (ha : a ≠ e) : coB σ' e := by
  unfold coB
  simp only [f.t, f.l, f.F (fun q : e = a => ha q.symm)]
  exact h
theorem z_7le {n : Nat} (hn : n < 100000) : Int32.ofNat 7 ≤ Int32.ofInt (n : Int) ↔ 7 ≤ n := by
  rw [oi_nat, oi_le (by omega)]; omega
theorem z_84le {n : Nat} (hn : n < 100000) : Int32.ofNat 84 ≤ Int32.ofInt (n : Int) ↔ 84 ≤ n := by
  rw [oi_nat, oi_le (by omega)]; omega
theorem s_Co_init {σ : pm_H} {e : Nat} (ht : pm_t σ e = 1) (hn : pm_n σ = e + 1) : cV 1 0 [.ref e] σ (fun σ' => isCo σ' e ∧ mkd e (e + 97) 293 σ σ') := by
  refine w_Co_init_0 (oB_next 12 (oB_0 ht hn) (by decide) (by simp) (fun τ1 h1 => oB_next 6 h1 (by decide) (by decide) (fun τ2 h2 => oB_next 7 h2 (by decide) (by decide) (fun τ3 h3 => oB_next 84 h3 (by decide) (by decide) (fun τ h => ?_)))))
  have k := h.2.2.2.2
  have a0 := k 0 _ rfl
  have a1 := k 1 _ rfl
  have a2 := k 2 _ rfl
  have a3 := k 3 _ rfl
  have nτ : pm_n τ = e + 5 := h.2.1.1
  have wτ : pm_w τ = pm_w σ + 109 := h.2.1.2
  have aτ : al (fun b => b < e) σ τ := h.2.2.1.sub (fun b hb => by omega)
  refine mk_Sy nτ (fun σ1 s1 d1 => ?_)
  obtain ⟨b1, n1, v1⟩ := d1
  have f1 := b1 e (by omega)
  rw [nτ]
  refine ⟨by rw [f1.1.1]; exact h.1.1, fun σ2 e2 => ?_⟩
  have f2 : fr (fun c => c = e) σ1 σ2 := by rw [e2]; exact fr_sF rfl
  have n2 : pm_n σ2 = e + 6 := by rw [f2.n, n1]
  have w2 : pm_w σ2 = pm_w σ + 111 := by rw [f2.w, v1, wτ]
  have d2 : al (fun b => b < e) σ σ2 := (aτ.tr (b1.sub (fun b hb => by omega))).tr (al_fr f2 (fun b hb => by omega))
  have F2 : ∀ f, f ≠ 5 → pm_F σ2 f e = pm_F τ f e := fun f g1 => by rw [e2, F_sF, if_neg (fun q => g1 q.1), f1.2.1]
  have base : coB σ2 e := by
    have k1 := b1 (e + 1) (by omega)
    have k2 := b1 (e + 2) (by omega)
    have k3 := b1 (e + 3) (by omega)
    have k4 := b1 (e + 4) (by omega)
    refine ⟨by rw [f2.t, f1.1.1]; exact h.1.1, ⟨by rw [F2 0 (by decide)]; exact a0.1, by rw [F2 2 (by decide)]; exact a1.1, by rw [F2 3 (by decide)]; exact a2.1, by rw [F2 4 (by decide)]; exact a3.1, by rw [e2, F_sF, if_pos ⟨rfl, rfl⟩]⟩, by rw [f2.t, k1.1.1]; exact a0.2.1.1, by rw [f2.l, k1.1.2]; exact a0.2.1.2, by rw [f2.t, k2.1.1]; exact a1.2.1.1, by rw [f2.l, k2.1.2]; exact a1.2.1.2, by rw [f2.t, k3.1.1]; exact a2.2.1.1, by rw [f2.l, k3.1.2]; exact a2.2.1.2, by rw [f2.t, k4.1.1]; exact a3.2.1.1, by rw [f2.l, k4.1.2]; exact a3.2.1.2, by rw [f2.t]; exact s1⟩
  clear e2 F2 b1
  refine lp (fun i => [.ref e, .int (Int32.ofInt (i : Nat))]) (fun i τ => al (fun b => b < e) σ τ ∧ (pm_n τ = e + 6 + i ∧ pm_w τ = pm_w σ + 111 + 2 * i) ∧ coB τ e ∧ ∀ k, k < i → pm_A τ (e + 3) k = .ref (e + 6 + k) ∧ pm_t τ (e + 6 + k) = 9) 7 (fun i hi τ hh next => ?_) (fun τ hh => ?_) 0 (Nat.zero_le _) σ2 ⟨d2, ⟨n2, w2⟩, base, fun k hk => absurd hk (Nat.not_lt_zero _)⟩
  · obtain ⟨i1, ⟨i2, i3⟩, hB, i5⟩ := hh
    have v := vi (show i < 7 from hi) (by omega)
    have wv := vc (show i < 2000000 by omega)
    refine w_Co_init_25 ?_
    simp only [hB.1, hB.2.1.2.2.1, hB.2.2.2.2.2.2.1, hB.2.2.2.2.2.2.2.1, isr_ref, rv_ref, true_and, forall_eq]
    refine ⟨fun q => ?_, fun _ => ?_⟩
    · rw [z_7le (by omega)] at q; omega
    refine mk_Sy i2 (fun σ3 s3 d3 => ?_) _ rfl
    obtain ⟨b3, n3, v3⟩ := d3
    have hB3 := coB_al hB (b3.sub (fun b hb => by omega))
    rw [i2]
    simp only [hB3.2.2.2.2.2.2.1, hB3.2.2.2.2.2.2.2.1, v, wv, s3, true_and, forall_eq, oi_s]
    have f4 : fr (fun c => c = e + 3) σ3 (pm_sA σ3 (e + 3) i (.ref (e + 6 + i))) := fr_sA (P := fun c => c = e + 3) rfl
    refine next _ ⟨(i1.tr (b3.sub (fun b hb => by omega))).tr (al_fr f4 (fun b hb => by omega)), ⟨?_, ?_⟩, coB_fr hB3 f4 (by omega), fun k hk => ?_⟩
    · rw [n_sA, n3]; omega
    · rw [w_sA, v3, i3]; omega
    · by_cases c : k = i
      · subst c
        exact ⟨by rw [A_sA, if_pos ⟨rfl, rfl⟩], by rw [t_sA]; exact s3⟩
      · have hk' := i5 k (by omega)
        exact ⟨by rw [A_sA, if_neg (fun q => c q.2), (b3 (e + 3) (by omega)).2.2]; exact hk'.1, by rw [t_sA, (b3 (e + 6 + k) (by omega)).1.1]; exact hk'.2⟩
  · obtain ⟨i1, ⟨i2, i3⟩, hB, i5⟩ := hh
    refine w_Co_init_25 ?_
    simp only [hB.1, hB.2.1.2.2.1, hB.2.2.2.2.2.2.1, hB.2.2.2.2.2.2.2.1, isr_ref, rv_ref, true_and, forall_eq]
    refine ⟨fun _ => ?_, fun q => absurd ((z_7le (by omega)).mpr (Nat.le_refl 7)) q⟩
    refine lp (fun i => [.ref e, .int (Int32.ofInt (i : Nat))]) (fun i τ => al (fun b => b < e) σ τ ∧ (pm_n τ = e + 13 + i ∧ pm_w τ = pm_w σ + 125 + 2 * i) ∧ coB τ e ∧ (∀ k, k < 7 → pm_A τ (e + 3) k = .ref (e + 6 + k) ∧ pm_t τ (e + 6 + k) = 9) ∧ ∀ k, k < i → pm_A τ (e + 4) k = .ref (e + 13 + k) ∧ pm_t τ (e + 13 + k) = 9) 84 (fun i hi τ hh next => ?_) (fun τ hh => ?_) 0 (Nat.zero_le _) τ ⟨i1, ⟨i2, i3⟩, hB, i5, fun k hk => absurd hk (Nat.not_lt_zero _)⟩
    · obtain ⟨i1, ⟨i2, i3⟩, hB, i5, i6⟩ := hh
      have v := vi (show i < 84 from hi) (by omega)
      have wv := vc (show i < 2000000 by omega)
      refine w_Co_init_41 ?_
      simp only [hB.1, hB.2.1.2.2.2.1, hB.2.2.2.2.2.2.2.2.1, hB.2.2.2.2.2.2.2.2.2.1, isr_ref, rv_ref, true_and, forall_eq]
      refine ⟨fun q => ?_, fun _ => ?_⟩
      · rw [z_84le (by omega)] at q; omega
      refine mk_Sy i2 (fun σ3 s3 d3 => ?_) _ rfl
      obtain ⟨b3, n3, v3⟩ := d3
      have hB3 := coB_al hB (b3.sub (fun b hb => by omega))
      rw [i2]
      simp only [hB3.2.2.2.2.2.2.2.2.1, hB3.2.2.2.2.2.2.2.2.2.1, v, wv, s3, true_and, forall_eq, oi_s]
      have f4 : fr (fun c => c = e + 4) σ3 (pm_sA σ3 (e + 4) i (.ref (e + 13 + i))) := fr_sA (P := fun c => c = e + 4) rfl
      refine next _ ⟨(i1.tr (b3.sub (fun b hb => by omega))).tr (al_fr f4 (fun b hb => by omega)), ⟨?_, ?_⟩, coB_fr hB3 f4 (by omega), fun k hk => ?_, fun k hk => ?_⟩
      · rw [n_sA, n3]; omega
      · rw [w_sA, v3, i3]; omega
      · have hk' := i5 k hk
        exact ⟨by rw [f4.A (by omega), (b3 (e + 3) (by omega)).2.2]; exact hk'.1, by rw [t_sA, (b3 (e + 6 + k) (by omega)).1.1]; exact hk'.2⟩
      · by_cases c : k = i
        · subst c
          exact ⟨by rw [A_sA, if_pos ⟨rfl, rfl⟩], by rw [t_sA]; exact s3⟩
        · have hk' := i6 k (by omega)
          exact ⟨by rw [A_sA, if_neg (fun q => c q.2), (b3 (e + 4) (by omega)).2.2]; exact hk'.1, by rw [t_sA, (b3 (e + 13 + k) (by omega)).1.1]; exact hk'.2⟩
    · obtain ⟨i1, ⟨i2, i3⟩, hB, i5, i6⟩ := hh
      refine w_Co_init_41 ?_
      simp only [hB.1, hB.2.1.2.2.2.1, hB.2.2.2.2.2.2.2.2.1, hB.2.2.2.2.2.2.2.2.2.1, isr_ref, rv_ref, true_and, forall_eq]
      refine ⟨fun _ => ⟨⟨hB.1, hB.2.1, hB.2.2, i5, i6⟩, i1, by omega, by omega⟩, fun q => absurd ((z_84le (by omega)).mpr (Nat.le_refl 84)) q⟩
