/-! ===== constructors: the bench ===== -/
def paZ (σ : pm_H) (e N0 : Nat) : Prop := isPa σ e N0 ∧ pm_F σ 406 e = .ref (e + 6)
theorem paZ_al {σ σ' : pm_H} {e N0 : Nat} (h : paZ σ e N0) (g : al (pPa e) σ σ') : paZ σ' e N0 := by
  have k0 := g e ⟨by omega, by omega⟩
  have k1 := g (e + 1) ⟨by omega, by omega⟩
  have k2 := g (e + 2) ⟨by omega, by omega⟩
  have k3 := g (e + 3) ⟨by omega, by omega⟩
  have k4 := g (e + 4) ⟨by omega, by omega⟩
  have k5 := g (e + 5) ⟨by omega, by omega⟩
  have k6 := g (e + 6) ⟨by omega, by omega⟩
  have k7 := g (e + 7) ⟨by omega, by omega⟩
  have k8 := g (e + 8) ⟨by omega, by omega⟩
  obtain ⟨⟨h1, h2, h3, p, h4, h5, h6, k, h7, h8, h9⟩, hp⟩ := h
  rw [hp] at h4
  injection h4 with h4
  subst h4
  refine ⟨⟨by rw [k0.1.1]; exact h1, ?_, ?_, e + 6, by rw [k0.2.1]; exact hp, Or.inl rfl, by rw [k6.1.1]; exact h6, k, h7, by rw [k6.1.2]; exact h8, h9⟩, by rw [k0.2.1]; exact hp⟩
  · simp only [k0.2.1]; exact h2
  · simp only [k1.1.1, k1.1.2, k2.1.1, k2.1.2, k3.1.1, k3.1.2, k4.1.1, k4.1.2, k5.1.1, k5.1.2, k7.1.1, k7.1.2, k8.1.1, k8.1.2]; exact h3
/-- the bench so far: cells made, slots, fields, what stands -/
def bS (σ : pm_H) (x ρ w : Nat) (Fs : List (Nat × Nat)) (C : pm_H → Prop) (τ : pm_H) : Prop := (x < ρ ∧ pm_n τ = ρ ∧ pm_w τ = pm_w σ + w) ∧ al (fun b => b < x) σ τ ∧ pm_t τ x = 12 ∧ (∀ e, e ∈ Fs → pm_F τ e.1 x = .ref e.2) ∧ C τ ∧ ∀ τ1 τ2, al (fun b => x < b ∧ b < ρ) τ1 τ2 → C τ1 → C τ2
theorem bS_next {σ τ σ3 : pm_H} {x ρ ρ' w w' f : Nat} {Fs : List (Nat × Nat)} {C D : pm_H → Prop} {K : pm_H → Prop} (h : bS σ x ρ w Fs C τ) (d : mkd ρ ρ' w' τ σ3) (hD : D σ3) (hr : ρ < ρ') (hs : ∀ τ1 τ2, al (fun b => ρ ≤ b ∧ b < ρ') τ1 τ2 → D τ1 → D τ2) (hf : ∀ e, e ∈ Fs → e.1 ≠ f) (hk : ∀ σ4, bS σ x ρ' (w + w') ((f, ρ) :: Fs) (fun τ => C τ ∧ D τ) σ4 → K σ4) : pm_t σ3 x = 12 ∧ ∀ σ4, σ4 = pm_sF σ3 f x (.ref ρ) → K σ4 := by
  obtain ⟨⟨h1, h2, h3⟩, h4, h5, h6, h7, h8⟩ := h
  obtain ⟨d1, d2, d3⟩ := d
  have kx := d1 x (by omega)
  refine ⟨by rw [kx.1.1]; exact h5, fun σ4 e4 => hk σ4 ?_⟩
  have f4 : fr (fun c => c = x) σ3 σ4 := by rw [e4]; exact fr_sF rfl
  refine ⟨⟨by omega, by rw [f4.n, d2], by rw [f4.w, d3, h3]; omega⟩, (h4.tr (d1.sub (fun b hb => by omega))).tr (al_fr f4 (fun b hb => by omega)), by rw [f4.t, kx.1.1]; exact h5, fun e he => ?_, ⟨h8 τ σ4 ((d1.sub (fun b hb => by omega)).tr (al_fr f4 (fun b hb => by omega))) h7, hs σ3 σ4 (al_fr f4 (fun b hb => by omega)) hD⟩, fun τ1 τ2 g q => ⟨h8 τ1 τ2 (g.sub (fun b hb => by omega)) q.1, hs τ1 τ2 (g.sub (fun b hb => by omega)) q.2⟩⟩
  rcases List.mem_cons.mp he with q | q
  · rw [q, e4, F_sF, if_pos ⟨rfl, rfl⟩]
  · rw [e4, F_sF, if_neg (fun y => hf e q y.1), kx.2.1]; exact h6 e q
theorem mk_gen {τ : pm_H} {ρ ρ' d d' k w w' m : Nat} {D : pm_H → Prop} {K : pm_H → Prop} {X : Nat → pm_H → Prop} (hn : pm_n τ = ρ) (hd : d' ≤ d) (hi : ∀ σ2, pm_t σ2 ρ = k → pm_n σ2 = ρ + 1 → (∀ f, pm_F σ2 f ρ = .null) → cV d' m [.ref ρ] σ2 (fun σ' => D σ' ∧ mkd ρ ρ' w' σ2 σ')) (hk : ∀ σ3, D σ3 → mkd ρ ρ' (w + w') τ σ3 → K σ3) : ∀ σ2, σ2 = pm_new τ k 0 w → pm_t σ2 (pm_n τ) = k ∧ pm_C d m [.ref (pm_n τ)] σ2 (pm_kV K X) := by
  intro σ2 e2
  obtain ⟨q1, q2, q3, q4, q5⟩ := mk_obj (k := k) (w := w) hn
  rw [← e2] at q1 q2 q3 q4 q5
  rw [hn]
  exact ⟨q1, (hi σ2 q1 q2 q5).use hd (fun σ3 p3 => hk σ3 p3.1 ⟨q4.tr p3.2.1, p3.2.2.1, by rw [p3.2.2.2, q3]; omega⟩)⟩
