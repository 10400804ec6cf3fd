/-! ===== constructors: reader, domains ===== -/
theorem oB_at {σ : pm_H} {a k b : Nat} (ht : pm_t σ a = k) (hb : a < b) (hn : pm_n σ = b) : oB σ a k b [] σ :=
  ⟨⟨ht, hb⟩, ⟨hn, rfl⟩, fun _ _ => ⟨⟨rfl, rfl⟩, fun _ => rfl, fun _ => rfl⟩, fun _ _ => rfl, fun i e h => by cases h⟩
theorem mk_obj {τ : pm_H} {ρ k w : Nat} (hn : pm_n τ = ρ) : pm_t (pm_new τ k 0 w) ρ = k ∧ pm_n (pm_new τ k 0 w) = ρ + 1 ∧ pm_w (pm_new τ k 0 w) = pm_w τ + w ∧ al (fun b => b < ρ) τ (pm_new τ k 0 w) ∧ ∀ f, pm_F (pm_new τ k 0 w) f ρ = .null :=
  ⟨by rw [t_new, if_pos hn.symm], by rw [n_new, hn], w_new, al_new (fun b hb => by omega), fun f => by rw [F_new, if_pos hn.symm]⟩
theorem mkd_sF {σ τ : pm_H} {a f n w : Nat} {v : Value} (h : mkd a n w σ τ) : mkd a n w σ (pm_sF τ f a v) :=
  ⟨h.1.tr (al_fr (P := fun c => c = a) (fr_sF rfl) (fun c hc => by omega)), by rw [n_sF]; exact h.2.1, by rw [w_sF]; exact h.2.2⟩
theorem s_Re_init {σ : pm_H} {e : Nat} (ht : pm_t σ e = 6) (hn : pm_n σ = e + 1) (hF : iv (pm_F σ 501 e) = 0) : cV 2 41 [.ref e] σ (fun σ' => isRe σ' e [] ∧ mkd e (e + 5) 135 σ σ') := by
  refine w_Re_init_0 (oB_next 120 (oB_0 ht hn) (by decide) (by simp) (fun τ h => ?_))
  have e0 := h.2.2.2.2 0 _ rfl
  have nτ : pm_n τ = e + 2 := h.2.1.1
  have wτ : pm_w τ = pm_w σ + 120 := h.2.1.2
  have F501 : iv (pm_F τ 501 e) = 0 := by rw [h.2.2.2.1 501 (by simp)]; exact hF
  rw [nτ]
  intro σ3 e3
  obtain ⟨q1, q2, q3, q4, q5⟩ := mk_obj (k := 7) (w := 7) nτ
  rw [← e3] at q1 q2 q3 q4 q5
  refine ⟨q1, (s_Ru_init q1 q2).use (by omega) (fun σ4 p4 => ?_)⟩
  obtain ⟨r4, a4, n4, w4⟩ := p4
  have b4 := q4.tr a4
  have ke := b4 e (by omega)
  have k1 := b4 (e + 1) (by omega)
  have f5 : fr (fun c => c = e) σ4 (pm_sF σ4 504 e (.ref (e + 2))) := fr_sF (P := fun c => c = e) rfl
  refine ⟨by rw [ke.1.1]; exact h.1.1, fun σ5 e5 => ⟨rfl, ?_, ?_⟩⟩
  · rw [e5]
    refine ⟨⟨?_, ?_, ?_, ?_, ?_, ruS_fr r4 f5 (by omega)⟩, ?_, Nat.zero_le _, fun i c hc => by cases hc⟩
    · rw [t_sF, ke.1.1]; exact h.1.1
    · rw [F_sF, if_neg (by omega), ke.2.1]; exact e0.1
    · rw [t_sF, k1.1.1]; exact e0.2.1.1
    · rw [l_sF, k1.1.2]; exact e0.2.1.2
    · rw [F_sF, if_pos ⟨rfl, rfl⟩]
    · rw [F_sF, if_neg (by omega), ke.2.1]; exact F501
  · rw [e5]
    exact mkd_sF ⟨(h.2.2.1.sub (fun c hc => by omega)).tr (b4.sub (fun b hb => by omega)), n4, by rw [w4, q3, wτ]⟩
theorem s_Do_init {σ : pm_H} {e : Nat} (ht : pm_t σ e = 2) (hn : pm_n σ = e + 1) : cV 1 8 [.ref e] σ (fun σ' => isDo σ' e ∧ mkd e (e + 14) 27192 σ σ') := by
  refine w_Do_init_0 ?_
  rw [hn]
  intro σ1 e1
  obtain ⟨q1, q2, q3, q4, q5⟩ := mk_obj (k := 8) (w := 2) hn
  rw [← e1] at q1 q2 q3 q4 q5
  refine ⟨q1, (s_St_init q1 q2).use (by omega) (fun σ2 p2 => ?_)⟩
  obtain ⟨s2, a2, n2, w2⟩ := p2
  have b2 := q4.tr a2
  have k2 := b2 e (by omega)
  refine ⟨by rw [k2.1.1]; exact ht, fun σ3 e3 => ?_⟩
  have f3 : fr (fun c => c = e) σ2 σ3 := by rw [e3]; exact fr_sF rfl
  have t3 : pm_t σ3 e = 2 := by rw [f3.t, k2.1.1]; exact ht
  have n3 : pm_n σ3 = e + 3 := by rw [f3.n, n2]
  have F3 : pm_F σ3 100 e = .ref (e + 1) := by rw [e3, F_sF, if_pos ⟨rfl, rfl⟩]
  have s3 : stS σ3 (e + 1) := stS_fr s2 f3 (by omega)
  have d3 : mkd e (e + 3) 1202 σ σ3 := ⟨(b2.sub (fun b hb => by omega)).tr (al_fr f3 (fun b hb => by omega)), n3, by rw [f3.w, w2, q3]⟩
  rw [n3]
  intro σ4 e4
  obtain ⟨y1, y2, y3, y4, y5⟩ := mk_obj (k := 8) (w := 2) n3
  rw [← e4] at y1 y2 y3 y4 y5
  refine ⟨y1, (s_St_init y1 y2).use (by omega) (fun σ5 p5 => ?_)⟩
  obtain ⟨s5, a5, n5, w5⟩ := p5
  have b5 := y4.tr a5
  have k5 := b5 e (by omega)
  refine ⟨by rw [k5.1.1]; exact t3, fun σ6 e6 => ?_⟩
  have f6 : fr (fun c => c = e) σ5 σ6 := by rw [e6]; exact fr_sF rfl
  have t6 : pm_t σ6 e = 2 := by rw [f6.t, k5.1.1]; exact t3
  have n6 : pm_n σ6 = e + 5 := by rw [f6.n, n5]
  have F6 : pm_F σ6 101 e = .ref (e + 3) := by rw [e6, F_sF, if_pos ⟨rfl, rfl⟩]
  have F60 : pm_F σ6 100 e = .ref (e + 1) := by rw [e6, F_sF, if_neg (by omega), k5.2.1]; exact F3
  have s6 : stS σ6 (e + 3) := stS_fr s5 f6 (by omega)
  have s61 : stS σ6 (e + 1) := stS_fr (stS_al s3 (b5.sub (fun b hb => by omega))) f6 (by omega)
  have d6 : mkd e (e + 5) 2404 σ σ6 := ⟨(d3.1.tr (b5.sub (fun b hb => by omega))).tr (al_fr f6 (fun b hb => by omega)), n6, by rw [f6.w, w5, y3, d3.2.2]⟩
  refine oB_next 100 (oB_at t6 (by omega) n6) (by decide) (by simp) (fun τ1 h1 => oB_next 100 h1 (by decide) (by decide) (fun τ2 h2 => oB_next 4096 h2 (by decide) (by decide) (fun τ3 h3 => oB_next 4096 h3 (by decide) (by decide) (fun τ4 h4 => oB_next 4096 h4 (by decide) (by decide) (fun τ5 h5 => oB_next 4096 h5 (by decide) (by decide) (fun τ6 h6 => oB_next 4096 h6 (by decide) (by decide) (fun τ7 h7 => oB_next 4096 h7 (by decide) (by decide) (fun τ8 h8 => oB_next 12 h8 (by decide) (by decide) (fun τ h => ⟨rfl, ?_⟩)))))))))
  have k := h.2.2.2.2
  have a0 := k 0 _ rfl
  have a1 := k 1 _ rfl
  have a2 := k 2 _ rfl
  have a3 := k 3 _ rfl
  have a4 := k 4 _ rfl
  have a5 := k 5 _ rfl
  have a6 := k 6 _ rfl
  have a7 := k 7 _ rfl
  have a8 := k 8 _ rfl
  have st : ∀ s, e < s → s + 2 ≤ e + 5 → stS σ6 s → stS τ s := fun s h1 h2 hs => stS_al hs (h.2.2.1.sub (fun c hc => by omega))
  refine ⟨⟨⟨h.1.1, ⟨by rw [h.2.2.2.1 100 (by decide)]; exact F60, by rw [h.2.2.2.1 101 (by decide)]; exact F6, a0.1, a1.1, a2.1, a3.1, a4.1, a5.1, a6.1, a7.1, a8.1⟩, ⟨a0.2.1.1, a0.2.1.2, a1.2.1.1, a1.2.1.2, a2.2.1.1, a2.2.1.2, a3.2.1.1, a3.2.1.2, a4.2.1.1, a4.2.1.2, a5.2.1.1, a5.2.1.2, a6.2.1.1, a6.2.1.2, a7.2.1.1, a7.2.1.2, a8.2.1.1, a8.2.1.2⟩, st _ (by omega) (by omega) s61, st _ (by omega) (by omega) s6⟩, fun j _ => by rw [a3.2.2 j]; rfl⟩, d6.1.tr (h.2.2.1.sub (fun c hc => by omega)), h.2.1.1, ?_⟩
  rw [h.2.1.2, d6.2.2, Nat.add_assoc]
  refine congrArg (fun z => pm_w σ + z) ?_
  decide
