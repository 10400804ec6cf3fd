/-! ===== constructors: arrays of an object, one after the other ===== -/
def sumW : List (Nat × Nat × Nat) → Nat
  | [] => 0
  | e :: L => e.2.2 + sumW L
theorem sumW_app (L : List (Nat × Nat × Nat)) (e : Nat × Nat × Nat) : sumW (L ++ [e]) = sumW L + e.2.2 := by
  induction L with
  | nil => show e.2.2 + 0 = 0 + e.2.2; omega
  | cons x L ih => show x.2.2 + sumW (L ++ [e]) = x.2.2 + sumW L + e.2.2; rw [ih]; omega
/-- an object of a kind, its arrays so far: field, kind, length; they lie from a cell on -/
def oB (σ : pm_H) (a k b : Nat) (L : List (Nat × Nat × Nat)) (τ : pm_H) : Prop := (pm_t τ a = k ∧ a < b) ∧ (pm_n τ = b + L.length ∧ pm_w τ = pm_w σ + sumW L) ∧ al (fun c => c < b ∧ c ≠ a) σ τ ∧ (∀ f, (∀ e, e ∈ L → e.1 ≠ f) → pm_F τ f a = pm_F σ f a) ∧ ∀ (i : Nat) (e : Nat × Nat × Nat), L[i]? = some e → pm_F τ e.1 a = .ref (b + i) ∧ (pm_t τ (b + i) = e.2.1 ∧ pm_l τ (b + i) = e.2.2) ∧ ∀ j, pm_A τ (b + i) j = .null
theorem oB_0 {σ : pm_H} {a k : Nat} (ht : pm_t σ a = k) (hn : pm_n σ = a + 1) : oB σ a k (a + 1) [] σ :=
  ⟨⟨ht, by omega⟩, ⟨hn, rfl⟩, fun _ _ => ⟨⟨rfl, rfl⟩, fun _ => rfl, fun _ => rfl⟩, fun _ _ => rfl, fun i e h => by cases h⟩
theorem oB_s {σ τ : pm_H} {a k b f t len : Nat} {L : List (Nat × Nat × Nat)} (h : oB σ a k b L τ) (hf : ∀ e, e ∈ L → e.1 ≠ f) : oB σ a k b (L ++ [(f, t, len)]) (pm_sF (pm_new τ t len len) f a (.ref (pm_n τ))) := by
  obtain ⟨⟨h1, h2⟩, ⟨h3, h4⟩, h5, h6, h7⟩ := h
  refine ⟨⟨?_, h2⟩, ⟨?_, ?_⟩, ?_, fun g hg => ?_, fun i e hi => ?_⟩
  · rw [t_sF, t_new, if_neg (by omega)]; exact h1
  · rw [n_sF, n_new, h3, List.length_append]; rfl
  · rw [w_sF, w_new, h4, sumW_app]; show pm_w σ + sumW L + len = pm_w σ + (sumW L + len); omega
  · exact (h5.tr (al_new (fun c hc => by omega))).tr (al_fr (P := fun c => c = a) (fr_sF rfl) (fun c hc => by omega))
  · have g1 : g ≠ f := fun q => hg (f, t, len) (List.mem_append_right _ (List.mem_singleton.mpr rfl)) q.symm
    rw [F_sF, if_neg (fun q => g1 q.1), F_new, if_neg (by omega)]
    exact h6 g (fun e he => hg e (List.mem_append_left _ he))
  · by_cases c : i = L.length
    · subst c
      rw [List.getElem?_append_right (Nat.le_refl _), Nat.sub_self] at hi
      cases hi
      refine ⟨?_, ⟨?_, ?_⟩, fun j => ?_⟩
      · rw [F_sF, if_pos ⟨rfl, rfl⟩, h3]
      · rw [t_sF, t_new, if_pos h3.symm]
      · rw [l_sF, l_new, if_pos h3.symm]
      · rw [A_sF, A_new, if_pos h3.symm]
    · have li := (List.getElem?_eq_some_iff.mp hi).1
      rw [List.length_append] at li
      replace li : i < L.length + 1 := li
      rw [List.getElem?_append_left (by omega)] at hi
      obtain ⟨k1, ⟨k2, k3⟩, k4⟩ := h7 i e hi
      have e1 : e.1 ≠ f := hf e (List.mem_of_getElem? hi)
      refine ⟨?_, ⟨?_, ?_⟩, fun j => ?_⟩
      · rw [F_sF, if_neg (fun q => e1 q.1), F_new, if_neg (by omega)]; exact k1
      · rw [t_sF, t_new, if_neg (by omega)]; exact k2
      · rw [l_sF, l_new, if_neg (by omega)]; exact k3
      · rw [A_sF, A_new, if_neg (by omega)]; exact k4 j
/-- the next array, in the form of a row -/
theorem oB_next {σ τ : pm_H} {a k b f t : Nat} (len : Nat) {c : Int32} {L : List (Nat × Nat × Nat)} {K : pm_H → Prop} (h : oB σ a k b L τ) (hc : c.toNatClampNeg = len ∧ (¬ c < 0) ∧ c.toNatClampNeg ≤ 1000000) (hf : ∀ e, e ∈ L → e.1 ≠ f) (hk : ∀ τ', oB σ a k b (L ++ [(f, t, len)]) τ' → K τ') : ((¬ c < 0) ∧ c.toNatClampNeg ≤ 1000000) ∧ ∀ σ1, σ1 = pm_new τ t c.toNatClampNeg c.toNatClampNeg → pm_t σ1 a = k ∧ ∀ σ2, σ2 = pm_sF σ1 f a (.ref (pm_n τ)) → K σ2 := by
  refine ⟨hc.2, fun σ1 e1 => ⟨?_, fun σ2 e2 => hk σ2 ?_⟩⟩
  · rw [e1, t_new, if_neg (by have := h.1.2; have := h.2.1.1; omega)]; exact h.1.1
  · rw [e2, e1, hc.1]; exact oB_s h hf
theorem s_Wo_init {σ : pm_H} {w : Nat} (ht : pm_t σ w = 11) (hn : pm_n σ = w + 1) (hF : iv (pm_F σ 1001 w) = 0) : cV 0 109 [.ref w] σ (fun σ' => isWo σ' w [] ∧ mkd w (w + 2) 60 σ σ') := by
  refine w_Wo_init_0 (oB_next 60 (oB_0 ht hn) (by decide) (by simp) (fun τ h => ⟨rfl, ?_⟩))
  have e0 := h.2.2.2.2 0 _ rfl
  refine ⟨⟨⟨h.1.1, e0.1, e0.2.1.1, e0.2.1.2⟩, ?_, Nat.zero_le _, fun i s hi => by cases hi⟩, h.2.2.1.sub (fun c hc => by omega), h.2.1.1, h.2.1.2⟩
  rw [h.2.2.2.1 1001 (by simp)]; exact hF
theorem s_St_init {σ : pm_H} {s : Nat} (ht : pm_t σ s = 8) (hn : pm_n σ = s + 1) : cV 0 67 [.ref s] σ (fun σ' => stS σ' s ∧ mkd s (s + 2) 1200 σ σ') := by
  refine w_St_init_0 (oB_next 1200 (oB_0 ht hn) (by decide) (by simp) (fun τ h => ⟨rfl, ?_⟩))
  have e0 := h.2.2.2.2 0 _ rfl
  exact ⟨⟨h.1.1, e0.1, e0.2.1.1, e0.2.1.2⟩, h.2.2.1.sub (fun c hc => by omega), h.2.1.1, h.2.1.2⟩
theorem s_Pa_init {σ : pm_H} {e N0 : Nat} (ht : pm_t σ e = 5) (hn : pm_n σ = e + 1) : cV 0 29 [.ref e] σ (fun σ' => (isPa σ' e N0 ∧ pm_F σ' 406 e = .ref (e + 6)) ∧ mkd e (e + 9) 3312 σ σ') := by
  refine w_Pa_init_0 (oB_next 144 (oB_0 ht hn) (by decide) (by simp) (fun τ1 h1 => oB_next 144 h1 (by decide) (by decide) (fun τ2 h2 => oB_next 144 h2 (by decide) (by decide) (fun τ3 h3 => oB_next 144 h3 (by decide) (by decide) (fun τ4 h4 => oB_next 144 h4 (by decide) (by decide) (fun τ5 h5 => oB_next 864 h5 (by decide) (by decide) (fun τ6 h6 => oB_next 864 h6 (by decide) (by decide) (fun τ7 h7 => oB_next 864 h7 (by decide) (by decide) (fun τ h => ⟨rfl, ?_⟩)))))))))
  have k := h.2.2.2.2
  have a0 := k 0 _ rfl
  have a1 := k 1 _ rfl
  have a2 := k 2 _ rfl
  have a3 := k 3 _ rfl
  have a4 := k 4 _ rfl
  have a5 := k 5 _ rfl
  have a6 := k 6 _ rfl
  have a7 := k 7 _ rfl
  refine ⟨⟨⟨h.1.1, ⟨a0.1, a1.1, a2.1, a3.1, a4.1, a6.1, a7.1⟩, ⟨a0.2.1.1, a0.2.1.2, a1.2.1.1, a1.2.1.2, a2.2.1.1, a2.2.1.2, a3.2.1.1, a3.2.1.2, a4.2.1.1, a4.2.1.2, a6.2.1.1, a6.2.1.2, a7.2.1.1, a7.2.1.2⟩, e + 6, a5.1, Or.inl rfl, a5.2.1.1, 0, by omega, a5.2.1.2, Or.inl ⟨rfl, rfl⟩⟩, a5.1⟩, h.2.2.1.sub (fun c hc => by omega), h.2.1.1, h.2.1.2⟩
