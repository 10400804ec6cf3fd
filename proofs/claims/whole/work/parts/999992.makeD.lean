/-! ===== constructors: history ===== -/
theorem z_8le {n : Nat} (hn : n < 100000) : (8 : Int32) ≤ Int32.ofInt (n : Int) ↔ 8 ≤ n := by
  refine (oi_lle (n := 8) ⟨by omega, by decide⟩).trans ?_
  show (8 : Int) ≤ (n : Int) ↔ _
  omega
theorem z_4le {n : Nat} (hn : n < 100000) : (4 : Int32) ≤ Int32.ofInt (n : Int) ↔ 4 ≤ n := by
  refine (oi_lle (n := 4) ⟨by omega, by decide⟩).trans ?_
  show (4 : Int) ≤ (n : Int) ↔ _
  omega
/-- a new transducer -/
theorem mk_Tr {τ : pm_H} {ρ d : Nat} {K : pm_H → Prop} {X : Nat → pm_H → Prop} (hn : pm_n τ = ρ) (hd : 2 ≤ d) (hk : ∀ σ3, isTr σ3 ρ (0, []) id → mkd ρ (ρ + 122) 643 τ σ3 → K σ3) : ∀ σ2, σ2 = pm_new τ 10 0 3 → pm_t σ2 (pm_n τ) = 10 ∧ pm_C d 94 [.ref (pm_n τ)] σ2 (pm_kV K X) := by
  intro σ2 e2
  obtain ⟨q1, q2, q3, q4, q5⟩ := mk_obj (k := 10) (w := 3) hn
  rw [← e2] at q1 q2 q3 q4 q5
  rw [hn]
  refine ⟨q1, (s_Tr_init q1 q2 ⟨by rw [q5]; rfl, by rw [q5]; rfl⟩).use (by omega) (fun σ3 p3 => hk σ3 p3.1 ⟨q4.tr p3.2.1, p3.2.2.1, by rw [p3.2.2.2, q3]⟩)⟩
theorem s_Hi_init {σ : pm_H} {h : Nat} (ht : pm_t σ h = 3) (hn : pm_n σ = h + 1) (hF : iv (pm_F σ 202 h) = 0 ∧ iv (pm_F σ 203 h) = 0) : cV 3 18 [.ref h] σ (fun σ' => isHi σ' h [] ∧ mkd h (h + 979) 5160 σ σ') := by
  refine w_Hi_init_0 (oB_next 8 (oB_0 ht hn) (by decide) (by simp) (fun τ1 h1 => oB_next 8 h1 (by decide) (by decide) (fun τ2 h2 => ?_)))
  have a0 := h2.2.2.2.2 0 _ rfl
  have a1 := h2.2.2.2.2 1 _ rfl
  refine lp (fun i => [.ref h, .int (Int32.ofInt (i : Nat))]) (fun i τ => al (fun b => b < h) σ τ ∧ (pm_n τ = h + 3 + 122 * i ∧ pm_w τ = pm_w σ + 16 + 643 * i) ∧ (pm_t τ h = 3 ∧ (pm_F τ 200 h = .ref (h + 1) ∧ pm_F τ 201 h = .ref (h + 2)) ∧ (iv (pm_F τ 202 h) = 0 ∧ iv (pm_F τ 203 h) = 0) ∧ (pm_t τ (h + 1) = 129 ∧ pm_l τ (h + 1) = 8) ∧ pm_t τ (h + 2) = 100 ∧ pm_l τ (h + 2) = 8) ∧ ∀ k, k < i → pm_A τ (h + 1) k = .ref (h + 3 + 122 * k) ∧ isTr τ (h + 3 + 122 * k) (0, []) id) 8 (fun i hi τ hh next => ?_) (fun τ hh => ?_) 0 (Nat.zero_le _) τ2 ?_
  · obtain ⟨i1, ⟨i2, i3⟩, ⟨g1, g2, g3, g4, g5⟩, i5⟩ := hh
    have v := vi (show i < 8 from hi) (by omega)
    have wv := vc (show i < 2000000 by omega)
    refine w_Hi_init_12 ⟨fun q => ?_, fun _ => ⟨⟨g1, by rw [g2.1]; rfl⟩, fun z1 e1 => ?_⟩⟩
    · rw [z_8le (by omega)] at q; omega
    rw [g2.1] at e1
    rw [e1]
    refine mk_Tr i2 (by omega) (fun σ3 t3 d3 => ?_)
    obtain ⟨b3, n3, w3⟩ := d3
    have ka := b3 h (by omega)
    have kb := b3 (h + 1) (by omega)
    have kc := b3 (h + 2) (by omega)
    rw [i2]
    simp only [rv_ref, kb.1.1, kb.1.2, g4.1, g4.2, v, wv, t3.1.1, true_and, forall_eq, oi_s]
    have f4 : fr (fun b => b = h + 1) σ3 (pm_sA σ3 (h + 1) i (.ref (h + 3 + 122 * i))) := fr_sA (P := fun b => b = h + 1) rfl
    refine next _ ⟨(i1.tr (b3.sub (fun b hb => by omega))).tr (al_fr f4 (fun b hb => by omega)), ⟨?_, ?_⟩, ⟨?_, ⟨?_, ?_⟩, ⟨?_, ?_⟩, ⟨?_, ?_⟩, ?_, ?_⟩, fun k hk => ?_⟩
    · rw [n_sA, n3]; omega
    · rw [w_sA, w3, i3]; omega
    · rw [t_sA, ka.1.1]; exact g1
    · rw [F_sA, ka.2.1]; exact g2.1
    · rw [F_sA, ka.2.1]; exact g2.2
    · rw [F_sA, ka.2.1]; exact g3.1
    · rw [F_sA, ka.2.1]; exact g3.2
    · rw [t_sA, kb.1.1]; exact g4.1
    · rw [l_sA, kb.1.2]; exact g4.2
    · rw [t_sA, kc.1.1]; exact g5.1
    · rw [l_sA, kc.1.2]; exact g5.2
    · by_cases c : k = i
      · subst c
        exact ⟨by rw [A_sA, if_pos ⟨rfl, rfl⟩], isTr_fr t3 f4 (fun b hb => by unfold pTr at hb; omega)⟩
      · have hk' := i5 k (by omega)
        refine ⟨?_, isTr_fr (isTr_al hk'.2 (b3.sub (fun b hb => by unfold pTr at hb; omega))) f4 (fun b hb => by unfold pTr at hb; omega)⟩
        rw [A_sA, if_neg (fun q => c q.2), kb.2.2]; exact hk'.1
  · obtain ⟨i1, ⟨i2, i3⟩, ⟨g1, g2, g3, g4, g5⟩, i5⟩ := hh
    refine w_Hi_init_12 ⟨fun _ => ⟨rfl, ⟨⟨g1, g2.1, g2.2, g4.1, g4.2, g5.1, g5.2, fun i hi => ⟨(i5 i hi).1, id, (i5 i hi).2.z⟩⟩, 0, by omega, g3.1, g3.2, Nat.zero_le _, fun i e he => by cases he⟩, i1, by omega, by omega⟩, fun q => absurd (Int32.le_refl _) q⟩
  · refine ⟨h2.2.2.1.sub (fun b hb => by omega), ⟨h2.2.1.1, h2.2.1.2⟩, ⟨h2.1.1, ⟨a0.1, a1.1⟩, ⟨by rw [h2.2.2.2.1 202 (by decide)]; exact hF.1, by rw [h2.2.2.2.1 203 (by decide)]; exact hF.2⟩, ⟨a0.2.1.1, a0.2.1.2⟩, a1.2.1.1, a1.2.1.2⟩, fun k hk => absurd hk (Nat.not_lt_zero _)⟩
