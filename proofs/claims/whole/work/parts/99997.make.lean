/-! ===== constructors ===== -/
theorem i_pos6 : (¬ (6 : Int32) < 0) ∧ (6 : Int32).toNatClampNeg ≤ 1000000 := by decide
theorem c6 : (6 : Int32).toNatClampNeg = 6 := by decide
theorem c40 : (40 : Int32).toNatClampNeg = 40 := by decide
theorem z_40le {n : Nat} (hn : n < 100000) : (40 : Int32) ≤ Int32.ofInt (n : Int) ↔ 40 ≤ n := by
  refine (oi_lle (n := 40) ⟨by omega, by decide⟩).trans ?_
  show (40 : Int) ≤ (n : Int) ↔ _
  omega
/-- made from a cell on: n cells in all, w slots more; the cells below are as they were -/
def mkd (a n w : Nat) (σ σ' : pm_H) : Prop := al (fun b => b < a) σ σ' ∧ pm_n σ' = n ∧ pm_w σ' = pm_w σ + w
theorem s_Sy_init {σ : pm_H} {g : Nat} : cV 0 72 [.ref g] σ (fun σ' => σ' = σ) := w_Sy_init_0 ⟨rfl, rfl⟩
theorem s_Ru_init {σ : pm_H} {ρ : Nat} (ht : pm_t σ ρ = 7) (hn : pm_n σ = ρ + 1) : cV 1 58 [.ref ρ] σ (fun σ' => ruS σ' ρ ∧ mkd ρ (ρ + 3) 8 σ σ') := by
  refine w_Ru_init_0 (fun σ1 e1 => ?_)
  rw [hn]
  refine ⟨by rw [e1, t_new, if_pos hn.symm], s_Sy_init.use (by omega) (fun σ2 e2 => ?_)⟩
  rw [e1] at e2
  have n2 : pm_n σ2 = ρ + 2 := by rw [e2, n_new, hn]
  have hne : ρ ≠ ρ + 1 := by omega
  have t2 : pm_t σ2 ρ = 7 := by rw [e2, t_new, if_neg (by omega)]; exact ht
  have t21 : pm_t σ2 (ρ + 1) = 9 := by rw [e2, t_new, if_pos hn.symm]
  have w2 : pm_w σ2 = pm_w σ + 2 := by rw [e2, w_new]
  have a2 : al (fun b => b < ρ) σ σ2 := by rw [e2]; exact al_new (fun b hb => by omega)
  clear e1 e2
  refine ⟨t2, fun σ3 e3 => ⟨i_pos6, fun σ4 e4 => ⟨?_, fun σ5 e5 => ⟨rfl, ?_, ?_, ?_, ?_⟩⟩⟩⟩
  · rw [e4, e3, t_new, if_neg (by rw [n_sF]; omega), t_sF]; exact t2
  all_goals rw [e5, e4, e3]
  all_goals simp only [n_sF, n2, c6]
  · refine ⟨?_, ?_, ?_, ?_, ?_, ?_⟩
    · rw [t_sF, t_new, if_neg (by rw [n_sF]; omega), t_sF]; exact t2
    · rw [F_sF, if_neg (by omega), F_new, if_neg (by rw [n_sF]; omega), F_sF, if_pos ⟨rfl, rfl⟩]
    · rw [F_sF, if_pos ⟨rfl, rfl⟩]
    · rw [t_sF, t_new, if_neg (by rw [n_sF]; omega), t_sF]; exact t21
    · rw [t_sF, t_new, if_pos (by rw [n_sF]; omega)]
    · rw [l_sF, l_new, if_pos (by rw [n_sF]; omega)]
  · refine a2.tr (((al_fr (P := fun b => b = ρ) (fr_sF rfl) (fun b hb => by omega)).tr (al_new (fun b hb => by rw [n_sF]; omega))).tr (al_fr (P := fun b => b = ρ) (fr_sF rfl) (fun b hb => by omega)))
  · rw [n_new, n_sF, n2]
  · rw [w_sF, w_new, w_sF, w2]
theorem s_Tr_init {σ : pm_H} {a : Nat} (ht : pm_t σ a = 10) (hn : pm_n σ = a + 1) (hF : iv (pm_F σ 901 a) = 0 ∧ iv (pm_F σ 902 a) = 0) : cV 2 94 [.ref a] σ (fun σ' => isTr σ' a (0, []) id ∧ mkd a (a + 122) 640 σ σ') := by
  refine w_Tr_init_0 ⟨by decide, fun σ1 e1 => ?_⟩
  rw [c40] at e1
  rw [hn]
  have n1 : pm_n σ1 = a + 2 := by rw [e1, n_new, hn]
  have w1 : pm_w σ1 = pm_w σ + 40 := by rw [e1, w_new]
  have t1 : pm_t σ1 a = 10 := by rw [e1, t_new, if_neg (by omega)]; exact ht
  have t1' : pm_t σ1 (a + 1) = 126 := by rw [e1, t_new, if_pos hn.symm]
  have l1' : pm_l σ1 (a + 1) = 40 := by rw [e1, l_new, if_pos hn.symm]
  have F1 : iv (pm_F σ1 901 a) = 0 ∧ iv (pm_F σ1 902 a) = 0 := by rw [e1, F_new, if_neg (by omega), F_new, if_neg (by omega)]; exact hF
  have a1 : al (fun b => b < a) σ σ1 := by rw [e1]; exact al_new (fun b hb => by omega)
  clear e1
  refine ⟨t1, fun σ2 e2 => ?_⟩
  refine lp (fun i => [.ref a, .int (Int32.ofInt (i : Nat))]) (fun i τ => al (fun b => b < a) σ τ ∧ (pm_n τ = a + 2 + 3 * i ∧ pm_w τ = pm_w σ + 40 + 15 * i) ∧ (pm_t τ a = 10 ∧ pm_F τ 900 a = .ref (a + 1) ∧ (iv (pm_F τ 901 a) = 0 ∧ iv (pm_F τ 902 a) = 0) ∧ pm_t τ (a + 1) = 126 ∧ pm_l τ (a + 1) = 40) ∧ ∀ k, k < i → ruS τ (a + 2 + 3 * k) ∧ pm_A τ (a + 1) k = .ref (a + 2 + 3 * k)) 40 (fun i hi τ hh next => ?_) (fun τ hh => ?_) 0 (Nat.zero_le _) σ2 ?_
  · obtain ⟨i1, ⟨i2, i3⟩, ⟨g1, g2, g3, g4, g5⟩, i5⟩ := hh
    have v := vi (show i < 40 from hi) (by omega)
    have wv := vc (show i < 2000000 by omega)
    refine w_Tr_init_8 ⟨fun q => ?_, fun _ => ?_⟩
    · rw [z_40le (by omega)] at q; omega
    simp only [g1, g2, isr_ref, rv_ref, true_and, forall_eq, i2]
    generalize hρ : a + 2 + 3 * i = ρ at *
    have tn : pm_t (pm_new τ 7 0 7) ρ = 7 := by rw [t_new, if_pos i2.symm]
    have nn : pm_n (pm_new τ 7 0 7) = ρ + 1 := by rw [n_new, i2]
    have wn : pm_w (pm_new τ 7 0 7) = pm_w τ + 7 := w_new
    have an : al (fun b => b < ρ) τ (pm_new τ 7 0 7) := al_new (fun b hb => by omega)
    refine ⟨tn, (s_Ru_init tn nn).use (by omega) (fun σ3 p3 => ?_)⟩
    obtain ⟨r3, a3, n3, w3⟩ := p3
    have b3 := an.tr a3
    have ka := b3 a (by omega)
    have kb := b3 (a + 1) (by omega)
    simp only [kb.1.1, kb.1.2, g4, g5, v, wv, r3.1, true_and, forall_eq, oi_s]
    have f4 : fr (fun b => b = a + 1) σ3 (pm_sA σ3 (a + 1) i (.ref ρ)) := fr_sA (P := fun b => b = a + 1) rfl
    refine next _ ⟨(i1.tr (b3.sub (fun b hb => by omega))).tr (al_fr f4 (fun b hb => by omega)), ⟨?_, ?_⟩, ⟨?_, ?_, ⟨?_, ?_⟩, ?_, ?_⟩, fun k hk => ?_⟩
    · rw [n_sA, n3]; omega
    · rw [w_sA, w3, wn, i3]; omega
    · rw [t_sA, ka.1.1]; exact g1
    · rw [F_sA, ka.2.1]; exact g2
    · rw [F_sA, ka.2.1]; exact g3.1
    · rw [F_sA, ka.2.1]; exact g3.2
    · rw [t_sA, kb.1.1]; exact g4
    · rw [l_sA, kb.1.2]; exact g5
    · by_cases c : k = i
      · subst c
        rw [hρ]
        exact ⟨ruS_fr r3 f4 (by omega), by rw [A_sA, if_pos ⟨rfl, rfl⟩]⟩
      · have hk' := i5 k (by omega)
        refine ⟨ruS_fr (ruS_al hk'.1 (b3.sub (fun b hb => by unfold pRu at hb; omega))) f4 (by omega), ?_⟩
        rw [A_sA, if_neg (fun q => c q.2), kb.2.2]; exact hk'.2
  · obtain ⟨i1, ⟨i2, i3⟩, ⟨g1, g2, g3, g4, g5⟩, i5⟩ := hh
    refine w_Tr_init_8 ⟨fun _ => ⟨rfl, ⟨⟨g1, g2, g4, g5, fun k hk => (i5 k hk).1⟩, ⟨fun k hk => ⟨hk, (i5 k hk).2⟩, fun j k _ _ h => h⟩, g3.1, g3.2, Nat.zero_le _, fun k r hk => by simp at hk⟩, i1, by omega, by omega⟩, fun q => absurd (Int32.le_refl _) q⟩
  · have f2 : fr (fun b => b = a) σ1 σ2 := by rw [e2]; exact fr_sF rfl
    refine ⟨a1.tr (al_fr f2 (fun b hb => by omega)), ⟨by rw [f2.n, n1], by rw [f2.w, w1]⟩, ⟨by rw [f2.t]; exact t1, by rw [e2, F_sF, if_pos ⟨rfl, rfl⟩], ⟨by rw [e2, F_sF, if_neg (by omega)]; exact F1.1, by rw [e2, F_sF, if_neg (by omega)]; exact F1.2⟩, by rw [f2.t]; exact t1', by rw [f2.l]; exact l1'⟩, fun k hk => absurd hk (Nat.not_lt_zero _)⟩
