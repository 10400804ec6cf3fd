/-! ===== transducers of the class ===== -/
theorem oi_s (k : Nat) : Int32.ofInt (k : Int) + 1 = Int32.ofInt ((k + 1 : Nat) : Int) := by rw [oi_addl]; rfl
/-- a loop over a heap -/
theorem lp {d m k : Nat} {Q : pm_O → pm_H → Prop} (L : Nat → List Value) (I : Nat → pm_H → Prop) (n : Nat)
    (step : ∀ i, i < n → ∀ σ, I i σ → (∀ σ', I (i + 1) σ' → pm_R d m k (L (i + 1)) [] σ' Q) → pm_R d m k (L i) [] σ Q)
    (done : ∀ σ, I n σ → pm_R d m k (L n) [] σ Q) : ∀ i, i ≤ n → ∀ σ, I i σ → pm_R d m k (L i) [] σ Q := by
  intro i hi
  obtain ⟨j, rfl⟩ := Nat.exists_eq_add_of_le hi
  clear hi
  induction j generalizing i with
  | zero => exact done
  | succ j ih =>
    intro σ hI
    refine step i (by omega) σ hI (fun σ' hy => ?_)
    have e : i + (j + 1) = (i + 1) + j := by omega
    exact ih (i + 1) (by rw [← e]; exact step) (by rw [← e]; exact done) σ' hy
/-- a loop that leaves the heap as it is -/
theorem lp0 {d m k : Nat} {σ : pm_H} {Q : pm_O → pm_H → Prop} (L : Nat → List Value) (n : Nat)
    (step : ∀ i, i < n → pm_R d m k (L (i + 1)) [] σ Q → pm_R d m k (L i) [] σ Q)
    (done : pm_R d m k (L n) [] σ Q) : ∀ i, i ≤ n → pm_R d m k (L i) [] σ Q := by
  intro i hi
  refine lp L (fun _ τ => τ = σ) n (fun i hi τ e h => ?_) (fun τ e => ?_) i hi σ rfl
  · subst e; exact step i hi (h _ rfl)
  · subst e; exact done
/-- final states, rules -/
abbrev Tr : Type := Nat × List Rl
def trS (σ : pm_H) (a : Nat) : Prop := pm_t σ a = 10 ∧ pm_F σ 900 a = .ref (a + 1) ∧ pm_t σ (a + 1) = 126 ∧ pm_l σ (a + 1) = 40 ∧ ∀ k, k < 40 → ruS σ (a + 2 + 3 * k)
def trP (σ : pm_H) (a : Nat) (π : Nat → Nat) : Prop := (∀ k, k < 40 → π k < 40 ∧ pm_A σ (a + 1) k = .ref (a + 2 + 3 * π k)) ∧ ∀ j k, j < 40 → k < 40 → π j = π k → j = k
def isTr (σ : pm_H) (a : Nat) (T : Tr) (π : Nat → Nat) : Prop := trS σ a ∧ trP σ a π ∧ iv (pm_F σ 901 a) = Int32.ofInt T.2.length ∧ iv (pm_F σ 902 a) = Int32.ofInt T.1 ∧ T.2.length ≤ 40 ∧ ∀ (k : Nat) (r : Rl), T.2[k]? = some r → isRu σ (a + 2 + 3 * π k) r
def okTr (T : Tr) : Prop := T.1 < 4096 ∧ ∀ r, r ∈ T.2 → okR r
/-- the cells of a transducer -/
def pTr (a b : Nat) : Prop := a ≤ b ∧ b < a + 122
theorem isTr_fr {P : Nat → Prop} {σ σ' : pm_H} {a : Nat} {T : Tr} {π : Nat → Nat} (h : isTr σ a T π) (hf : fr P σ σ') (hp : ∀ b, pTr a b → ¬ P b) : isTr σ' a T π := by
  obtain ⟨⟨h1, h2, h3, h4, h5⟩, ⟨g1, g2⟩, e1, e2, e3, e4⟩ := h
  have p0 := hp a ⟨by omega, by omega⟩
  have p1 := hp (a + 1) ⟨by omega, by omega⟩
  refine ⟨⟨by rw [hf.t, h1], by rw [hf.F p0, h2], by rw [hf.t, h3], by rw [hf.l, h4], fun k hk => ruS_fr (h5 k hk) hf (hp _ ⟨by omega, by omega⟩)⟩, ⟨fun k hk => ⟨(g1 k hk).1, by rw [hf.A p1, (g1 k hk).2]⟩, g2⟩, by rw [hf.F p0, e1], by rw [hf.F p0, e2], e3, fun k r hr => ?_⟩
  have hk := (List.getElem?_eq_some_iff.mp hr).1
  have := (g1 k (by omega)).1
  exact isRu_fr (e4 k r hr) hf (fun b hb => hp b ⟨by have := hb.1; omega, by have := hb.2; omega⟩)
theorem isTr.at {σ : pm_H} {a k : Nat} {T : Tr} {π : Nat → Nat} {r : Rl} (h : isTr σ a T π) (hk : T.2[k]? = some r) : vp_in (Int32.ofInt (k : Int)) 40 ∧ (Int32.ofInt (k : Int)).toNatClampNeg = k ∧ pm_A σ (a + 1) k = .ref (a + 2 + 3 * π k) ∧ isRu σ (a + 2 + 3 * π k) r := by
  have hk' := (List.getElem?_eq_some_iff.mp hk).1
  have := h.2.2.2.2.1
  exact ⟨(oi_in (by omega)).mpr (by omega), by rw [oi_nc (by omega), nat_tn], (h.2.1.1 k (by omega)).2, h.2.2.2.2.2 k r hk⟩
theorem okR.ts {r : Rl} (h : okR r) : ∀ t, t ∈ rTs r → t < 100000 := fun t ht => by
  rcases h.2.2.2.2 t ht with q | q <;> omega
theorem okTr.at {T : Tr} {k : Nat} {r : Rl} (h : okTr T) (hk : T.2[k]? = some r) : okR r := h.2 r (List.mem_of_getElem? hk)
/-- one rule's object changes -/
theorem isTr_upd {σ σ' : pm_H} {a k : Nat} {T : Tr} {π : Nat → Nat} {r' : Rl} (h : isTr σ a T π) (hk : k < T.2.length) (hf : fr (pRu (a + 2 + 3 * π k)) σ σ') (hr : isRu σ' (a + 2 + 3 * π k) r') : isTr σ' a (T.1, T.2.set k r') π := by
  obtain ⟨⟨h1, h2, h3, h4, h5⟩, ⟨g1, g2⟩, e1, e2, e3, e4⟩ := h
  have p0 : ¬ pRu (a + 2 + 3 * π k) a := fun q => by have := q.1; omega
  have p1 : ¬ pRu (a + 2 + 3 * π k) (a + 1) := fun q => by have := q.1; omega
  refine ⟨⟨by rw [hf.t, h1], by rw [hf.F p0, h2], by rw [hf.t, h3], by rw [hf.l, h4], fun j hj => ?_⟩, ⟨fun j hj => ⟨(g1 j hj).1, by rw [hf.A p1, (g1 j hj).2]⟩, g2⟩, ?_, by rw [hf.F p0, e2], by rw [List.length_set]; exact e3, fun j r hj => ?_⟩
  · by_cases e : j = π k
    · subst e; exact hr.1
    · exact ruS_fr (h5 j hj) hf (fun q => by have := q.1; have := q.2; omega)
  · rw [hf.F p0, e1, List.length_set]
  · dsimp only at hj
    rw [List.getElem?_set] at hj
    by_cases e : k = j
    · subst e
      rw [if_pos rfl] at hj
      simp only [hk, if_true, Option.some.injEq] at hj
      subst hj
      exact hr
    · rw [if_neg e] at hj
      have hj' := (List.getElem?_eq_some_iff.mp hj).1
      have : π k ≠ π j := fun q => e (g2 k j (by omega) (by omega) q)
      exact isRu_fr (e4 j r hj) hf (fun b hb q => by have := q.1; have := q.2; have := hb.1; have := hb.2; omega)
theorem s_Tr_isFull {σ : pm_H} {a : Nat} {T : Tr} {π : Nat → Nat} (h : isTr σ a T π) : cI 0 97 [.ref a] σ (bI (decide (40 ≤ T.2.length))) := by
  have hl := h.2.2.2.2.1
  refine w_Tr_isFull_0 ?_
  simp only [h.1.1, h.2.2.1, iv_int, true_and, forall_eq]
  refine ⟨fun q => ⟨rfl, ?_, trivial⟩, fun q => ⟨rfl, ?_, trivial⟩⟩
  · rw [oi_ltl ⟨by omega, by decide⟩] at q
    rw [decide_eq_false (by omega)]; rfl
  · rw [oi_ltl ⟨by omega, by decide⟩] at q
    rw [decide_eq_true (by omega)]; rfl
theorem s_Tr_clear {σ : pm_H} {a : Nat} {T : Tr} {π : Nat → Nat} (h : isTr σ a T π) : cV 0 95 [.ref a] σ (fun σ' => isTr σ' a (0, []) π ∧ fr (fun b => b = a) σ σ') := by
  refine w_Tr_clear_0 ?_
  simp only [h.1.1, t_sF, true_and, forall_eq]
  have hf : fr (fun b => b = a) σ (pm_sF (pm_sF σ 901 a (.int 0)) 902 a (.int 0)) := (fr_sF (P := fun b => b = a) rfl).tr (fr_sF (P := fun b => b = a) rfl)
  refine ⟨?_, hf⟩
  obtain ⟨⟨h1, h2, h3, h4, h5⟩, ⟨g1, g2⟩, e1, e2, e3, e4⟩ := h
  refine ⟨⟨h1, ?_, h3, h4, fun k hk => ruS_fr (h5 k hk) hf (by omega)⟩, ⟨fun k hk => ⟨(g1 k hk).1, (g1 k hk).2⟩, g2⟩, ?_, ?_, Nat.zero_le _, fun k r hr => by simp at hr⟩
  · simp only [F_sF, Nat.reduceEqDiff, false_and, if_false, h2]
  · simp only [F_sF, Nat.reduceEqDiff, false_and, if_false, true_and, if_true]; rfl
  · simp only [F_sF, true_and, if_true]; rfl
theorem s_Tr_append {σ : pm_H} {a x y : Nat} {T : Tr} {π : Nat → Nat} (h : isTr σ a T π) (hl : T.2.length < 40) : cRP 2 98 [.ref a, .int (Int32.ofInt x), .int (Int32.ofInt y)] σ (a + 2 + 3 * π T.2.length) (fun σ' => isTr σ' a (T.1, T.2 ++ [(x, y, 0, 0, [])]) π ∧ fr (pTr a) σ σ') := by
  have hb := (h.2.1.1 _ hl).1
  have q6 : ¬ (40 : Int32) ≤ Int32.ofInt (T.2.length) := by rw [oi_lle ⟨by omega, by decide⟩]; omega
  have ei : Int32.ofInt (T.2.length) + 1 - 1 = Int32.ofInt (T.2.length) := Int32.add_sub_cancel _ _
  have qi : vp_in (Int32.ofInt (T.2.length)) 40 := (oi_in (by omega)).mpr (by omega)
  have qc : (Int32.ofInt (T.2.length)).toNatClampNeg = T.2.length := by rw [oi_nc (by omega), nat_tn]
  obtain ⟨⟨h1, h2, h3, h4, h5⟩, ⟨g1, g2⟩, e1, e2, e3, e4⟩ := h
  refine w_Tr_append_0 ?_
  simp only [h1, h2, h3, h4, e1, iv_int, q6, not_false_eq_true, false_implies, true_implies, true_and, forall_eq, t_sF, l_sF, F_sF, A_sF, Nat.reduceEqDiff, false_and, if_false, if_true, isr_ref, rv_ref, ei, qi, qc, (g1 _ hl).2, (h5 _ hb).1]
  have hS : ruS (pm_sF σ 901 a (.int (Int32.ofInt (T.2.length) + 1))) (a + 2 + 3 * π T.2.length) := ruS_fr (P := fun b => b = a) (h5 _ hb) (fr_sF rfl) (by omega)
  refine (s_Ru_begin hS x y).use (Nat.le_refl _) (fun σ' ⟨hr, hf⟩ => ⟨?_, ?_⟩)
  · have hf0 : fr (fun b => b = a) σ (pm_sF σ 901 a (.int (Int32.ofInt (T.2.length) + 1))) := fr_sF (P := fun b => b = a) rfl
    have hf1 : fr (fun b => b = a ∨ pRu (a + 2 + 3 * π T.2.length) b) σ σ' := (hf0.mono (fun b q => Or.inl q)).tr (hf.mono (fun b q => Or.inr q))
    have p0 : ¬ pRu (a + 2 + 3 * π T.2.length) a := fun q => by have := q.1; omega
    have p1 : ¬ (a + 1 = a ∨ pRu (a + 2 + 3 * π T.2.length) (a + 1)) := fun q => by
      rcases q with q | q
      · omega
      · have := q.1; omega
    refine ⟨⟨by rw [hf1.t, h1], ?_, by rw [hf1.t, h3], by rw [hf1.l, h4], fun j hj => ?_⟩, ⟨fun j hj => ⟨(g1 j hj).1, by rw [hf1.A p1, (g1 j hj).2]⟩, g2⟩, ?_, ?_, by simp; omega, fun j r hj => ?_⟩
    · rw [hf.F p0, F_sF, if_neg (by omega), h2]
    · by_cases e : j = π T.2.length
      · subst e; exact hr.1
      · refine ruS_fr (h5 j hj) hf1 (fun q => ?_)
        rcases q with q | q
        · omega
        · have := q.1; have := q.2; omega
    · rw [hf.F p0, F_sF, if_pos ⟨rfl, rfl⟩, iv_int, oi_s]; simp
    · rw [hf.F p0, F_sF, if_neg (by omega), e2]
    · dsimp only at hj
      rw [List.getElem?_append] at hj
      split at hj
      · rename_i hjl
        have : π T.2.length ≠ π j := fun q => by have := g2 _ j hl (by omega) q; omega
        refine isRu_fr (e4 j r hj) hf1 (fun b hb q => ?_)
        have := hb.1
        have := hb.2
        rcases q with q | q
        · omega
        · have := q.1; have := q.2; omega
      · rename_i hjl
        have hz := (List.getElem?_eq_some_iff.mp hj).1
        simp at hz
        have ej : j = T.2.length := by omega
        subst ej
        rw [Nat.sub_self] at hj
        simp at hj
        subst hj
        exact hr
  · refine (fr_sF (P := pTr a) ⟨by omega, by omega⟩).tr (hf.mono (fun b q => ⟨by have := q.1; omega, by have := q.2; omega⟩))
