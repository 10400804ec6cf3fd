/-! ===== the model: writing rules ===== -/
theorem mEqR_sA {σ : pm_H} {m j a i : Nat} {v : Value} (h : (a < m + 3 ∨ m + 9 < a) ∨ (a ≤ m + 7 ∧ i ≠ j) ∨ (m + 8 ≤ a ∧ (i < 6 * j ∨ 6 * j + 6 ≤ i))) : mEqR σ (pm_sA σ a i v) m j := by
  refine ⟨?_, ?_, ?_, ?_, ?_, fun k hk => ⟨?_, ?_⟩⟩
  all_goals rw [A_sA, if_neg (by omega)]
theorem mEq_sA {σ : pm_H} {m sl a i : Nat} {v : Value} (h : (a < m + 1 ∨ m + 9 < a) ∨ (a ≤ m + 2 ∧ i ≠ sl) ∨ (m + 3 ≤ a ∧ a ≤ m + 7 ∧ (i < 40 * sl ∨ 40 * sl + 40 ≤ i)) ∨ (m + 8 ≤ a ∧ (i < 240 * sl ∨ 240 * sl + 240 ≤ i))) : mEq σ (pm_sA σ a i v) m sl := by
  refine ⟨?_, ?_, fun j h1 h2 => mEqR_sA (by omega)⟩
  all_goals rw [A_sA, if_neg (by omega)]
/-- only one row of rules changes -/
def frR (m j : Nat) (σ σ' : pm_H) : Prop := fr (fun b => m + 3 ≤ b ∧ b ≤ m + 9) σ σ' ∧ ∀ j', j' ≠ j → mEqR σ σ' m j'
theorem frR.rf {m j : Nat} {σ : pm_H} : frR m j σ σ := ⟨fr.rf, fun _ _ => mEqR.rf⟩
theorem frR.tr {m j : Nat} {σ σ1 σ2 : pm_H} (h : frR m j σ σ1) (g : frR m j σ1 σ2) : frR m j σ σ2 := ⟨h.1.tr g.1, fun j' hj => (h.2 j' hj).tr (g.2 j' hj)⟩
theorem frR.mS {m j : Nat} {σ σ' : pm_H} (h : frR m j σ σ') (hm : mS σ m) : mS σ' m := mS_fr hm h.1 (by omega)
/-- only the rules of some slots change -/
def frM (m : Nat) (P : Nat → Prop) (σ σ' : pm_H) : Prop := fr (fun b => m + 1 ≤ b ∧ b ≤ m + 9) σ σ' ∧ ∀ sl, ¬ P sl → mEq σ σ' m sl
theorem frM.rf {m : Nat} {P : Nat → Prop} {σ : pm_H} : frM m P σ σ := ⟨fr.rf, fun _ _ => mEq.rf⟩
theorem frM.tr {m : Nat} {P : Nat → Prop} {σ σ1 σ2 : pm_H} (h : frM m P σ σ1) (g : frM m P σ1 σ2) : frM m P σ σ2 := ⟨h.1.tr g.1, fun j' hj => (h.2 j' hj).tr (g.2 j' hj)⟩
theorem frM.mono {m : Nat} {P P' : Nat → Prop} {σ σ1 : pm_H} (h : frM m P σ σ1) (hp : ∀ s, P s → P' s) : frM m P' σ σ1 := ⟨h.1, fun sl hs => h.2 sl (fun q => hs (hp sl q))⟩
theorem frM.mS {m : Nat} {P : Nat → Prop} {σ σ' : pm_H} (h : frM m P σ σ') (hm : mS σ m) : mS σ' m := mS_fr hm h.1 (by omega)
theorem frM.mTr {m sl : Nat} {P : Nat → Prop} {σ σ' : pm_H} {T : Tr} (h : frM m P σ σ') (ht : mTr σ m sl T) (hT : okTr T) (hs : ¬ P sl) : mTr σ' m sl T := mTr_eq ht hT (h.2 sl hs)
theorem frR.M {m sl j : Nat} {σ σ' : pm_H} (h : frR m j σ σ') (h1 : 40 * sl ≤ j) (h2 : j < 40 * sl + 40) : frM m (fun s => s = sl) σ σ' := by
  refine ⟨h.1.mono (fun b q => ⟨by omega, q.2⟩), fun s hs => ⟨h.1.A (by omega), h.1.A (by omega), fun j' q1 q2 => h.2 j' (by omega)⟩⟩
/-- one rule of a slot is another -/
theorem mTr_upd {σ σ' : pm_H} {m sl k : Nat} {T : Tr} {r' : Rl} (h : mTr σ m sl T) (hT : okTr T) (hk : k < T.2.length) (hf : frR m (40 * sl + k) σ σ') (hr : mRu σ' m (40 * sl + k) r') : mTr σ' m sl (T.1, T.2.set k r') := by
  obtain ⟨h1, h2, h3, h4⟩ := h
  refine ⟨by rw [hf.1.A (by omega), h1], by rw [hf.1.A (by omega), h2, List.length_set], by rw [List.length_set]; exact h3, fun j r hj => ?_⟩
  dsimp only at hj
  rw [List.getElem?_set] at hj
  by_cases e : k = j
  · subst e
    rw [if_pos rfl] at hj
    simp only [hk, if_true, Option.some.injEq] at hj
    subst hj
    exact hr
  · rw [if_neg e] at hj
    exact mRu_eq (h4 j r hj) (hT.at hj).2.2.2.1 (hf.2 _ (by omega))
theorem s_M_adds {σ : pm_H} {m j s : Nat} {r : Rl} (hm : mS σ m) (h : mRu σ m j r) (hj : j < 520) (hs : s < 100) : cV 0 172 [.ref m, .int (Int32.ofInt (j : Int)), .int (Int32.ofInt (s : Int))] σ (fun σ' => mRu σ' m j (rG r (addLo (rLo r) s) (addHi (rHi r) s)) ∧ frR m j σ σ') := by
  have qi : vp_in (Int32.ofInt (j : Int)) 520 := (oi_in (by omega)).mpr (by omega)
  have qc : (Int32.ofInt (j : Int)).toNatClampNeg = j := by rw [oi_nc (by omega), nat_tn]
  obtain ⟨h1, h2, h3, h4, h5, h6⟩ := h
  refine w_M_adds_0 ?_
  simp only [hm.1, hm.f6, hm.t6, hm.l6, hm.f5, hm.t5, hm.l5, isr_ref, rv_ref, qi, qc, h3, h4, true_and, forall_eq]
  rw [oi_lle ⟨by omega, by decide⟩]
  unfold addLo addHi
  refine ⟨fun q => ?_, fun q => ?_⟩
  · have e : Int32.ofInt (s : Int) - 64 = Int32.ofInt ((s - 64 : Nat) : Int) := by rw [oi_subl]; congr 1; omega
    rw [e, if_neg (by omega), if_neg (by omega)]
    refine ⟨⟨?_, ?_, ?_, ?_, ?_, fun k t ht => ⟨?_, ?_⟩⟩, fr_sA (by omega), fun j' hj' => mEqR_sA (by omega)⟩
    · rw [A_sA, if_neg (by omega)]; exact h1
    · rw [A_sA, if_neg (by omega)]; exact h2
    · rw [A_sA, if_neg (by omega)]; exact h3
    · rw [A_sA, if_pos ⟨rfl, rfl⟩]; rfl
    · rw [A_sA, if_neg (by omega)]; exact h5
    · rw [A_sA, if_neg (by omega)]; exact (h6 k t ht).1
    · rw [A_sA, if_neg (by omega)]; exact (h6 k t ht).2
  · rw [if_pos (by omega), if_pos (by omega)]
    refine ⟨⟨?_, ?_, ?_, ?_, ?_, fun k t ht => ⟨?_, ?_⟩⟩, fr_sA (by omega), fun j' hj' => mEqR_sA (by omega)⟩
    · rw [A_sA, if_neg (by omega)]; exact h1
    · rw [A_sA, if_neg (by omega)]; exact h2
    · rw [A_sA, if_pos ⟨rfl, rfl⟩]; rfl
    · rw [A_sA, if_neg (by omega)]; exact h4
    · rw [A_sA, if_neg (by omega)]; exact h5
    · rw [A_sA, if_neg (by omega)]; exact (h6 k t ht).1
    · rw [A_sA, if_neg (by omega)]; exact (h6 k t ht).2
theorem oi_row (sl k : Nat) : (40 : Int32) * Int32.ofInt (sl : Int) + Int32.ofInt (k : Int) = Int32.ofInt ((40 * sl + k : Nat) : Int) := by
  rw [oi_lmul, oi_add]; congr 1
theorem oi_row6 (sl k : Nat) : (6 : Int32) * Int32.ofInt (sl : Int) + Int32.ofInt (k : Int) = Int32.ofInt ((6 * sl + k : Nat) : Int) := by
  rw [oi_lmul, oi_add]; congr 1
theorem vi {n : Nat} {N : Nat} (h : n < N) (hN : N < 2000000) : vp_in (Int32.ofInt (n : Int)) N := (oi_in (by omega)).mpr (by omega)
theorem vc {n : Nat} (h : n < 2000000) : (Int32.ofInt (n : Int)).toNatClampNeg = n := by rw [oi_nc (by omega), nat_tn]
theorem s_M_opens {σ : pm_H} {m sl x y : Nat} {T : Tr} (hm : mS σ m) (h : mTr σ m sl T) (hT : okTr T) (hsl : sl < 13) (hl : T.2.length < 40) : cIP 0 179 [.ref m, .int (Int32.ofInt (sl : Int)), .int (Int32.ofInt (x : Int)), .int (Int32.ofInt (y : Int))] σ (Int32.ofInt ((40 * sl + T.2.length : Nat) : Int)) (fun σ' => mTr σ' m sl (T.1, T.2 ++ [(x, y, 0, 0, [])]) ∧ frM m (fun s => s = sl) σ σ') := by
  obtain ⟨h1, h2, h3, h4⟩ := h
  have qi := vi hsl (by omega)
  have qc := vc (show sl < 2000000 by omega)
  have qj := vi (show 40 * sl + T.2.length < 520 by omega) (by omega)
  have qd := vc (show 40 * sl + T.2.length < 2000000 by omega)
  refine w_M_opens_0 ?_
  simp only [hm.1, hm.f2, hm.t2, hm.l2, hm.f3, hm.t3, hm.l3, hm.f4, hm.t4, hm.l4, hm.f5, hm.t5, hm.l5, hm.f6, hm.t6, hm.l6, hm.f7, hm.t7, hm.l7, isr_ref, rv_ref, qi, qc, h2, oi_row, qj, qd, true_and, forall_eq, t_sA, l_sA, F_sA]
  have e2 : ∀ v w x y z, pm_A (pm_sA (pm_sA (pm_sA (pm_sA (pm_sA σ (m + 3) (40 * sl + T.2.length) v) (m + 4) (40 * sl + T.2.length) w) (m + 5) (40 * sl + T.2.length) x) (m + 6) (40 * sl + T.2.length) y) (m + 7) (40 * sl + T.2.length) z) (m + 2) sl = pm_A σ (m + 2) sl := by
    intro v w x y z
    iterate 5 rw [A_sA, if_neg (by omega)]
  rw [e2, h2, oi_s]
  refine ⟨⟨?_, ?_, ?_, fun k r hk => ?_⟩, ?_, fun s hs => ?_⟩
  · iterate 6 rw [A_sA, if_neg (by omega)]
    exact h1
  · rw [A_sA, if_pos ⟨rfl, rfl⟩]; simp [iv]
  · simp; omega
  · dsimp only at hk
    rw [List.getElem?_append] at hk
    split at hk
    · rename_i hjl
      refine mRu_eq (h4 k r hk) (hT.at hk).2.2.2.1 ?_
      refine (((((mEqR_sA (by omega)).tr (mEqR_sA (by omega))).tr (mEqR_sA (by omega))).tr (mEqR_sA (by omega))).tr (mEqR_sA (by omega))).tr (mEqR_sA (by omega))
    · rename_i hjl
      have hz := (List.getElem?_eq_some_iff.mp hk).1
      simp at hz
      have ej : k = T.2.length := by omega
      subst ej
      rw [Nat.sub_self] at hk
      simp at hk
      subst hk
      refine ⟨?_, ?_, ?_, ?_, ?_, fun k t ht => by simp [rTs] at ht⟩
      · iterate 5 rw [A_sA, if_neg (by omega)]
        rw [A_sA, if_pos ⟨rfl, rfl⟩]; rfl
      · iterate 4 rw [A_sA, if_neg (by omega)]
        rw [A_sA, if_pos ⟨rfl, rfl⟩]; rfl
      · iterate 3 rw [A_sA, if_neg (by omega)]
        rw [A_sA, if_pos ⟨rfl, rfl⟩]; rfl
      · iterate 2 rw [A_sA, if_neg (by omega)]
        rw [A_sA, if_pos ⟨rfl, rfl⟩]; rfl
      · iterate 1 rw [A_sA, if_neg (by omega)]
        rw [A_sA, if_pos ⟨rfl, rfl⟩]; rfl
  · exact (((((fr_sA (P := fun b => m + 1 ≤ b ∧ b ≤ m + 9) (by omega)).tr (fr_sA (by omega))).tr (fr_sA (by omega))).tr (fr_sA (by omega))).tr (fr_sA (by omega))).tr (fr_sA (by omega))
  · exact (((((mEq_sA (by omega)).tr (mEq_sA (by omega))).tr (mEq_sA (by omega))).tr (mEq_sA (by omega))).tr (mEq_sA (by omega))).tr (mEq_sA (by omega))
