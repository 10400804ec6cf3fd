/-! ===== rules: copying, appending, asking ===== -/
theorem i32_00 : ¬ ((0 : Int32) < 0) := by decide
theorem i32_60 : ¬ ((6 : Int32) < 0) := by decide
theorem i32_c0 : (0 : Int32).toNatClampNeg = 0 := by decide
theorem i32_c6 : (6 : Int32).toNatClampNeg = 6 := by decide
theorem nat_tn (n : Nat) : ((n : Int)).toNat = n := Int.toNat_natCast n
theorem oi_max {a b : Int} (h : (-2147483648 ≤ a ∧ a < 2147483648) ∧ (-2147483648 ≤ b ∧ b < 2147483648)) : (if Int32.ofInt a < Int32.ofInt b then Int32.ofInt b else Int32.ofInt a) = Int32.ofInt (if a < b then b else a) := by
  simp only [oi_lt h]; split <;> rfl
theorem oi_min {a b : Int} (h : (-2147483648 ≤ a ∧ a < 2147483648) ∧ (-2147483648 ≤ b ∧ b < 2147483648)) : (if Int32.ofInt b < Int32.ofInt a then Int32.ofInt b else Int32.ofInt a) = Int32.ofInt (if b < a then b else a) := by
  simp only [oi_lt ⟨h.2, h.1⟩]; split <;> rfl
theorem s_Ru_copyFrom {σ : pm_H} {ρ ρ' : Nat} {r : Rl} (h : ruS σ ρ) (h' : isRu σ ρ' r) (hl : (rTs r).length ≤ 6) : cV 1 60 [.ref ρ, .ref ρ'] σ (fun σ' => isRu σ' ρ r ∧ fr (pRu ρ) σ σ') := by
  obtain ⟨h1, h2, h3, h4, h5, h6⟩ := h
  obtain ⟨⟨k1, k2, k3, k4, k5, k6⟩, g1, g2, g3, g4, g5, g6, g7, g8⟩ := h'
  refine w_Ru_copyFrom_0 ?_
  simp only [h1, h2, h4, k1, k2, g1, g2, iv_int, t_sF, F_sF, forall_eq, true_and, Nat.reduceEqDiff, false_and, if_false, isr_ref, rv_ref]
  refine (s_copyFrom (lo := rLo r) (hi := rHi r) (by exact h4) ⟨by exact k4, by simp only [F_sF, Nat.reduceEqDiff, false_and, if_false, g6], by simp only [F_sF, Nat.reduceEqDiff, false_and, if_false, g7]⟩).use (Nat.le_refl _) (fun σ' e => ?_)
  subst e
  simp only [uSy, h1, k1, h3, k3, h5, k5, h6, k6, g3, g4, g5, iv_int, t_sF, l_sF, F_sF, t_cp, F_cp, forall_eq, true_and, and_true, Nat.reduceEqDiff, false_and, if_false, isr_ref, rv_ref, i32_00, i32_60, i32_c0, i32_c6, not_false_eq_true, Nat.zero_add, Nat.le_refl]
  refine ⟨⟨⟨h1, ?_, ?_, h4, h5, h6⟩, ?_⟩, ?_⟩
  · simp only [F_sF, F_cp, Nat.reduceEqDiff, false_and, if_false, h2]
  · simp only [F_sF, F_cp, Nat.reduceEqDiff, false_and, if_false, h3]
  · refine ⟨?_, ?_, ?_, ?_, ?_, ?_, ?_, fun k t ht => ?_⟩
    · simp only [F_sF, F_cp, Nat.reduceEqDiff, false_and, if_false, true_and, if_true]
    · simp only [F_sF, F_cp, Nat.reduceEqDiff, false_and, if_false, true_and, if_true]
    · simp only [F_sF, F_cp, Nat.reduceEqDiff, false_and, if_false, true_and, if_true]
    · simp only [F_sF, F_cp, Nat.reduceEqDiff, false_and, if_false, true_and, if_true]
    · simp only [F_sF, F_cp, Nat.reduceEqDiff, false_and, if_false, true_and, if_true]
    · simp only [F_sF, F_cp, Nat.reduceEqDiff, false_and, if_false, true_and, if_true]
    · simp only [F_sF, F_cp, Nat.reduceEqDiff, false_and, if_false, true_and, if_true]
    · have hk : k < (rTs r).length := (List.getElem?_eq_some_iff.mp ht).1
      simp only [A_sF, A_cp, Nat.zero_le, true_and, Nat.zero_add, Nat.sub_zero]
      rw [if_pos (by omega)]
      exact g8 k t ht
  · have p0 : pRu ρ ρ := ⟨by omega, by omega⟩
    have p1 : pRu ρ (ρ + 1) := ⟨by omega, by omega⟩
    have p2 : pRu ρ (ρ + 2) := ⟨by omega, by omega⟩
    exact ((((((fr_sF p0).tr (fr_sF p0)).tr (fr_sF p1)).tr (fr_sF p1)).tr (fr_cp p2)).tr (fr_sF p0)).tr ((fr_sF p0).tr (fr_sF p0))
/-- a rule with one term more -/
def rApp (r : Rl) (t : Nat) : Rl := (rF r, rT r, rLo r, rHi r, rTs r ++ [t])
theorem getElem?_app1 {l : List Nat} {x y : Nat} {k : Nat} (h : (l ++ [x])[k]? = some y) : l[k]? = some y ∨ (k = l.length ∧ y = x) := by
  rw [List.getElem?_append] at h
  split at h
  · exact Or.inl h
  · rename_i hk
    right
    have : k - l.length = 0 := by
      have := (List.getElem?_eq_some_iff.mp h).1
      simp at this
      omega
    rw [this] at h
    simp at h
    exact ⟨by omega, h.symm⟩
theorem oi_negs (a : Int) : -(Int32.ofInt a) = Int32.ofInt (-a) := (Int32.ofInt_neg a).symm
theorem x1000 (t : Int) : -(Int32.ofInt t - 1000) = Int32.ofInt (1000 - t) := by rw [oi_subl, oi_negs]; congr 1; omega
theorem x1099 (t : Int) : (99 : Int32) - (Int32.ofInt t - 1000) = Int32.ofInt (1099 - t) := by rw [oi_subl, oi_lsub]; congr 1; omega
theorem s_Ru_append {σ : pm_H} {ρ t : Nat} {r : Rl} (h : isRu σ ρ r) (hl : (rTs r).length < 6) (ht : t < 100000) (hts : ∀ t, t ∈ rTs r → t < 100000) : cV 1 61 [.ref ρ, .int (Int32.ofInt t)] σ (fun σ' => isRu σ' ρ (rApp r t) ∧ fr (pRu ρ) σ σ') := by
  obtain ⟨⟨h1, h2, h3, h4, h5, h6⟩, g1, g2, g3, g4, g5, g6, g7, g8⟩ := h
  have q6 : Int32.ofInt ((rTs r).length) < 6 := (oi_ltl ⟨by omega, by decide⟩).mpr (by omega)
  have qi : vp_in (Int32.ofInt ((rTs r).length)) 6 := (oi_in (by omega)).mpr (by omega)
  have qc : (Int32.ofInt ((rTs r).length)).toNatClampNeg = (rTs r).length := by rw [oi_nc (by omega), nat_tn]
  have p0 : pRu ρ ρ := ⟨by omega, by omega⟩
  have p2 : pRu ρ (ρ + 2) := ⟨by omega, by omega⟩
  have l1 := tLo_0 (rTs r)
  have l2 := tLo_le hts
  have l3 := tHi_99 (rTs r)
  have l4 := tHi_ge hts
  have el : (((rTs r ++ [t]).length : Nat) : Int) = ((rTs r).length : Int) + 1 := by simp
  refine w_Ru_append_0 ?_
  simp only [h1, g3, iv_int, q6, not_true_eq_false, false_implies, true_implies, and_true, h3, isr_ref, rv_ref, h5, h6, qi, qc, t_sA, F_sA, true_and, forall_eq, t_sF, F_sF, g4, g5, Nat.reduceEqDiff, false_and, if_false]
  refine (s_offT (by omega)).use (Nat.le_refl _) ⟨fun e => ?_, fun e => ?_⟩
  · have e := of_decide_eq_false (bI_0.mp e)
    have et : t < 100 := by omega
    refine ⟨⟨⟨h1, ?_, ?_, h4, h5, h6⟩, ?_⟩, (fr_sA p2).tr (fr_sF p0)⟩
    · simp only [F_sF, F_sA, Nat.reduceEqDiff, false_and, if_false, h2]
    · simp only [F_sF, F_sA, Nat.reduceEqDiff, false_and, if_false, h3]
    · refine ⟨?_, ?_, ?_, ?_, ?_, ?_, ?_, fun k t' ht' => ?_⟩
      · simp only [F_sF, F_sA, Nat.reduceEqDiff, false_and, if_false]; exact g1
      · simp only [F_sF, F_sA, Nat.reduceEqDiff, false_and, if_false]; exact g2
      · simp only [F_sF, F_sA, true_and, if_true, rApp, rTs, oi_addl]; simp [rTs]
      · simp only [F_sF, F_sA, Nat.reduceEqDiff, false_and, if_false, g4]
        have : tLo (rTs (rApp r t)) = tLo (rTs r) := (tLo_app (rTs r) t).trans (if_pos et)
        rw [this]
      · simp only [F_sF, F_sA, Nat.reduceEqDiff, false_and, if_false, g5]
        have : tHi (rTs (rApp r t)) = tHi (rTs r) := (tHi_app (rTs r) t).trans (if_pos et)
        rw [this]
      · simp only [F_sF, F_sA, Nat.reduceEqDiff, false_and, if_false]; exact g6
      · simp only [F_sF, F_sA, Nat.reduceEqDiff, false_and, if_false]; exact g7
      · simp only [A_sF, A_sA, true_and]
        rcases getElem?_app1 ht' with q | ⟨rfl, rfl⟩
        · have := (List.getElem?_eq_some_iff.mp q).1
          rw [if_neg (by omega)]
          exact g8 k t' q
        · rw [if_pos rfl]
  · have e := of_decide_eq_true (bI_1.mp e)
    have et : ¬ t < 100 := by omega
    have v1 : (if Int32.ofInt (tLo (rTs r)) < -(Int32.ofInt (t : Int) - 1000) then -(Int32.ofInt (t : Int) - 1000) else Int32.ofInt (tLo (rTs r))) = Int32.ofInt (tLo (rTs (rApp r t))) := by
      rw [x1000]
      by_cases hc : tLo (rTs r) < 1000 - (t : Int)
      · rw [if_pos ((oi_lt (by omega)).mpr hc), show tLo (rTs (rApp r t)) = 1000 - (t : Int) from (tLo_app (rTs r) t).trans ((if_neg et).trans (if_pos hc))]
      · rw [if_neg (fun q => hc ((oi_lt (by omega)).mp q)), show tLo (rTs (rApp r t)) = tLo (rTs r) from (tLo_app (rTs r) t).trans ((if_neg et).trans (if_neg hc))]
    have v2 : (if (99 : Int32) - (Int32.ofInt (t : Int) - 1000) < Int32.ofInt (tHi (rTs r)) then (99 : Int32) - (Int32.ofInt (t : Int) - 1000) else Int32.ofInt (tHi (rTs r))) = Int32.ofInt (tHi (rTs (rApp r t))) := by
      rw [x1099]
      by_cases hc : 1099 - (t : Int) < tHi (rTs r)
      · rw [if_pos ((oi_lt (by omega)).mpr hc), show tHi (rTs (rApp r t)) = 1099 - (t : Int) from (tHi_app (rTs r) t).trans ((if_neg et).trans (if_pos hc))]
      · rw [if_neg (fun q => hc ((oi_lt (by omega)).mp q)), show tHi (rTs (rApp r t)) = tHi (rTs r) from (tHi_app (rTs r) t).trans ((if_neg et).trans (if_neg hc))]
    simp only [h1, true_and, F_sF, F_sA, Nat.reduceEqDiff, false_and, if_false, g4, g5, iv_int, t_sF, t_sA, forall_eq, v1, v2]
    refine ⟨⟨⟨h1, ?_, ?_, h4, h5, h6⟩, ?_⟩, (((fr_sA p2).tr (fr_sF p0)).tr (fr_sF p0)).tr (fr_sF p0)⟩
    · simp only [F_sF, F_sA, Nat.reduceEqDiff, false_and, if_false, h2]
    · simp only [F_sF, F_sA, Nat.reduceEqDiff, false_and, if_false, h3]
    · refine ⟨?_, ?_, ?_, ?_, ?_, ?_, ?_, fun k t' ht' => ?_⟩
      · simp only [F_sF, F_sA, Nat.reduceEqDiff, false_and, if_false]; exact g1
      · simp only [F_sF, F_sA, Nat.reduceEqDiff, false_and, if_false]; exact g2
      · simp only [F_sF, F_sA, Nat.reduceEqDiff, false_and, if_false, true_and, if_true, rApp, rTs, oi_addl]; simp [rTs]
      · simp only [F_sF, F_sA, Nat.reduceEqDiff, false_and, if_false, true_and, if_true]
      · simp only [F_sF, F_sA, Nat.reduceEqDiff, false_and, if_false, true_and, if_true]
      · simp only [F_sF, F_sA, Nat.reduceEqDiff, false_and, if_false]; exact g6
      · simp only [F_sF, F_sA, Nat.reduceEqDiff, false_and, if_false]; exact g7
      · simp only [A_sF, A_sA, true_and]
        rcases getElem?_app1 ht' with q | ⟨rfl, rfl⟩
        · have := (List.getElem?_eq_some_iff.mp q).1
          rw [if_neg (by omega)]
          exact g8 k t' q
        · rw [if_pos rfl]
theorem s_Ru_valueAt {σ : pm_H} {ρ k t : Nat} {s : Int} {r : Rl} (h : isRu σ ρ r) (hl : (rTs r).length ≤ 6) (hk : (rTs r)[k]? = some t) (ht : t < 100000) (hs : -100000 < s ∧ s < 100000) : cI 1 62 [.ref ρ, .int (Int32.ofInt k), .int (Int32.ofInt s)] σ (Int32.ofInt (val t s)) := by
  have hk' := (List.getElem?_eq_some_iff.mp hk).1
  have qi : vp_in (Int32.ofInt (k : Int)) 6 := (oi_in (by omega)).mpr (by omega)
  have qc : (Int32.ofInt (k : Int)).toNatClampNeg = k := by rw [oi_nc (by omega), nat_tn]
  obtain ⟨⟨h1, h2, h3, h4, h5, h6⟩, g1, g2, g3, g4, g5, g6, g7, g8⟩ := h
  refine w_Ru_valueAt_0 ?_
  simp only [h1, h3, h5, h6, isr_ref, rv_ref, qi, qc, g8 k t hk, iv_int, true_and, forall_eq]
  refine (s_offT (by omega)).use (Nat.le_refl _) ?_
  simp only [h1, h3, h5, h6, isr_ref, rv_ref, qi, qc, g8 k t hk, iv_int, true_and, and_true, forall_eq]
  refine ⟨fun e => ?_, fun e => ?_⟩
  · have e := of_decide_eq_false (bI_0.mp e)
    unfold val; rw [if_pos (by omega)]
  · have e := of_decide_eq_true (bI_1.mp e)
    unfold val; rw [if_neg (by omega), oi_add, oi_subl]
theorem s_has' {σ : pm_H} {g : Nat} {lo hi : Int64} (h : aSy σ g lo hi) {s : Nat} (hs : s < 100) : cI 0 83 [.ref g, .int (Int32.ofInt s)] σ (bI (sy lo hi s)) := by
  have := s_has h hs
  rw [oi_nat] at this
  exact this
theorem s_Ru_isEnabled {σ : pm_H} {ρ s : Nat} {r : Rl} (h : isRu σ ρ r) (hts : ∀ t, t ∈ rTs r → t < 100000) (hs : s < 100) : cI 1 63 [.ref ρ, .int (Int32.ofInt s)] σ (bI (en r s)) := by
  have l1 := tLo_0 (rTs r)
  have l2 := tLo_le hts
  have l3 := tHi_99 (rTs r)
  have l4 := tHi_ge hts
  have hg := h.g
  have he := en_iff (r := r) hs
  obtain ⟨⟨h1, h2, h3, h4, h5, h6⟩, g1, g2, g3, g4, g5, g6, g7, g8⟩ := h
  have ef : ∀ b : Bool, (b = true ↔ False) → b = false := fun b hb => by cases b; rfl; exact (hb.mp rfl).elim
  refine w_Ru_isEnabled_0 ?_
  simp only [h1, h2, h4, g4, g5, iv_int, isr_ref, rv_ref, true_and, forall_eq]
  refine ⟨fun q => ⟨rfl, ?_, trivial⟩, fun q => ⟨fun q2 => ⟨rfl, ?_, trivial⟩, fun q2 => ?_⟩⟩
  · rw [oi_lt (by omega)] at q
    rw [ef (en r s) (by rw [he]; exact ⟨fun ⟨⟨_, _⟩, _⟩ => by omega, False.elim⟩)]
    rfl
  · rw [oi_lt (by omega)] at q2
    rw [ef (en r s) (by rw [he]; exact ⟨fun ⟨⟨_, _⟩, _⟩ => by omega, False.elim⟩)]
    rfl
  · rw [oi_lt (by omega)] at q q2
    have ee : en r s = sy (rLo r) (rHi r) s := by
      rw [Bool.eq_iff_iff, he]
      constructor
      · exact fun x => x.2
      · exact fun x => ⟨⟨by omega, by omega⟩, x⟩
    rw [ee]
    refine (s_has' hg hs).use (Nat.le_refl _) ⟨fun e => ⟨rfl, ?_, rfl⟩, fun e => ⟨rfl, ?_, rfl⟩⟩
    · rw [bI_0.mp e]; rfl
    · rw [bI_1.mp e]; rfl
