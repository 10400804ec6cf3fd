/-! ===== the model: rules ===== -/
def tv (t : Nat) : Int := if t < 100 then t else (t : Int) - 1000
def mRu (σ : pm_H) (m j : Nat) (r : Rl) : Prop := iv (pm_A σ (m + 3) j) = Int32.ofInt (rF r) ∧ iv (pm_A σ (m + 4) j) = Int32.ofInt (rT r) ∧ jv (pm_A σ (m + 5) j) = rLo r ∧ jv (pm_A σ (m + 6) j) = rHi r ∧ iv (pm_A σ (m + 7) j) = Int32.ofInt ((rTs r).length) ∧ ∀ (k t : Nat), (rTs r)[k]? = some t → iv (pm_A σ (m + 8) (6 * j + k)) = Int32.ofInt (tv t) ∧ iv (pm_A σ (m + 9) (6 * j + k)) = bI (decide (100 ≤ t))
def mTr (σ : pm_H) (m sl : Nat) (T : Tr) : Prop := iv (pm_A σ (m + 1) sl) = Int32.ofInt T.1 ∧ iv (pm_A σ (m + 2) sl) = Int32.ofInt T.2.length ∧ T.2.length ≤ 40 ∧ ∀ (k : Nat) (r : Rl), T.2[k]? = some r → mRu σ m (40 * sl + k) r
def mEqR (σ σ' : pm_H) (m j : Nat) : Prop := pm_A σ' (m + 3) j = pm_A σ (m + 3) j ∧ pm_A σ' (m + 4) j = pm_A σ (m + 4) j ∧ pm_A σ' (m + 5) j = pm_A σ (m + 5) j ∧ pm_A σ' (m + 6) j = pm_A σ (m + 6) j ∧ pm_A σ' (m + 7) j = pm_A σ (m + 7) j ∧ ∀ k, k < 6 → pm_A σ' (m + 8) (6 * j + k) = pm_A σ (m + 8) (6 * j + k) ∧ pm_A σ' (m + 9) (6 * j + k) = pm_A σ (m + 9) (6 * j + k)
def mEq (σ σ' : pm_H) (m sl : Nat) : Prop := pm_A σ' (m + 1) sl = pm_A σ (m + 1) sl ∧ pm_A σ' (m + 2) sl = pm_A σ (m + 2) sl ∧ ∀ j, 40 * sl ≤ j → j < 40 * sl + 40 → mEqR σ σ' m j
theorem mEqR.rf {σ : pm_H} {m j : Nat} : mEqR σ σ m j := ⟨rfl, rfl, rfl, rfl, rfl, fun _ _ => ⟨rfl, rfl⟩⟩
theorem mEqR.tr {σ σ1 σ2 : pm_H} {m j : Nat} (h : mEqR σ σ1 m j) (g : mEqR σ1 σ2 m j) : mEqR σ σ2 m j := by
  obtain ⟨h1, h2, h3, h4, h5, h6⟩ := h
  obtain ⟨g1, g2, g3, g4, g5, g6⟩ := g
  exact ⟨g1.trans h1, g2.trans h2, g3.trans h3, g4.trans h4, g5.trans h5, fun k hk => ⟨(g6 k hk).1.trans (h6 k hk).1, (g6 k hk).2.trans (h6 k hk).2⟩⟩
theorem mEq.rf {σ : pm_H} {m sl : Nat} : mEq σ σ m sl := ⟨rfl, rfl, fun _ _ _ => mEqR.rf⟩
theorem mEq.tr {σ σ1 σ2 : pm_H} {m sl : Nat} (h : mEq σ σ1 m sl) (g : mEq σ1 σ2 m sl) : mEq σ σ2 m sl :=
  ⟨g.1.trans h.1, g.2.1.trans h.2.1, fun j h1 h2 => (h.2.2 j h1 h2).tr (g.2.2 j h1 h2)⟩
theorem mRu_eq {σ σ' : pm_H} {m j : Nat} {r : Rl} (h : mRu σ m j r) (hl : (rTs r).length ≤ 6) (e : mEqR σ σ' m j) : mRu σ' m j r := by
  obtain ⟨h1, h2, h3, h4, h5, h6⟩ := h
  obtain ⟨e1, e2, e3, e4, e5, e6⟩ := e
  refine ⟨by rw [e1, h1], by rw [e2, h2], by rw [e3, h3], by rw [e4, h4], by rw [e5, h5], fun k t ht => ?_⟩
  have hk := (List.getElem?_eq_some_iff.mp ht).1
  rw [(e6 k (by omega)).1, (e6 k (by omega)).2]
  exact h6 k t ht
theorem mTr_eq {σ σ' : pm_H} {m sl : Nat} {T : Tr} (h : mTr σ m sl T) (hT : okTr T) (e : mEq σ σ' m sl) : mTr σ' m sl T := by
  obtain ⟨h1, h2, h3, h4⟩ := h
  refine ⟨by rw [e.1, h1], by rw [e.2.1, h2], h3, fun k r hr => ?_⟩
  have hk := (List.getElem?_eq_some_iff.mp hr).1
  exact mRu_eq (h4 k r hr) (hT.at hr).2.2.2.1 (e.2.2 _ (by omega) (by omega))
/-- outside the rows of rules nothing changes -/
theorem mEq_fr {P : Nat → Prop} {σ σ' : pm_H} {m sl : Nat} (hf : fr P σ σ') (hp : ∀ b, m + 1 ≤ b → b ≤ m + 9 → ¬ P b) : mEq σ σ' m sl := by
  refine ⟨hf.A (hp _ (by omega) (by omega)), hf.A (hp _ (by omega) (by omega)), fun j _ _ => ⟨?_, ?_, ?_, ?_, ?_, fun k _ => ⟨?_, ?_⟩⟩⟩
  all_goals exact hf.A (hp _ (by omega) (by omega))
/-! bits of longs, as the model asks for them -/
theorem bt_sr {a : Nat} (ha : a < 64) (x : Int64) : bt (x >>> ((Int32.ofInt (a : Int)).toInt64 &&& 63)) 0 = bt x a := by
  have e : ∀ a : Nat, a < 64 → (((Int32.ofInt (a : Int)).toInt64 &&& 63).toBitVec.smod 64).toNat = a := by decide +kernel
  have e := e a ha
  generalize ((Int32.ofInt (a : Int)).toInt64 &&& 63) = w at *
  unfold bt
  rw [Int64.toBitVec_shiftRight, BitVec.sshiftRight_eq', e, BitVec.getLsbD_sshiftRight]
  simp [ha]
theorem gd_bit {a : Nat} (ha : a < 64) (x : Int64) : lg_cmp ((x >>> ((Int32.ofInt (a : Int)).toInt64 &&& 63)) &&& 1) 1 = 0 ↔ bt x a = true := by
  rw [lg0]
  have h0 := bt_sr ha x
  constructor
  · intro h
    have h2 := congrArg (fun z => bt z 0) h
    simp only [bt_and, h0, bt_one 0 (by decide), decide_true, Bool.and_true] at h2
    exact h2
  · intro h
    refine bt_ext (fun j hj => ?_)
    rw [bt_and, bt_one j hj]
    by_cases h1 : j = 0
    · subst h1; rw [h0, h]; rfl
    · simp [h1]
def bitL (s : Nat) : Int64 := (1 : Int64) <<< ((Int32.ofInt (s : Int)).toInt64 &&& 63)
theorem bt_bitL : ∀ a : Nat, a < 64 → ∀ j : Nat, j < 64 → bt (bitL a) j = decide (j = a) := by decide +kernel
def addLo (lo : Int64) (s : Nat) : Int64 := if s < 64 then lo ||| bitL s else lo
def addHi (hi : Int64) (s : Nat) : Int64 := if s < 64 then hi else hi ||| bitL (s - 64)
theorem sy_add {lo hi : Int64} {s t : Nat} (hs : s < 100) (ht : t < 100) : sy (addLo lo s) (addHi hi s) t = (sy lo hi t || decide (t = s)) := by
  unfold sy addLo addHi
  by_cases h1 : s < 64
  · rw [if_pos h1, if_pos h1]
    split
    · rw [bt_or, bt_bitL s h1 t (by omega)]
    · rw [decide_eq_false (by omega), Bool.or_false]
  · rw [if_neg h1, if_neg h1]
    split
    · rw [decide_eq_false (by omega), Bool.or_false]
    · rw [bt_or, bt_bitL (s - 64) (by omega) (t - 64) (by omega)]
      congr 1
      rw [decide_eq_decide]; omega
theorem okG_add {hi : Int64} {s : Nat} (h : okG hi) (hs : s < 100) : okG (addHi hi s) := by
  intro j hj
  unfold addHi
  split
  · exact h j hj
  · rw [bt_or, h j hj]
    by_cases h64 : j < 64
    · rw [bt_bitL (s - 64) (by omega) j h64, decide_eq_false (by omega)]; rfl
    · rw [bt_ge _ (by omega)]; rfl
theorem s_M_in {σ : pm_H} {v a b : Int} (hv : -2147483648 ≤ v ∧ v < 2147483648) (ha : -2147483648 ≤ a ∧ a < 2147483648) (hb : -2147483648 ≤ b ∧ b < 2147483648) : cI 0 163 [.int (Int32.ofInt v), .int (Int32.ofInt a), .int (Int32.ofInt b)] σ (bI (decide (a ≤ v ∧ v ≤ b))) := by
  refine w_M_in_0 ⟨fun q => ⟨rfl, ?_, rfl⟩, fun q => ⟨fun q2 => ⟨rfl, ?_, rfl⟩, fun q2 => ⟨rfl, ?_, rfl⟩⟩⟩
  · rw [oi_lt ⟨hv, ha⟩] at q
    rw [decide_eq_false (by omega)]; rfl
  · rw [oi_lt ⟨hb, hv⟩] at q2
    rw [decide_eq_false (by omega)]; rfl
  · rw [oi_lt ⟨hv, ha⟩] at q
    rw [oi_lt ⟨hb, hv⟩] at q2
    rw [decide_eq_true (by omega)]; rfl
theorem s_M_isSymbol {σ : pm_H} {v : Int} (hv : -2147483648 ≤ v ∧ v < 2147483648) : cI 1 166 [.int (Int32.ofInt v)] σ (bI (decide (0 ≤ v ∧ v < 100))) := by
  refine w_M_isSymbol_0 ((s_M_in (a := 0) (b := 99) hv (by omega) (by omega)).use (Nat.le_refl _) ⟨bI_and _, ?_, rfl⟩)
  congr 4
  rw [decide_eq_decide]; omega
theorem s_M_guards {σ : pm_H} {m j s : Nat} {r : Rl} (hm : mS σ m) (h : mRu σ m j r) (hj : j < 520) (hs : s < 100) : cI 0 171 [.ref m, .int (Int32.ofInt (j : Int)), .int (Int32.ofInt (s : Int))] σ (bI (sy (rLo r) (rHi r) s)) := by
  have qi : vp_in (Int32.ofInt (j : Int)) 520 := (oi_in (by omega)).mpr (by omega)
  have qc : (Int32.ofInt (j : Int)).toNatClampNeg = j := by rw [oi_nc (by omega), nat_tn]
  obtain ⟨h1, h2, h3, h4, h5, h6⟩ := h
  refine w_M_guards_0 ?_
  simp only [hm.1, hm.f6, hm.t6, hm.l6, hm.f5, hm.t5, hm.l5, isr_ref, rv_ref, qi, qc, h3, h4, true_and, forall_eq]
  rw [oi_lle ⟨by omega, by decide⟩]
  unfold sy
  refine ⟨fun q => ?_, fun q => ?_⟩
  · have e : Int32.ofInt (s : Int) - 64 = Int32.ofInt ((s - 64 : Nat) : Int) := by rw [oi_subl]; congr 1; omega
    rw [e, gd_bit (by omega), if_neg (by omega)]
    cases bt (rHi r) (s - 64)
    · exact ⟨fun q => Bool.noConfusion q, fun _ => ⟨rfl, rfl, trivial⟩⟩
    · exact ⟨fun _ => ⟨rfl, rfl, trivial⟩, fun q => absurd rfl q⟩
  · rw [gd_bit (by omega), if_pos (by omega)]
    cases bt (rLo r) s
    · exact ⟨fun q => Bool.noConfusion q, fun _ => ⟨rfl, rfl, trivial⟩⟩
    · exact ⟨fun _ => ⟨rfl, rfl, trivial⟩, fun q => absurd rfl q⟩
theorem tv_val (t : Nat) (s : Int) : val t s = if 100 ≤ t then s + tv t else tv t := by
  unfold val tv
  by_cases h : t < 100
  · rw [if_pos h, if_neg (by omega), if_pos h]
  · rw [if_neg h, if_pos (by omega), if_neg h]; omega
theorem s_M_value {σ : pm_H} {m j k t : Nat} {s : Int} {r : Rl} (hm : mS σ m) (h : mRu σ m j r) (hj : j < 520) (hl : (rTs r).length ≤ 6) (hk : (rTs r)[k]? = some t) : cI 0 173 [.ref m, .int (Int32.ofInt (j : Int)), .int (Int32.ofInt (k : Int)), .int (Int32.ofInt s)] σ (Int32.ofInt (val t s)) := by
  have hk' := (List.getElem?_eq_some_iff.mp hk).1
  have e : (6 : Int32) * Int32.ofInt (j : Int) + Int32.ofInt (k : Int) = Int32.ofInt ((6 * j + k : Nat) : Int) := by rw [oi_lmul, oi_add]; congr 1
  have qi : vp_in (Int32.ofInt ((6 * j + k : Nat) : Int)) 3120 := (oi_in (by omega)).mpr (by omega)
  have qc : (Int32.ofInt ((6 * j + k : Nat) : Int)).toNatClampNeg = 6 * j + k := by rw [oi_nc (by omega), nat_tn]
  obtain ⟨h1, h2, h3, h4, h5, h6⟩ := h
  obtain ⟨g1, g2⟩ := h6 k t hk
  refine w_M_value_0 ?_
  simp only [hm.1, hm.f9, hm.t9, hm.l9, hm.f8, hm.t8, hm.l8, isr_ref, rv_ref, e, qi, qc, g1, g2, true_and, forall_eq]
  rw [tv_val]
  refine ⟨fun q => ⟨?_, trivial⟩, fun q => ⟨?_, trivial⟩⟩
  · rw [if_neg (of_decide_eq_false (bI_0.mp q))]
  · rw [if_pos (of_decide_eq_true (bI_1.mp q)), oi_add]
