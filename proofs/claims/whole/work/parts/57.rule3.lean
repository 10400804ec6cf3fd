/-! ===== rules: the sets of symbols for which they are enabled ===== -/
theorem bz {x : Int64} : x = 0 ↔ ∀ j, j < 64 → bt x j = false := by
  constructor
  · rintro rfl j _; exact bt_zero j
  · intro h; exact bt_ext (fun j hj => by rw [h j hj, bt_zero])
theorem bt_mB' {a b : Int} (ha : -2147483648 ≤ a ∧ a < 2147483648) (hb : -2147483648 ≤ b ∧ b < 2147483648) {j : Nat} (hj : j < 64) : bt (mB (Int32.ofInt a) (Int32.ofInt b)) j = decide (a ≤ j ∧ (j : Int) ≤ b) := by
  rw [bt_mB _ _ hj, oi_to ha, oi_to hb]
theorem sy_and {lo hi lo' hi' : Int64} {s : Nat} : sy (lo &&& lo') (hi &&& hi') s = (sy lo hi s && sy lo' hi' s) := by
  unfold sy; split <;> rw [bt_and]
theorem sy_or {lo hi lo' hi' : Int64} {s : Nat} : sy (lo ||| lo') (hi ||| hi') s = (sy lo hi s || sy lo' hi' s) := by
  unfold sy; split <;> rw [bt_or]
/-- the mask of an interval -/
theorem sy_mB {a b : Int} (ha : -1000000 ≤ a ∧ a < 1000000) (hb : -1000000 ≤ b ∧ b < 1000000) {s : Nat} (hs : s < 100) : sy (mB (Int32.ofInt a) (Int32.ofInt b)) (mB (Int32.ofInt a - 64) (Int32.ofInt b - 64)) s = decide (a ≤ s ∧ (s : Int) ≤ b) := by
  unfold sy
  split
  · rw [bt_mB' (by omega) (by omega) (by omega)]
  · rw [oi_subl, oi_subl, bt_mB' (by omega) (by omega) (by omega), decide_eq_decide]
    omega
theorem okG_and {x y : Int64} (h : okG x) : okG (x &&& y) := fun j hj => by rw [bt_and, h j hj]; rfl
theorem okG_or {x y : Int64} (h : okG x) (h' : okG y) : okG (x ||| y) := fun j hj => by rw [bt_or, h j hj, h' j hj]; rfl
theorem okG_0 : okG 0 := fun j _ => bt_zero j
/-- a set is empty -/
theorem sy_z {lo hi : Int64} (hg : okG hi) : (lo = 0 ∧ hi = 0) ↔ ∀ s, s < 100 → sy lo hi s = false := by
  rw [bz, bz]
  constructor
  · rintro ⟨h1, h2⟩ s hs
    unfold sy
    split
    · exact h1 s (by omega)
    · exact h2 (s - 64) (by omega)
  · intro h
    constructor
    · intro j hj
      have := h j (by omega)
      unfold sy at this
      rw [if_pos hj] at this
      exact this
    · intro j hj
      by_cases h36 : 36 ≤ j
      · exact hg j h36
      · have := h (j + 64) (by omega)
        unfold sy at this
        rw [if_neg (by omega), Nat.add_sub_cancel] at this
        exact this
def enLo (r : Rl) : Int64 := rLo r &&& mB (Int32.ofInt (tLo (rTs r))) (Int32.ofInt (tHi (rTs r)))
def enHi (r : Rl) : Int64 := rHi r &&& mB (Int32.ofInt (tLo (rTs r)) - 64) (Int32.ofInt (tHi (rTs r)) - 64)
theorem sy_en {r : Rl} (hts : ∀ t, t ∈ rTs r → t < 100000) {s : Nat} (hs : s < 100) : sy (enLo r) (enHi r) s = en r s := by
  have l1 := tLo_0 (rTs r)
  have l2 := tLo_le hts
  have l3 := tHi_99 (rTs r)
  have l4 := tHi_ge hts
  unfold enLo enHi
  rw [sy_and, sy_mB (by omega) (by omega) hs, Bool.eq_iff_iff, en_iff hs, Bool.and_eq_true, decide_eq_true_iff]
  exact And.comm
theorem okG_en {r : Rl} (h : okG (rHi r)) : okG (enHi r) := okG_and h
def ever (r : Rl) : Bool := (List.range 100).any (en r)
def both (r r' : Rl) : Bool := (List.range 100).any (fun s => en r s && en r' s)
theorem ever_iff {r : Rl} : ever r = true ↔ ∃ s, s < 100 ∧ en r s = true := by
  unfold ever; simp [List.any_eq_true, List.mem_range]
theorem both_iff {r r' : Rl} : both r r' = true ↔ ∃ s, s < 100 ∧ en r s = true ∧ en r' s = true := by
  unfold both; simp [List.any_eq_true, List.mem_range]
theorem meets_iff {lo hi lo' hi' : Int64} (hg : okG hi) {a b : Int} (ha : -1000000 ≤ a ∧ a < 1000000) (hb : -1000000 ≤ b ∧ b < 1000000) : ((lo &&& lo') &&& mB (Int32.ofInt a) (Int32.ofInt b) = 0 ∧ (hi &&& hi') &&& mB (Int32.ofInt a - 64) (Int32.ofInt b - 64) = 0) ↔ ∀ s : Nat, s < 100 → ¬ ((a ≤ s ∧ (s : Int) ≤ b) ∧ sy lo hi s = true ∧ sy lo' hi' s = true) := by
  rw [sy_z (okG_and (okG_and hg))]
  constructor
  · rintro h s hs ⟨h1, h2, h3⟩
    have := h s hs
    rw [sy_and, sy_and, sy_mB ha hb hs, h2, h3, decide_eq_true h1] at this
    cases this
  · intro h s hs
    rw [sy_and, sy_and, sy_mB ha hb hs]
    cases e1 : sy lo hi s <;> cases e2 : sy lo' hi' s <;> try rfl
    rw [decide_eq_false (fun q => h s hs ⟨q, e1, e2⟩)]
    rfl
theorem s_Ru_isEnabledWith {σ : pm_H} {ρ ρ' : Nat} {r r' : Rl} (h : isRu σ ρ r) (h' : isRu σ ρ' r') (hG : okG (rHi r)) (hts : ∀ t, t ∈ rTs r → t < 100000) (hts' : ∀ t, t ∈ rTs r' → t < 100000) : cI 2 65 [.ref ρ, .ref ρ'] σ (bI (both r r')) := by
  have l1 := tLo_0 (rTs r)
  have l2 := tLo_le hts
  have l3 := tHi_99 (rTs r)
  have l4 := tHi_ge hts
  have m1 := tLo_0 (rTs r')
  have m2 := tLo_le hts'
  have m3 := tHi_99 (rTs r')
  have m4 := tHi_ge hts'
  have hg := h.g
  have hg' := h'.g
  obtain ⟨⟨h1, h2, h3, h4, h5, h6⟩, g1, g2, g3, g4, g5, g6, g7, g8⟩ := h
  obtain ⟨⟨k1, k2, k3, k4, k5, k6⟩, e1, e2, e3, e4, e5, e6, e7, e8⟩ := h'
  refine w_Ru_isEnabledWith_0 ?_
  simp only [h1, k1, h2, k2, g4, g5, e4, e5, h4, iv_int, isr_ref, rv_ref, true_and, forall_eq]
  rw [oi_max (by omega), oi_min (by omega)]
  refine (s_meetsWithin hg hg').use (Nat.le_refl _) ⟨bI_and _, ?_, rfl⟩
  have : decide (¬ ((rLo r &&& rLo r') &&& mB (Int32.ofInt (if tLo (rTs r) < tLo (rTs r') then tLo (rTs r') else tLo (rTs r))) (Int32.ofInt (if tHi (rTs r') < tHi (rTs r) then tHi (rTs r') else tHi (rTs r))) = 0 ∧ (rHi r &&& rHi r') &&& mB (Int32.ofInt (if tLo (rTs r) < tLo (rTs r') then tLo (rTs r') else tLo (rTs r)) - 64) (Int32.ofInt (if tHi (rTs r') < tHi (rTs r) then tHi (rTs r') else tHi (rTs r)) - 64) = 0)) = both r r' := by
    rw [Bool.eq_iff_iff, decide_eq_true_iff, both_iff, meets_iff hG (by split <;> omega) (by split <;> omega)]
    constructor
    · intro q
      apply Classical.byContradiction
      intro q2
      refine q (fun s hs ⟨⟨a1, a2⟩, b1, b2⟩ => q2 ⟨s, hs, (en_iff hs).mpr ⟨⟨?_, ?_⟩, b1⟩, (en_iff hs).mpr ⟨⟨?_, ?_⟩, b2⟩⟩)
      all_goals (split at a1 <;> split at a2 <;> omega)
    · rintro ⟨s, hs, a1, a2⟩ q
      obtain ⟨⟨b1, b2⟩, b3⟩ := (en_iff hs).mp a1
      obtain ⟨⟨c1, c2⟩, c3⟩ := (en_iff hs).mp a2
      exact q s hs ⟨⟨by split <;> omega, by split <;> omega⟩, b3, c3⟩
  rw [this]
theorem both_self (r : Rl) : both r r = ever r := by
  rw [Bool.eq_iff_iff, both_iff, ever_iff]
  constructor
  · rintro ⟨s, hs, h, _⟩; exact ⟨s, hs, h⟩
  · rintro ⟨s, hs, h⟩; exact ⟨s, hs, h, h⟩
theorem s_Ru_isEverEnabled {σ : pm_H} {ρ : Nat} {r : Rl} (h : isRu σ ρ r) (hG : okG (rHi r)) (hts : ∀ t, t ∈ rTs r → t < 100000) : cI 2 64 [.ref ρ] σ (bI (ever r)) := by
  have l1 := tLo_0 (rTs r)
  have l2 := tLo_le hts
  have l3 := tHi_99 (rTs r)
  have l4 := tHi_ge hts
  have hg := h.g
  obtain ⟨⟨h1, h2, h3, h4, h5, h6⟩, g1, g2, g3, g4, g5, g6, g7, g8⟩ := h
  refine w_Ru_isEverEnabled_0 ?_
  simp only [h1, h2, g4, g5, h4, iv_int, isr_ref, rv_ref, true_and, forall_eq]
  refine (s_meetsWithin hg hg).use (Nat.le_refl _) ⟨bI_and _, ?_, rfl⟩
  have : decide (¬ ((rLo r &&& rLo r) &&& mB (Int32.ofInt (tLo (rTs r))) (Int32.ofInt (tHi (rTs r))) = 0 ∧ (rHi r &&& rHi r) &&& mB (Int32.ofInt (tLo (rTs r)) - 64) (Int32.ofInt (tHi (rTs r)) - 64) = 0)) = ever r := by
    rw [Bool.eq_iff_iff, decide_eq_true_iff, ever_iff, meets_iff hG (by omega) (by omega)]
    constructor
    · intro q
      apply Classical.byContradiction
      intro q2
      exact q (fun s hs ⟨a1, b1, b2⟩ => q2 ⟨s, hs, (en_iff hs).mpr ⟨a1, b1⟩⟩)
    · rintro ⟨s, hs, a1⟩ q
      obtain ⟨b1, b3⟩ := (en_iff hs).mp a1
      exact q s hs ⟨b1, b3, b3⟩
  rw [this]
theorem uSy_uSy {σ : pm_H} {g : Nat} {a b c e : Int64} : uSy (uSy σ g a b) g c e = uSy σ g c e := by
  refine H_ext rfl rfl (fun f x => ?_) (fun _ _ => rfl)
  simp only [uSy, F_sF]
  repeat' split
  all_goals first | rfl | omega
theorem s_Ru_enabledInto {σ : pm_H} {ρ g : Nat} {r : Rl} (h : isRu σ ρ r) (hg : pm_t σ g = 9) : cV 2 66 [.ref ρ, .ref g] σ (fun σ' => σ' = uSy σ g (enLo r) (enHi r)) := by
  have hgg := h.g
  obtain ⟨⟨h1, h2, h3, h4, h5, h6⟩, g1, g2, g3, g4, g5, g6, g7, g8⟩ := h
  refine w_Ru_enabledInto_0 ?_
  simp only [h1, h2, hg, isr_ref, rv_ref, true_and, forall_eq]
  refine (s_copyFrom hg hgg).use (by omega) (fun σ' e => ?_)
  subst e
  have e4 : pm_F (uSy σ g (rLo r) (rHi r)) 605 ρ = .int (Int32.ofInt (tLo (rTs r))) := by simp only [uSy, F_sF, Nat.reduceEqDiff, false_and, if_false, g4]
  have e5 : pm_F (uSy σ g (rLo r) (rHi r)) 606 ρ = .int (Int32.ofInt (tHi (rTs r))) := by simp only [uSy, F_sF, Nat.reduceEqDiff, false_and, if_false, g5]
  refine ⟨h1, h1, hg, ?_⟩
  rw [e4, e5, iv_int, iv_int]
  refine (s_keep (aSy_u hg)).use (by omega) (fun σ' e => ?_)
  rw [e, uSy_uSy]
  rfl
