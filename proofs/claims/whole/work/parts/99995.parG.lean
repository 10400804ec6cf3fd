/-! ===== parse: the model's ranges, terms ===== -/
def staM (m : Nat) (l : List Nat) (w : Bool) (σ : pm_H) (x : Rd Nat) (σ' : pm_H) : Prop := pF m σ σ' ∧ match x with
  | .inl p => mEr σ' m p
  | .inr (v, j) => mOk σ' m l j (w || decide (12 ≤ v))
theorem s_M_state {σ : pm_H} {m i : Nat} {l : List Nat} {w : Bool} (h : mOk σ m l i w) : cIP 3 198 [.ref m] σ (Int32.ofInt (z12 (nvI (rNum l i)) : Nat)) (staM m l w σ (rNum l i)) := by
  refine w_M_state_0 ⟨h.1.1, (s_M_number h).use (by omega) (fun σ1 p1 => ?_)⟩
  obtain ⟨f1, p1⟩ := p1
  cases e : rNum l i with
  | inl p =>
    rw [e] at p1
    refine gD (s_M_isState (v := ((nvI (.inl p) : Nat) : Int)) (by show -2147483648 ≤ (0 : Int) ∧ (0 : Int) < 2147483648; decide)) (by omega) (fun q => absurd (show (0 : Int) ≤ 0 ∧ (0 : Int) < 12 by decide) q) (fun _ => ⟨rfl, f1, p1⟩)
  | inr x =>
    obtain ⟨v, j⟩ := x
    rw [e] at p1
    have n1 := rNum_le e
    have ez : z12 (nvI (.inr (v, j))) = if v < 12 then v else 0 := rfl
    rw [ez]
    refine gD (s_M_isState (v := (v : Int)) (by omega)) (by omega) (fun q => ⟨⟨p1.1.1, rfl⟩, fun σ3 e3 => ?_⟩) (fun q => ?_)
    · rw [if_neg (by omega), e3]
      refine ⟨rfl, frX.tr f1 (pF_sF (Or.inr (Or.inr rfl))), ?_⟩
      show mOk _ m l j (w || decide (12 ≤ v))
      rw [decide_eq_true (show 12 ≤ v by omega), Bool.or_true]
      exact mOk_w (b := true) p1
    · rw [if_pos (by omega)]
      refine ⟨rfl, f1, ?_⟩
      show mOk _ m l j (w || decide (12 ≤ v))
      rw [decide_eq_false (show ¬ 12 ≤ v by omega), Bool.or_false]
      exact p1
theorem s_M_state_e {σ : pm_H} {m p : Nat} (h : mEr σ m p) : cIP 2 198 [.ref m] σ 0 (fun σ' => σ' = σ) := by
  refine w_M_state_0 ⟨h.1.1, (s_M_number_e h).use (by omega) (fun σ1 e1 => ?_)⟩
  refine gD (s_M_isState (v := (0 : Int)) (by decide)) (by omega) (fun q => absurd (show (0 : Int) ≤ 0 ∧ (0 : Int) < 12 by decide) q) (fun _ => ⟨rfl, e1⟩)
/-- one row of rules, the reading's fields -/
def rR (m c0 : Nat) (σ σ' : pm_H) : Prop := frX m (fun f => f = 1214 ∨ f = 1215 ∨ f = 1216) (fun i => 3 ≤ i ∧ i ≤ 9) (fun s => s = 4) σ σ' ∧ ∀ j', j' ≠ c0 → mEqR σ σ' m j'
theorem rR_rf {m c0 : Nat} {σ : pm_H} : rR m c0 σ σ := ⟨frX.rf, fun _ _ => mEqR.rf⟩
theorem rR_tr {m c0 : Nat} {σ σ1 σ2 : pm_H} (h : rR m c0 σ σ1) (g : rR m c0 σ1 σ2) : rR m c0 σ σ2 := ⟨frX.tr h.1 g.1, fun j hj => (h.2 j hj).tr (g.2 j hj)⟩
theorem pF_mEqR {m j : Nat} {σ σ' : pm_H} (h : pF m σ σ') : mEqR σ σ' m j :=
  ⟨frX.A h (by omega) id, frX.A h (by omega) id, frX.A h (by omega) id, frX.A h (by omega) id, frX.A h (by omega) id, fun _ _ => ⟨frX.A h (by omega) id, frX.A h (by omega) id⟩⟩
theorem pF_R {m c0 : Nat} {σ σ' : pm_H} (h : pF m σ σ') : rR m c0 σ σ' := ⟨frX.mono h (fun _ q => q) (fun _ q => q.elim) (fun _ q => q.elim), fun _ _ => pF_mEqR h⟩
theorem frR_R {m c0 : Nat} {σ σ' : pm_H} (h : frR m c0 σ σ') (h1 : 160 ≤ c0) (h2 : c0 < 200) : rR m c0 σ σ' := by
  have hM := h.M (sl := 4) (by omega) (by omega)
  refine ⟨⟨hM.1.1, hM.1.2.1, fun a ha => h.1.2.2 a (by omega), fun f _ => h.1.F (by omega), fun i hi ha j => h.1.A (by omega), hM.2⟩, h.2⟩
theorem rR_mS {m c0 : Nat} {σ σ' : pm_H} (h : rR m c0 σ σ') (hm : mS σ m) : mS σ' m := frX.mS h.1 hm (fun f hf => by rcases hf with e | e | e <;> (rw [e]; decide))
theorem mRu_pF {m j : Nat} {r : Rl} {σ σ' : pm_H} (h : mRu σ m j r) (hl : (rTs r).length ≤ 6) (f : pF m σ σ') : mRu σ' m j r := mRu_eq h hl (pF_mEqR f)
theorem mOk_R {m i c0 : Nat} {l : List Nat} {w : Bool} {σ σ' : pm_H} (h : mOk σ m l i w) (f : frR m c0 σ σ') (h1 : 160 ≤ c0) (h2 : c0 < 200) : mOk σ' m l i w := by
  have hM := (f.M (sl := 4) (by omega) (by omega)).X
  exact mOk_X h hM (f.mS h.1) ⟨id, id, id, id⟩ (by omega)
def mngO (σ' : pm_H) (m c0 : Nat) (l : List Nat) (w : Bool) (r : Rl) (xs : List (Nat × Nat)) (j : Nat) : Prop := mOk σ' m l j (w || xs.any (fun x => decide (x.2 < x.1))) ∧ ∃ lo hi, mRu σ' m c0 (rG r lo hi) ∧ okG hi ∧ ∀ s, s < 100 → sy lo hi s = (sy (rLo r) (rHi r) s || gR xs s)
theorem s_M_range_21 {σ0 σ : pm_H} {m i c0 lo hi : Nat} {l : List Nat} {w : Bool} {r : Rl} {d : Nat} (h : mOk σ m l i w) (hr : mRu σ m c0 r) (hl : (rTs r).length ≤ 6) (hG : okG (rHi r)) (hc1 : 160 ≤ c0) (hc2 : c0 < 200) (h1 : lo < 100) (h2 : hi < 100) (f : rR m c0 σ0 σ) : pm_R (d + 1) 199 21 [.ref m, .int (Int32.ofInt (c0 : Int)), .int (Int32.ofInt (lo : Int)), .int (Int32.ofInt (hi : Int)), pm_U] [] σ (fun o σ' => o = .inl none ∧ rR m c0 σ0 σ' ∧ mngO σ' m c0 l w r [(lo, hi)] i) := by
  have g1 : ∀ s, gR [(lo, hi)] s = decide (lo ≤ s ∧ s ≤ hi) := fun s => by unfold gR; simp
  have a1 : ([(lo, hi)] : List (Nat × Nat)).any (fun x => decide (x.2 < x.1)) = decide (hi < lo) := by simp
  -- symbol by symbol
  have go : ∀ σ1, pF m σ σ1 → mOk σ1 m l i (w || decide (hi < lo)) → pm_R (d + 1) 199 38 [.ref m, .int (Int32.ofInt (c0 : Int)), pm_U, .int (Int32.ofInt (hi : Int)), .int (Int32.ofInt (lo : Int))] [] σ1 (fun o σ' => o = .inl none ∧ rR m c0 σ0 σ' ∧ mngO σ' m c0 l w r [(lo, hi)] i) := by
    intro σ1 f1 k1
    have r1 := mRu_pF hr hl f1
    have g01 := rR_tr f (pF_R f1)
    have fin : ∀ τ, (∃ lo2 hi2, mRu τ m c0 (rG r lo2 hi2) ∧ okG hi2 ∧ ∀ u, u < 100 → sy lo2 hi2 u = (sy (rLo r) (rHi r) u || decide (lo ≤ u ∧ u ≤ hi))) → frR m c0 σ1 τ → rR m c0 σ0 τ ∧ mngO τ m c0 l w r [(lo, hi)] i := by
      intro τ hx hf
      obtain ⟨lo2, hi2, x1, x2, x3⟩ := hx
      refine ⟨rR_tr g01 (frR_R hf hc1 hc2), ?_, lo2, hi2, x1, x2, fun s hs => by rw [g1]; exact x3 s hs⟩
      rw [a1]; exact mOk_R k1 hf hc1 hc2
    by_cases c : hi < lo
    · refine w_M_range2_38 ⟨fun _ => ⟨rfl, fin σ1 ⟨rLo r, rHi r, r1, hG, fun u hu => ?_⟩ frR.rf⟩, fun q => absurd ?_ q⟩
      · rw [decide_eq_false (by omega), Bool.or_false]
      · rw [oi_lt (by omega)]; omega
    · refine lp (fun s => [.ref m, .int (Int32.ofInt (c0 : Int)), pm_U, .int (Int32.ofInt (hi : Int)), .int (Int32.ofInt (s : Nat))]) (fun s τ => (∃ lo2 hi2, mRu τ m c0 (rG r lo2 hi2) ∧ okG hi2 ∧ ∀ u, u < 100 → sy lo2 hi2 u = (sy (rLo r) (rHi r) u || decide (lo ≤ u ∧ u < s))) ∧ frR m c0 σ1 τ ∧ lo ≤ s) (hi + 1) (fun s hs τ hh next => ?_) (fun τ hh => ?_) lo (by omega) σ1 ⟨⟨rLo r, rHi r, r1, hG, fun u hu => by rw [decide_eq_false (by omega), Bool.or_false]⟩, frR.rf, Nat.le_refl _⟩
      · obtain ⟨⟨lo2, hi2, x1, x2, x3⟩, hf, hls⟩ := hh
        have mt := hf.mS k1.1
        refine w_M_range2_38 ⟨fun q => ?_, fun _ => ⟨mt.1, (s_M_adds mt x1 (by omega) (show s < 100 by omega)).use (by omega) (fun τ2 p2 => ?_)⟩⟩
        · rw [oi_lt (by omega)] at q; omega
        rw [oi_s]
        refine next τ2 ⟨⟨_, _, p2.1, okG_add x2 (show s < 100 by omega), fun u hu => ?_⟩, hf.tr p2.2, by omega⟩
        show sy (addLo lo2 s) (addHi hi2 s) u = _
        rw [sy_add (by omega) hu, x3 u hu, Bool.or_assoc]
        congr 1
        rw [← Bool.decide_or, decide_eq_decide]; omega
      · obtain ⟨⟨lo2, hi2, x1, x2, x3⟩, hf, hls⟩ := hh
        refine w_M_range2_38 ⟨fun _ => ⟨rfl, fin τ ⟨lo2, hi2, x1, x2, fun u hu => ?_⟩ hf⟩, fun q => absurd ?_ q⟩
        · rw [x3 u hu]; congr 1; rw [decide_eq_decide]; omega
        · rw [oi_lt (by omega)]; omega
  refine w_M_range2_21 ?_
  simp only [h.1.1, h.2.2.2.2.2.1, h.2.2.2.2.2.2, im_1, not_true_eq_false, false_implies, true_implies, and_true, true_and, forall_eq, bI_0]
  rw [oi_le (by omega)]
  cases w with
  | true =>
    refine ⟨fun q => (by cases q), fun _ => ⟨rfl, go _ (pF_sF (Or.inr (Or.inr rfl))) ?_⟩⟩
    rw [Bool.true_or]; exact mOk_w (b := true) h
  | false =>
    refine ⟨fun _ => ⟨fun c => ⟨rfl, go _ (pF_sF (Or.inr (Or.inr rfl))) ?_⟩, fun c => ⟨rfl, go _ (pF_sF (Or.inr (Or.inr rfl))) ?_⟩⟩, fun q => absurd rfl q⟩
    · rw [Bool.false_or, decide_eq_false (by omega)]; exact mOk_w (b := false) h
    · rw [Bool.false_or, decide_eq_true (by omega)]; exact mOk_w (b := true) h
theorem s_M_range_21e {σ : pm_H} {m p : Nat} {x1 x2 x3 : Int32} {d : Nat} {Q : pm_O → pm_H → Prop} (h : mEr σ m p) (hQ : Q (.inl none) σ) : pm_R (d + 1) 199 21 [.ref m, .int x1, .int x2, .int x3, pm_U] [] σ Q := by
  have := h.2.2
  refine w_M_range2_21 ⟨h.1.1, fun z ez => ⟨fun q => ?_, fun _ => hQ⟩⟩
  rw [ez, h.2.1] at q; exact absurd q (lt0p (by omega))
