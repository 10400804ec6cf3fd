/-! ===== parse: the model reads the text ===== -/
theorem okTr_mod {T : Tr} {a : It} (hT : okTr T) (ha : okI a) : okTr (modI T a) := by
  have z : ∀ v, z12 v < 12 := fun v => by unfold z12; split <;> omega
  cases a with
  | inl v => exact ⟨or_lt hT.1 (two_lt (z v)), hT.2⟩
  | inr x =>
    obtain ⟨f, t, rg, ts⟩ := x
    refine ⟨hT.1, fun r hr => ?_⟩
    rcases List.mem_append.mp hr with q | q
    · exact hT.2 r q
    · rw [List.mem_singleton.mp q]; exact okR_ruI (z f) (z t) ha.2.2
theorem len_mod {T : Tr} {a : It} : (modI T a).2.length ≤ T.2.length + (if isRul a then 1 else 0) := by
  cases a with
  | inl v => exact Nat.le_refl _
  | inr x =>
    obtain ⟨f, t, rg, ts⟩ := x
    show (T.2 ++ [ruI (z12 f) (z12 t) rg ts]).length ≤ T.2.length + 1
    rw [List.length_append]; exact Nat.le_refl _
def txM (m : Nat) (l : List Nat) (w : Bool) (T : Tr) (x : Nat ⊕ List It) (σ' : pm_H) : Prop := match x with
  | .inl p => mEr σ' m p
  | .inr as => (∃ j, mOk σ' m l j (w || as.any badI)) ∧ mTr σ' m 4 (as.foldl modI T) ∧ okTr (as.foldl modI T)
theorem s_M_items {σ0 : pm_H} {m sl : Nat} {l : List Nat} {Q : pm_O → pm_H → Prop} : ∀ (f i : Nat) (w : Bool) (T : Tr) (σ : pm_H), 240 ≤ i + 2 * f → i ≤ l.length → mOk σ m l i w → mTr σ m 4 T → okTr T → 7 * T.2.length ≤ i → itG m σ0 σ → (∀ σ', itG m σ0 σ' → txM m l w T (rItems l f i) σ' → pm_R 6 202 65 [.ref m, .int (Int32.ofInt (sl : Int))] [] σ' Q) → ∀ X : Nat → pm_H → Prop, pm_C 5 201 [.ref m] σ (pm_kV (fun σ5 => pm_R 6 202 37 [.ref m, .int (Int32.ofInt (sl : Int))] [] σ5 Q) X) := by
  intro f
  induction f with
  | zero =>
    intro i w T σ h1 h2 h ht hT h7 f0 hQ X
    have := h.2.1.2.1
    omega
  | succ f ih =>
    intro i w T σ h1 h2 h ht hT h7 f0 hQ X
    have hll := h.2.1.2.1
    rw [rItems_s] at hQ
    refine (s_M_item h ht hT (by omega) h2).use (by omega) (fun σ1 p1 => ?_)
    obtain ⟨f1, p1⟩ := p1
    have f01 := frX.tr f0 f1
    -- a fault
    have flt : ∀ (p : Nat) (τ : pm_H), itG m σ0 τ → mEr τ m p → (∀ σ', itG m σ0 σ' → txM m l w T (.inl p) σ' → pm_R 6 202 65 [.ref m, .int (Int32.ofInt (sl : Int))] [] σ' Q) → pm_R 6 202 53 [.ref m, .int (Int32.ofInt (sl : Int))] [] τ Q := by
      intro p τ g e hq
      refine w_M_parse_53 ⟨e.1.1, fun z ez => ⟨fun _ => hq τ g e, fun q => ?_⟩⟩
      rw [ez, e.2.1] at q; exact absurd (le0p (by have := e.2.2; omega)) q
    cases e1 : rItem l i with
    | inl p =>
      rw [e1] at p1 hQ
      have p1' : mEr σ1 m p := p1
      refine w_M_parse_37 ⟨p1'.1.1, fun z ez => ⟨fun _ => flt p σ1 f01 p1' hQ, fun q => ?_⟩⟩
      rw [ez, p1'.2.1] at q; exact absurd (le0p (by have := p1'.2.2; omega)) q
    | inr x =>
      obtain ⟨a, j⟩ := x
      rw [e1] at p1 hQ
      dsimp only at hQ
      have n1 := rItem_le e1
      obtain ⟨k1, t1⟩ := p1
      have hT1 := okTr_mod hT n1.1
      have h59 : Int32.ofInt (hr l j) = 59 ↔ isC l j 59 = true := h_lit k1 59 (by decide)
      refine w_M_parse_37 ⟨k1.1.1, fun z ez => ⟨fun q => ?_, fun _ => ⟨k1.1.1, (s_M_here k1).use (by omega) ?_⟩⟩⟩
      · rw [ez, k1.2.2.2.2.2.1] at q; exact absurd q im_0
      rw [h59]
      refine ⟨fun ec => ?_, fun ec => ?_⟩
      · have lj := isC_lt ec
        rw [if_neg (by omega), ec, if_pos rfl] at hQ
        have k2 := mOk_at k1 (show j + 1 ≤ 200 by omega)
        have f2 : pF m σ1 (pm_sF σ1 1214 m (.int (Int32.ofInt ((j + 1 : Nat) : Int)))) := pF_sF (Or.inl rfl)
        have l7 : 7 * (modI T a).2.length ≤ j + 1 := by
          have h1 := len_mod (T := T) (a := a)
          cases er : isRul a with
          | true =>
            rw [er, if_pos rfl] at h1
            have := n1.2.1 er
            omega
          | false =>
            rw [er, if_neg (by decide)] at h1
            omega
        simp only [k1.1.1, k1.2.2.2.1, oi_s, true_and, forall_eq]
        refine ⟨k2.1.1, ih (j + 1) (w || badI a) (modI T a) _ (by omega) (by omega) k2 (frX.T f2 t1 hT1 id) hT1 l7 (frX.tr f01 (pF_it f2)) (fun σ' g' p' => hQ σ' g' ?_) _⟩
        cases e3 : rItems l f (j + 1) with
        | inl p => rw [e3] at p'; exact p'
        | inr as =>
          rw [e3] at p'
          obtain ⟨⟨j', q1⟩, q2⟩ := p'
          refine ⟨⟨j', ?_⟩, q2⟩
          rw [List.any_cons, ← Bool.or_assoc]; exact q1
      · have ec' : isC l j 59 = false := by cases q : isC l j 59 with | true => exact absurd q ec | false => rfl
        rw [ec'] at hQ
        refine w_M_parse_53 ?_
        simp only [k1.1.1, k1.2.2.2.2.2.1, k1.2.2.2.1, k1.2.1.1, im_0, not_false_eq_true, false_implies, true_implies, true_and, forall_eq]
        rw [oi_le (by omega)]
        refine ⟨fun c => ?_, fun c => ?_⟩
        · rw [if_pos (by omega)] at hQ
          refine hQ σ1 f01 ⟨⟨j, ?_⟩, t1, hT1⟩
          rw [List.any_cons, List.any_nil, Bool.or_false]; exact k1
        · rw [if_neg (by omega), if_neg (by decide)] at hQ
          exact hQ _ (frX.tr f01 (pF_it (pF_sF (Or.inr (Or.inl rfl))))) (mOk_er k1)
