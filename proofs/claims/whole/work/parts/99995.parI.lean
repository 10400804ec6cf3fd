/-! ===== parse: items of the model ===== -/
theorem rG_rG {r : Rl} {a b c d : Int64} : rG (rG r a b) c d = rG r c d := rfl
theorem mngO_app {σ' : pm_H} {m c0 j : Nat} {l : List Nat} {w : Bool} {r : Rl} {x : Nat × Nat} {xs : List (Nat × Nat)} {lo hi : Int64} (hs : ∀ s, s < 100 → sy lo hi s = (sy (rLo r) (rHi r) s || gR [x] s)) (h : mngO σ' m c0 l (w || ([x] : List (Nat × Nat)).any (fun x => decide (x.2 < x.1))) (rG r lo hi) xs j) : mngO σ' m c0 l w r (x :: xs) j := by
  obtain ⟨h1, lo2, hi2, h2, h3, h4⟩ := h
  refine ⟨?_, lo2, hi2, h2, h3, fun s hs1 => ?_⟩
  · rw [List.any_cons, ← Bool.or_assoc]
    have : ([x] : List (Nat × Nat)).any (fun x => decide (x.2 < x.1)) = decide (x.2 < x.1) := by simp
    rw [this] at h1
    exact h1
  · have e1 : sy (rLo (rG r lo hi)) (rHi (rG r lo hi)) s = sy lo hi s := rfl
    rw [h4 s hs1, e1, hs s hs1, Bool.or_assoc]
    congr 1
    unfold gR
    simp
theorem mtmO_app {σ' : pm_H} {m c0 j t : Nat} {l ts : List Nat} {w : Bool} {r : Rl} (h : mtmO σ' m c0 l (w || decide (6 < (rTs r).length + ([t] : List Nat).length)) (rF r, rT r, rLo r, rHi r, (rTs r ++ [t]).take 6) ts j) : mtmO σ' m c0 l w r (t :: ts) j := by
  obtain ⟨h1, h2⟩ := h
  refine ⟨?_, ?_⟩
  · have e1 : (w || decide (6 < (rTs r).length + ([t] : List Nat).length) || decide (6 < (rTs ((rF r, rT r, rLo r, rHi r, (rTs r ++ [t]).take 6) : Rl)).length + ts.length)) = (w || decide (6 < (rTs r).length + (t :: ts).length)) := by
      have e2 : (rTs ((rF r, rT r, rLo r, rHi r, (rTs r ++ [t]).take 6) : Rl)).length = min 6 ((rTs r).length + 1) := by
        show ((rTs r ++ [t]).take 6).length = _
        rw [List.length_take, List.length_append]; rfl
      rw [e2, Bool.or_assoc]
      congr 1
      rw [show (t :: ts).length = ts.length + 1 from rfl, show ([t] : List Nat).length = 1 from rfl, ← Bool.decide_or, decide_eq_decide]
      omega
    rw [e1] at h1
    exact h1
  · have e3 : (rTs ((rF r, rT r, rLo r, rHi r, (rTs r ++ [t]).take 6) : Rl) ++ ts).take 6 = (rTs r ++ t :: ts).take 6 := by
      show ((rTs r ++ [t]).take 6 ++ ts).take 6 = _
      rw [show rTs r ++ t :: ts = (rTs r ++ [t]) ++ ts by simp, take_tt]
    rw [e3] at h2
    exact h2
theorem s_M_ranges {σ0 : pm_H} {m c0 : Nat} {l : List Nat} {Q : pm_O → pm_H → Prop} (hc1 : 160 ≤ c0) (hc2 : c0 < 200) : ∀ (f i : Nat) (w : Bool) (r : Rl) (σ : pm_H), 240 ≤ i + 2 * f → i ≤ l.length → mOk σ m l i w → mRu σ m c0 r → (rTs r).length ≤ 6 → okG (rHi r) → rR m c0 σ0 σ → (∀ σ', rR m c0 σ0 σ' → (match rList (rRange l) l f i with
    | .inl p => mEr σ' m p
    | .inr (xs, j) => mngO σ' m c0 l w r xs j) → pm_R 5 201 71 [.ref m, pm_U, pm_U, .int (Int32.ofInt (c0 : Int))] [] σ' Q) → ∀ X : Nat → pm_H → Prop, pm_C 4 199 [.ref m, .int (Int32.ofInt (c0 : Int))] σ (pm_kV (fun σ8 => pm_R 5 201 54 [.ref m, pm_U, pm_U, .int (Int32.ofInt (c0 : Int))] [] σ8 Q) X) := by
  intro f
  induction f with
  | zero =>
    intro i w r σ h1 h2 h hRu hl hG f0 hQ X
    have := h.2.1.2.1
    omega
  | succ f ih =>
    intro i w r σ h1 h2 h hRu hl hG f0 hQ X
    have hll := h.2.1.2.1
    rw [rList_s] at hQ
    refine (s_M_range2 h hRu hl hG hc1 hc2).use (by omega) (fun σ1 p1 => ?_)
    obtain ⟨f1, p1⟩ := p1
    have f01 := rR_tr f0 f1
    cases e1 : rRange l i with
    | inl p =>
      rw [e1] at p1 hQ
      have := p1.2.2
      refine w_M_item_54 ⟨p1.1.1, fun z ez => ⟨fun _ => hQ σ1 f01 p1, fun q => ?_⟩⟩
      rw [ez, p1.2.1] at q; exact absurd (le0p (by omega)) q
    | inr x =>
      obtain ⟨x, j⟩ := x
      rw [e1] at p1 hQ
      dsimp only at hQ
      have n1 := rRange_le e1
      have p1' : mngO σ1 m c0 l w r [x] j := p1
      obtain ⟨k1, lo, hi, r1, G1, s1⟩ := p1
      have h44 : Int32.ofInt (hr l j) = 44 ↔ isC l j 44 = true := h_lit k1 44 (by decide)
      refine w_M_item_54 ⟨k1.1.1, fun z ez => ⟨fun q => ?_, fun _ => ⟨k1.1.1, (s_M_here k1).use (by omega) ?_⟩⟩⟩
      · rw [ez, k1.2.2.2.2.2.1] at q; exact absurd q im_0
      rw [h44]
      refine ⟨fun ec => ?_, fun ec => ?_⟩
      · have lj := isC_lt ec
        rw [ec, if_pos rfl] at hQ
        have k2 := mOk_at k1 (show j + 1 ≤ 200 by omega)
        have f2 : pF m σ1 (pm_sF σ1 1214 m (.int (Int32.ofInt ((j + 1 : Nat) : Int)))) := pF_sF (Or.inl rfl)
        simp only [k1.1.1, k1.2.2.2.1, oi_s, true_and, forall_eq]
        refine ⟨k2.1.1, ih (j + 1) (w || ([x] : List (Nat × Nat)).any (fun x => decide (x.2 < x.1))) (rG r lo hi) _ (by omega) (by omega) k2 (mRu_pF r1 hl f2) hl G1 (rR_tr f01 (pF_R f2)) (fun σ' g' p' => hQ σ' g' ?_) _⟩
        cases e3 : rList (rRange l) l f (j + 1) with
        | inl p => rw [e3] at p'; exact p'
        | inr y =>
          obtain ⟨xs, k⟩ := y
          rw [e3] at p'
          exact mngO_app s1 p'
      · have ec' : isC l j 44 = false := by cases q : isC l j 44 with | true => exact absurd q ec | false => rfl
        rw [ec', if_neg (by decide)] at hQ
        exact hQ σ1 f01 p1'
theorem s_M_terms {σ0 : pm_H} {m c0 : Nat} {l : List Nat} {Q : pm_O → pm_H → Prop} (hc1 : 160 ≤ c0) (hc2 : c0 < 200) : ∀ (f i : Nat) (w : Bool) (r : Rl) (σ : pm_H), 240 ≤ i + 2 * f → i ≤ l.length → mOk σ m l i w → mRu σ m c0 r → (rTs r).length ≤ 6 → rR m c0 σ0 σ → (∀ σ', rR m c0 σ0 σ' → (match rList (rTerm l) l f i with
    | .inl p => mEr σ' m p
    | .inr (xs, j) => mtmO σ' m c0 l w r xs j) → Q (.inl none) σ') → ∀ X : Nat → pm_H → Prop, pm_C 4 200 [.ref m, .int (Int32.ofInt (c0 : Int))] σ (pm_kV (fun σ8 => pm_R 5 201 87 [.ref m, pm_U, pm_U, .int (Int32.ofInt (c0 : Int))] [] σ8 Q) X) := by
  intro f
  induction f with
  | zero =>
    intro i w r σ h1 h2 h hRu hl f0 hQ X
    have := h.2.1.2.1
    omega
  | succ f ih =>
    intro i w r σ h1 h2 h hRu hl f0 hQ X
    have hll := h.2.1.2.1
    rw [rList_s] at hQ
    refine (s_M_term2 h hRu hl hc1 hc2).use (by omega) (fun σ1 p1 => ?_)
    obtain ⟨f1, p1⟩ := p1
    have f01 := rR_tr f0 f1
    cases e1 : rTerm l i with
    | inl p =>
      rw [e1] at p1 hQ
      have := p1.2.2
      refine w_M_item_87 ⟨p1.1.1, fun z ez => ⟨fun _ => hQ σ1 f01 p1, fun q => ?_⟩⟩
      rw [ez, p1.2.1] at q; exact absurd (le0p (by omega)) q
    | inr x =>
      obtain ⟨t, j⟩ := x
      rw [e1] at p1 hQ
      dsimp only at hQ
      have n1 := rTerm_le e1
      have p1' : mtmO σ1 m c0 l w r [t] j := p1
      obtain ⟨k1, r1⟩ := p1
      have h44 : Int32.ofInt (hr l j) = 44 ↔ isC l j 44 = true := h_lit k1 44 (by decide)
      refine w_M_item_87 ⟨k1.1.1, fun z ez => ⟨fun q => ?_, fun _ => ⟨k1.1.1, (s_M_here k1).use (by omega) ?_⟩⟩⟩
      · rw [ez, k1.2.2.2.2.2.1] at q; exact absurd q im_0
      rw [h44]
      refine ⟨fun ec => ?_, fun ec => ?_⟩
      · have lj := isC_lt ec
        rw [ec, if_pos rfl] at hQ
        have k2 := mOk_at k1 (show j + 1 ≤ 200 by omega)
        have f2 : pF m σ1 (pm_sF σ1 1214 m (.int (Int32.ofInt ((j + 1 : Nat) : Int)))) := pF_sF (Or.inl rfl)
        have l1 : ((rTs r ++ [t]).take 6).length ≤ 6 := by rw [List.length_take]; omega
        simp only [k1.1.1, k1.2.2.2.1, oi_s, true_and, forall_eq]
        refine ⟨k2.1.1, ih (j + 1) (w || decide (6 < (rTs r).length + ([t] : List Nat).length)) (rF r, rT r, rLo r, rHi r, (rTs r ++ [t]).take 6) _ (by omega) (by omega) k2 (mRu_pF r1 l1 f2) l1 (rR_tr f01 (pF_R f2)) (fun σ' g' p' => hQ σ' g' ?_) _⟩
        cases e3 : rList (rTerm l) l f (j + 1) with
        | inl p => rw [e3] at p'; exact p'
        | inr y =>
          obtain ⟨xs, k⟩ := y
          rw [e3] at p'
          exact mtmO_app p'
      · have ec' : isC l j 44 = false := by cases q : isC l j 44 with | true => exact absurd q ec | false => rfl
        rw [ec', if_neg (by decide)] at hQ
        exact hQ σ1 f01 p1'
theorem mTr_row {m c0 F : Nat} {rs : List Rl} {r0 r' : Rl} {σ σ' : pm_H} (h : mTr σ m 4 (F, rs ++ [r0])) (hR : ∀ r, r ∈ rs → okR r) (f : rR m c0 σ σ') (hc : c0 = 160 + rs.length) (hr : mRu σ' m c0 r') : mTr σ' m 4 (F, rs ++ [r']) := by
  have e1 : (rs ++ [r']).length = (rs ++ [r0]).length := by rw [List.length_append, List.length_append]; rfl
  refine ⟨?_, ?_, ?_, fun k r hk => ?_⟩
  · rw [f.1.A (by omega) (by omega)]; exact h.1
  · rw [f.1.A (by omega) (by omega)]
    show _ = Int32.ofInt ((rs ++ [r']).length : Int)
    rw [e1]; exact h.2.1
  · show (rs ++ [r']).length ≤ 40
    rw [e1]; exact h.2.2.1
  · replace hk : (rs ++ [r'])[k]? = some r := hk
    by_cases ck : k = rs.length
    · subst ck
      rw [List.getElem?_append_right (Nat.le_refl _), Nat.sub_self] at hk
      cases hk
      rw [hc] at hr
      exact hr
    · have lk := (List.getElem?_eq_some_iff.mp hk).1
      rw [List.length_append] at lk
      replace lk : k < rs.length + 1 := lk
      rw [List.getElem?_append_left (by omega)] at hk
      have hm := List.mem_of_getElem? hk
      exact mRu_eq (h.2.2.2 k r (by show (rs ++ [r0])[k]? = some r; rw [List.getElem?_append_left (by omega)]; exact hk)) (hR r hm).2.2.2.1 (f.2 _ (by omega))
def itG (m : Nat) (σ σ' : pm_H) : Prop := frX m (fun f => f = 1214 ∨ f = 1215 ∨ f = 1216) (fun i => 1 ≤ i ∧ i ≤ 9) (fun s => s = 4) σ σ'
theorem itG_mS {m : Nat} {σ σ' : pm_H} (h : itG m σ σ') (hm : mS σ m) : mS σ' m := frX.mS h hm (fun f hf => by rcases hf with e | e | e <;> (rw [e]; decide))
theorem pF_it {m : Nat} {σ σ' : pm_H} (h : pF m σ σ') : itG m σ σ' := frX.mono h (fun _ q => q) (fun _ q => q.elim) (fun _ q => q.elim)
theorem rR_it {m c0 : Nat} {σ σ' : pm_H} (h : rR m c0 σ σ') : itG m σ σ' := frX.mono h.1 (fun _ q => q) (fun i q => by omega) (fun _ q => q)
def itmP (m : Nat) (l : List Nat) (w : Bool) (T : Tr) (σ : pm_H) (x : Rd It) (σ' : pm_H) : Prop := itG m σ σ' ∧ match x with
  | .inl p => mEr σ' m p
  | .inr (a, j) => mOk σ' m l j (w || badI a) ∧ mTr σ' m 4 (modI T a)
theorem or5 : ∀ a b c d e : Bool, (a || b || c || d || e) = (a || ((d || e) || (b || c))) := by decide
theorem s_M_item_71 {σ0 σ : pm_H} {m c0 i : Nat} {l : List Nat} {w : Bool} {r : Rl} {Q : pm_O → pm_H → Prop} (hc1 : 160 ≤ c0) (hc2 : c0 < 200) (h : mOk σ m l i w) (hRu : mRu σ m c0 r) (hl : (rTs r).length ≤ 6) (hi : i ≤ l.length) (f0 : rR m c0 σ0 σ)
    (hQ : ∀ σ', rR m c0 σ0 σ' → (if isC l i 47 then (match rTerms l (i + 1) with
    | .inl p => mEr σ' m p
    | .inr (xs, j) => mtmO σ' m c0 l w r xs j) else mEr σ' m i) → Q (.inl none) σ') : pm_R 5 201 71 [.ref m, pm_U, pm_U, .int (Int32.ofInt (c0 : Int))] [] σ Q := by
  refine w_M_item_71 ⟨h.1.1, (s_M_takes (c := 47) h (by decide)).use (by omega) (fun σ1 p1 => ?_)⟩
  obtain ⟨f1, p1⟩ := p1
  have f01 := rR_tr f0 (pF_R f1)
  have hll := h.2.1.2.1
  cases ec : isC l i 47 with
  | false =>
    rw [ec, if_neg (by decide)] at p1
    simp only [ec, Bool.false_eq_true, if_false] at hQ
    have := p1.2.2
    refine ⟨p1.1.1, fun z ez => ⟨fun _ => hQ σ1 f01 p1, fun q => ?_⟩⟩
    rw [ez, p1.2.1] at q; exact absurd (le0p (by omega)) q
  | true =>
    have lc := isC_lt ec
    rw [ec, if_pos rfl] at p1
    simp only [ec, if_true] at hQ
    have r1 := mRu_pF hRu hl f1
    have h120 : Int32.ofInt (hr l (i + 1)) = 120 ↔ isC l (i + 1) 120 = true := h_lit p1 120 (by decide)
    have go : rTerms l (i + 1) = rList (rTerm l) l 120 (i + 1) → ∀ X : Nat → pm_H → Prop, pm_C 4 200 [.ref m, .int (Int32.ofInt (c0 : Int))] σ1 (pm_kV (fun σ8 => pm_R 5 201 87 [.ref m, pm_U, pm_U, .int (Int32.ofInt (c0 : Int))] [] σ8 Q) X) := fun et X => by
      rw [et] at hQ
      exact s_M_terms hc1 hc2 120 (i + 1) w r σ1 (by omega) (by omega) p1 r1 hl f01 hQ X
    refine ⟨p1.1.1, fun z ez => ⟨fun q => ?_, fun _ => ⟨p1.1.1, (s_M_here p1).use (by omega) ?_⟩⟩⟩
    · rw [ez, p1.2.2.2.2.2.1] at q; exact absurd q im_0
    rw [h120]
    refine ⟨fun ex => ⟨p1.1.1, go ?_ _⟩, fun ex => ⟨p1.1.1, gI (s_M_isDigit p1) (by omega) (fun ed => ?_) (fun ed => ⟨p1.1.1, go ?_ _⟩)⟩⟩
    · unfold rTerms; rw [ex, if_pos (by rfl)]
    · have ex' : isC l (i + 1) 120 = false := by cases q : isC l (i + 1) 120 with | true => exact absurd q ex | false => rfl
      have et : rTerms l (i + 1) = .inr ([], i + 1) := by unfold rTerms; rw [ex', ed, if_neg (by decide)]
      rw [et] at hQ
      refine hQ σ1 f01 ⟨?_, ?_⟩
      · rw [show decide (6 < (rTs r).length + ([] : List Nat).length) = false from decide_eq_false (by show ¬ 6 < (rTs r).length + 0; omega), Bool.or_false]; exact p1
      · rw [List.append_nil, List.take_of_length_le hl]; exact r1
    · have ex' : isC l (i + 1) 120 = false := by cases q : isC l (i + 1) 120 with | true => exact absurd q ex | false => rfl
      unfold rTerms; rw [ex', ed, if_pos (by decide)]
theorem s_M_item {σ : pm_H} {m i : Nat} {l : List Nat} {w : Bool} {T : Tr} (h : mOk σ m l i w) (ht : mTr σ m 4 T) (hT : okTr T) (hn : T.2.length < 40) (hi : i ≤ l.length) : cV 5 201 [.ref m] σ (itmP m l w T σ (rItem l i)) := by
  obtain ⟨F, rs⟩ := T
  have hll := h.2.1.2.1
  have v4 : vp_in (4 : Int32) 13 := by rw [vp_in_iff]; decide
  have c4 : (4 : Int32).toNatClampNeg = 4 := by decide
  have h33 : Int32.ofInt (hr l i) = 33 ↔ isC l i 33 = true := h_lit h 33 (by decide)
  refine w_M_item_0 ⟨h.1.1, (s_M_here h).use (by omega) ?_⟩
  rw [h33]
  refine ⟨fun ex => ?_, fun ex => ?_⟩
  · have lx := isC_lt ex
    have ei : rItem l i = rFin l (i + 1) := by unfold rItem; rw [ex]; rfl
    rw [ei]
    have h1 := mOk_at h (show i + 1 ≤ 200 by omega)
    have f1 : pF m σ (pm_sF σ 1214 m (.int (Int32.ofInt ((i + 1 : Nat) : Int)))) := pF_sF (Or.inl rfl)
    simp only [h.1.1, h.2.2.2.1, oi_s, true_and, forall_eq]
    refine ⟨h1.1.1, (s_M_state h1).use (by omega) (fun σ2 p2 => ?_)⟩
    obtain ⟨f2, p2⟩ := p2
    have f12 := frX.tr f1 f2
    have m2 := pF_mS f12 h.1
    have t2 := frX.T f12 ht hT id
    have fs : ∀ v : Value, frM m (fun s => s = 4) σ2 (pm_sA σ2 (m + 1) 4 v) := fun v => ⟨fr_sA ⟨by omega, by omega⟩, fun s' hs' => mEq_sA (Or.inr (Or.inl ⟨by omega, fun q => hs' q.symm⟩))⟩
    have fi : ∀ v : Value, itG m σ (pm_sA σ2 (m + 1) 4 v) := fun v => frX.tr (pF_it f12) (frX.mono (fs v).X (fun _ q => q.elim) (fun _ q => q) (fun _ q => q))
    cases e1 : rNum l (i + 1) with
    | inl p =>
      rw [e1] at p2
      have er : rFin l (i + 1) = .inl p := by unfold rFin; rw [e1]
      rw [er]
      have p2' : mEr σ2 m p := p2
      have b0 := le0p (show p < 100000 by have := p2'.2.2; omega)
      simp only [m2.1, m2.f1, m2.t1, m2.l1, isr_ref, rv_ref, v4, c4, p2'.2.1, b0, not_true_eq_false, false_implies, true_implies, and_true, true_and, forall_eq]
      exact ⟨fi _, mEr_X p2' (fs _).X ((fs _).mS m2) id⟩
    | inr x =>
      obtain ⟨v, j⟩ := x
      rw [e1] at p2
      have er : rFin l (i + 1) = .inr (.inl v, j) := by unfold rFin; rw [e1]
      rw [er]
      have p2' : mOk σ2 m l j (w || decide (12 ≤ v)) := p2
      have z12' : z12 v < 12 := by unfold z12; split <;> omega
      have ez : nvI (.inr (v, j)) = v := rfl
      simp only [m2.1, m2.f1, m2.t1, m2.l1, isr_ref, rv_ref, v4, c4, p2'.2.2.2.2.2.1, im_0, t2.1, ez, st_one z12', i_orN, not_false_eq_true, false_implies, true_implies, true_and, forall_eq]
      refine ⟨fi _, mOk_X p2' (fs _).X ((fs _).mS m2) ⟨id, id, id, id⟩ (by omega), ?_⟩
      refine ⟨?_, ?_, t2.2.2.1, fun k r hk => mRu_eq (t2.2.2.2 k r hk) (hT.2 r (List.mem_of_getElem? hk)).2.2.2.1 (mEqR_sA (Or.inl (Or.inl (by omega))))⟩
      · rw [A_sA, if_pos ⟨rfl, rfl⟩]; rfl
      · rw [A_sA, if_neg (by omega)]; exact t2.2.1
  have ex' : isC l i 33 = false := by cases q : isC l i 33 with | true => exact absurd q ex | false => rfl
  have ei : rItem l i = rRule l i := by unfold rItem; rw [ex']; rfl
  rw [ei]
  refine ⟨h.1.1, (s_M_state h).use (by omega) (fun σ1 p1 => ?_)⟩
  obtain ⟨f1, p1⟩ := p1
  -- after a fault nothing more happens
  have bad : ∀ (p : Nat) (σ5 : pm_H), rRule l i = .inl p → pF m σ σ5 → mEr σ5 m p → pm_t σ5 m = 13 ∧ ∀ z6, z6 = iv (pm_F σ5 1215 m) → ¬ z6 < 0 ∧ (fun (o : pm_O) (σ' : pm_H) => o = .inl none ∧ itmP m l w (F, rs) σ (rRule l i) σ') (.inl none) σ5 := by
    intro p σ5 er f5 p5
    rw [er]
    refine ⟨p5.1.1, fun z6 e6 => ⟨?_, rfl, pF_it f5, p5⟩⟩
    rw [e6, p5.2.1]; exact lt0p (by have := p5.2.2; omega)
  cases e1 : rNum l i with
  | inl p =>
    rw [e1] at p1
    have p1' : mEr σ1 m p := p1
    have er : rRule l i = .inl p := by unfold rRule; rw [e1]
    refine ⟨p1'.1.1, (s_M_takes_e p1').use (by omega) (fun σ2 e2 => ?_)⟩
    subst e2
    refine ⟨p1'.1.1, (s_M_state_e p1').use (by omega) (fun σ2 e2 => ?_)⟩
    subst e2
    refine ⟨p1'.1.1, (s_M_takes_e p1').use (by omega) (fun σ2 e2 => ?_)⟩
    subst e2
    obtain ⟨b1, b2⟩ := bad p _ er f1 p1'
    exact ⟨b1, fun z6 e6 => ⟨fun q => absurd q (b2 z6 e6).1, fun _ => (b2 z6 e6).2⟩⟩
  | inr x =>
  obtain ⟨f, j1⟩ := x
  rw [e1] at p1
  have n1 := rNum_le e1
  have p1' : mOk σ1 m l j1 (w || decide (12 ≤ f)) := p1
  have ez1 : nvI (.inr (f, j1)) = f := rfl
  rw [ez1]
  refine ⟨p1'.1.1, (s_M_takes (c := 62) p1' (by decide)).use (by omega) (fun σ2 p2 => ?_)⟩
  obtain ⟨f2, p2⟩ := p2
  have f12 := frX.tr f1 f2
  cases c1 : isC l j1 62 with
  | false =>
    rw [c1, if_neg (by decide)] at p2
    have er : rRule l i = .inl j1 := by unfold rRule; rw [e1]; dsimp only; rw [c1]; rfl
    refine ⟨p2.1.1, (s_M_state_e p2).use (by omega) (fun σ3 e3 => ?_)⟩
    subst e3
    refine ⟨p2.1.1, (s_M_takes_e p2).use (by omega) (fun σ3 e3 => ?_)⟩
    subst e3
    obtain ⟨b1, b2⟩ := bad j1 _ er f12 p2
    exact ⟨b1, fun z6 e6 => ⟨fun q => absurd q (b2 z6 e6).1, fun _ => (b2 z6 e6).2⟩⟩
  | true =>
  rw [c1, if_pos rfl] at p2
  refine ⟨p2.1.1, (s_M_state p2).use (by omega) (fun σ3 p3 => ?_)⟩
  obtain ⟨f3, p3⟩ := p3
  have f13 := frX.tr f12 f3
  cases e2 : rNum l (j1 + 1) with
  | inl p =>
    rw [e2] at p3
    have p3' : mEr σ3 m p := p3
    have er : rRule l i = .inl p := by unfold rRule; rw [e1]; dsimp only; rw [c1, if_pos rfl, e2]
    refine ⟨p3'.1.1, (s_M_takes_e p3').use (by omega) (fun σ4 e4 => ?_)⟩
    subst e4
    obtain ⟨b1, b2⟩ := bad p _ er f13 p3'
    exact ⟨b1, fun z6 e6 => ⟨fun q => absurd q (b2 z6 e6).1, fun _ => (b2 z6 e6).2⟩⟩
  | inr x =>
  obtain ⟨t, j2⟩ := x
  rw [e2] at p3
  have n2 := rNum_le e2
  have p3' : mOk σ3 m l j2 (w || decide (12 ≤ f) || decide (12 ≤ t)) := p3
  have ez2 : nvI (.inr (t, j2)) = t := rfl
  rw [ez2]
  refine ⟨p3'.1.1, (s_M_takes (c := 58) p3' (by decide)).use (by omega) (fun σ5 p5 => ?_)⟩
  obtain ⟨f5, p5⟩ := p5
  have f15 := frX.tr f13 f5
  cases c2 : isC l j2 58 with
  | false =>
    rw [c2, if_neg (by decide)] at p5
    have er : rRule l i = .inl j2 := by unfold rRule; rw [e1]; dsimp only; rw [c1, if_pos rfl, e2]; dsimp only; rw [c2]; rfl
    obtain ⟨b1, b2⟩ := bad j2 _ er f15 p5
    exact ⟨b1, fun z6 e6 => ⟨fun q => absurd q (b2 z6 e6).1, fun _ => (b2 z6 e6).2⟩⟩
  | true =>
  rw [c2, if_pos rfl] at p5
  have lc2 := isC_lt c2
  clear bad
  have t5 := frX.T f15 ht hT id
  have zf : z12 f < 12 := by unfold z12; split <;> omega
  have zt : z12 t < 12 := by unfold z12; split <;> omega
  refine ⟨p5.1.1, fun z6 e6 => ⟨fun _ => ⟨p5.1.1, ?_⟩, fun q => ?_⟩⟩
  rotate_left
  · rw [e6, p5.2.2.2.2.2.1] at q; exact absurd im_1 q
  have hn' : rs.length < 40 := hn
  have e4 : (4 : Int32) = Int32.ofInt ((4 : Nat) : Int) := rfl
  rw [e4]
  refine (s_M_opens (x := z12 f) (y := z12 t) p5.1 t5 hT (by omega) hn').use (by omega) (fun σ7 p7 => ?_)
  dsimp only at p7
  have m7 := p7.2.mS p5.1
  have ok7 := mOk_X p5 p7.2.X m7 ⟨id, id, id, id⟩ (by omega)
  have hk : (rs ++ [((z12 f, z12 t, 0, 0, []) : Rl)])[rs.length]? = some (z12 f, z12 t, 0, 0, []) := by simp
  have ru7 := p7.1.2.2.2 rs.length _ hk
  have fi7 : itG m σ σ7 := frX.tr (pF_it f15) (frX.mono p7.2.X (fun _ q => q.elim) (fun _ q => q) (fun _ q => q))
  generalize hc0 : 40 * 4 + rs.length = c0 at *
  refine ⟨m7.1, s_M_ranges (σ0 := σ7) (by omega) (by omega) 120 (j2 + 1) _ (z12 f, z12 t, 0, 0, []) σ7 (by omega) (by omega) ok7 ru7 (Nat.zero_le _) okG_0 rR_rf (fun σ8 g8 p8 => ?_) _⟩
  cases e3 : rList (rRange l) l 120 (j2 + 1) with
  | inl p =>
    rw [e3] at p8
    have p8' : mEr σ8 m p := p8
    have er : rRule l i = .inl p := by unfold rRule; rw [e1]; dsimp only; rw [c1, if_pos rfl, e2]; dsimp only; rw [c2, if_pos rfl, e3]
    rw [er]
    refine w_M_item_71 ⟨p8'.1.1, (s_M_takes_e p8').use (by omega) (fun σ9 e9 => ?_)⟩
    subst e9
    refine ⟨p8'.1.1, fun z ez => ⟨fun _ => ⟨rfl, frX.tr fi7 (rR_it g8), p8'⟩, fun q => ?_⟩⟩
    rw [ez, p8'.2.1] at q; exact absurd (le0p (by have := p8'.2.2; omega)) q
  | inr x =>
  obtain ⟨rg, j3⟩ := x
  rw [e3] at p8
  have n3 := rList_le (P := fun x : Nat × Nat => x.1 < 100 ∧ x.2 < 100) (fun i a j => rRange_le) _ _ _ _ e3 (by omega)
  obtain ⟨ok8, lo, hi', ru8, G8, s8⟩ := (show mngO σ8 m c0 l _ (z12 f, z12 t, 0, 0, []) rg j3 from p8)
  refine s_M_item_71 (σ0 := σ7) (by omega) (by omega) ok8 ru8 (Nat.zero_le _) n3.2.2.2 g8 (fun σ' g' p' => ⟨rfl, frX.tr fi7 (rR_it g'), ?_⟩)
  cases c3 : isC l j3 47 with
  | false =>
    rw [c3, if_neg (by decide)] at p'
    have er : rRule l i = .inl j3 := by unfold rRule; rw [e1]; dsimp only; rw [c1, if_pos rfl, e2]; dsimp only; rw [c2, if_pos rfl, e3]; dsimp only; rw [c3]; rfl
    rw [er]; exact p'
  | true =>
  rw [c3, if_pos rfl] at p'
  cases e5 : rTerms l (j3 + 1) with
  | inl p =>
    rw [e5] at p'
    have er : rRule l i = .inl p := by unfold rRule; rw [e1]; dsimp only; rw [c1, if_pos rfl, e2]; dsimp only; rw [c2, if_pos rfl, e3]; dsimp only; rw [c3, if_pos rfl, e5]
    rw [er]; exact p'
  | inr x =>
  obtain ⟨ts, j4⟩ := x
  rw [e5] at p'
  have er : rRule l i = .inr (.inr (f, t, rg, ts), j4) := by unfold rRule; rw [e1]; dsimp only; rw [c1, if_pos rfl, e2]; dsimp only; rw [c2, if_pos rfl, e3]; dsimp only; rw [c3, if_pos rfl, e5]
  rw [er]
  obtain ⟨k1, k2⟩ := (show mtmO σ' m c0 l _ (rG (z12 f, z12 t, 0, 0, []) lo hi') ts j4 from p')
  have bits := mk_eq (p := gR rg) G8 (fun s hs => by
    rw [s8 s hs]
    have : sy (rLo ((z12 f, z12 t, 0, 0, []) : Rl)) (rHi ((z12 f, z12 t, 0, 0, []) : Rl)) s = false := (sy_z okG_0).mp ⟨rfl, rfl⟩ s hs
    rw [this, Bool.false_or])
  refine ⟨?_, ?_⟩
  · have ew : (w || badI (.inr (f, t, rg, ts))) = (w || decide (12 ≤ f) || decide (12 ≤ t) || rg.any (fun x => decide (x.2 < x.1)) || decide (6 < (rTs (rG ((z12 f, z12 t, 0, 0, []) : Rl) lo hi')).length + ts.length)) := by
      have e0 : decide (6 < (rTs (rG ((z12 f, z12 t, 0, 0, []) : Rl) lo hi')).length + ts.length) = decide (6 < ts.length) := by
        rw [decide_eq_decide]
        show 6 < 0 + ts.length ↔ _
        omega
      rw [e0, or5]; rfl
    rw [ew]; exact k1
  · have hcc : c0 = 160 + rs.length := by omega
    refine mTr_row p7.1 hT.2 g' hcc ?_
    unfold ruI
    rw [← bits.1, ← bits.2]
    exact k2
