/-! ===== parse: rules, items, the text, of the class ===== -/
theorem take_tt (a b : List Nat) : (a.take 6 ++ b).take 6 = (a ++ b).take 6 := by
  rw [List.take_append, List.take_append, List.take_take, List.length_take, Nat.min_self]
  by_cases c : a.length ≤ 6
  · rw [Nat.min_eq_right c]
  · rw [Nat.min_eq_left (by omega), show 6 - 6 = 6 - a.length by omega]
theorem trmO_app {σ' : pm_H} {e j t : Nat} {l ts : List Nat} {w : Bool} {r : Rl} (h : trmO σ' e l (w || decide (6 < (rTs r).length + ([t] : List Nat).length)) (rF r, rT r, rLo r, rHi r, (rTs r ++ [t]).take 6) ts j) : trmO σ' e l w r (t :: ts) j := by
  obtain ⟨h1, h2⟩ := h
  refine ⟨?_, ?_⟩
  · have e1 : (w || decide (6 < (rTs r).length + ([t] : List Nat).length) || decide (6 < (rTs ((rF r, rT r, rLo r, rHi r, (rTs r ++ [t]).take 6) : Rl)).length + ts.length)) = (w || decide (6 < (rTs r).length + (t :: ts).length)) := by
      have e2 : (rTs ((rF r, rT r, rLo r, rHi r, (rTs r ++ [t]).take 6) : Rl)).length = min 6 ((rTs r).length + 1) := by
        show ((rTs r ++ [t]).take 6).length = _
        rw [List.length_take, List.length_append]; rfl
      rw [e2, Bool.or_assoc]
      congr 1
      rw [show (t :: ts).length = ts.length + 1 from rfl, show ([t] : List Nat).length = 1 from rfl, ← Bool.decide_or, decide_eq_decide]
      omega
    rw [e1] at h1
    exact h1
  · have e3 : (rTs ((rF r, rT r, rLo r, rHi r, (rTs r ++ [t]).take 6) : Rl) ++ ts).take 6 = (rTs r ++ t :: ts).take 6 := by
      show ((rTs r ++ [t]).take 6 ++ ts).take 6 = _
      rw [show rTs r ++ t :: ts = (rTs r ++ [t]) ++ ts by simp, take_tt]
    rw [e3] at h2
    exact h2
theorem okTs_take {ts : List Nat} (h : ∀ t, t ∈ ts → okT t) : okTs (ts.take 6) := ⟨by rw [List.length_take]; omega, fun t ht => h t (List.mem_of_mem_take ht)⟩
theorem s_Re_terms_11 {σ0 : pm_H} {e : Nat} {l : List Nat} : ∀ (f n i : Nat) (w : Bool) (r : Rl) (σ : pm_H), n + f = 120 → rs5 σ e l i w → isRu σ (e + 2) r → okTs (rTs r) → fr (pRe e) σ0 σ → pm_R 3 51 11 [.ref e, .int (Int32.ofInt (n : Int))] [] σ (fun o σ' => o = .inl (some (.int (bI (isR (rList (rTerm l) l f i))))) ∧ fr (pRe e) σ0 σ' ∧ match rList (rTerm l) l f i with
    | .inl p => ∃ w', rs5 σ' e l p w'
    | .inr (ts, j) => trmO σ' e l w r ts j) := by
  intro f
  induction f with
  | zero =>
    intro n i w r σ hn h hr ok hf
    refine w_Re_readTerms_11 ⟨fun _ => ⟨rfl, rfl, hf, app_0 ok.1 h hr⟩, fun q => ?_⟩
    rw [le120 (by omega)] at q; omega
  | succ f ih =>
    intro n i w r σ hn h hr ok hf
    rw [rList_s]
    refine w_Re_readTerms_11 ⟨fun q => ?_, fun _ => ⟨h.1.1.1, (s_Re_readTerm h hr ok).use (by omega) (fun σ1 p1 => ?_)⟩⟩
    · rw [le120 (by omega)] at q; omega
    obtain ⟨f1, p1⟩ := p1
    have f01 := hf.tr f1
    cases e1 : rTerm l i with
    | inl p =>
      rw [e1] at p1
      exact ⟨fun _ => ⟨rfl, rfl, f01, p1⟩, fun q => absurd rfl q⟩
    | inr x =>
      obtain ⟨t, j⟩ := x
      rw [e1] at p1
      have n1 := rTerm_le e1
      obtain ⟨h1, r1⟩ := p1
      refine ⟨fun q => absurd q (show ¬ (1 : Int32) = 0 by decide), fun _ => ⟨h1.1.1.1, (s_Re_skip (c := 44) h1 (by decide)).use (by omega) (fun σ2 p2 => ?_)⟩⟩
      obtain ⟨h2, f2, _⟩ := p2
      have f02 := f01.tr (f2.mono (fun b hb => pE_Re hb))
      dsimp only
      cases ec : isC l j 44 with
      | false =>
        rw [ec] at h2
        refine ⟨fun _ => ⟨rfl, rfl, f02, h2, isRu_E r1 f2⟩, fun q => absurd rfl q⟩
      | true =>
        rw [ec] at h2
        refine ⟨fun q => absurd q (show ¬ (1 : Int32) = 0 by decide), fun _ => ?_⟩
        rw [oi_s]
        have rc := ih (n + 1) (j + 1) (w || decide (6 < (rTs r).length + ([t] : List Nat).length)) (rF r, rT r, rLo r, rHi r, (rTs r ++ [t]).take 6) σ2 (by omega) h2 (isRu_E r1 f2) (okTs_take (fun u hu => by
          rcases List.mem_append.mp hu with q | q
          · exact ok.2 u q
          · rw [List.mem_singleton.mp q]; exact n1.1)) f02
        refine pm_R_mono rc (fun o σ' q => ?_)
        obtain ⟨q1, q2, q3⟩ := q
        cases e3 : rList (rTerm l) l f (j + 1) with
        | inl p => rw [e3] at q1 q3; exact ⟨q1, q2, q3⟩
        | inr y =>
          obtain ⟨xs, k⟩ := y
          rw [e3] at q1 q3
          exact ⟨q1, q2, trmO_app q3⟩
theorem s_Re_readTerms {σ : pm_H} {e i : Nat} {l : List Nat} {w : Bool} {r : Rl} (h : rs5 σ e l i w) (hr : isRu σ (e + 2) r) (ok : okTs (rTs r)) : cIP 3 51 [.ref e] σ (bI (isR (rTerms l i))) (fun σ' => fr (pRe e) σ σ' ∧ match rTerms l i with
    | .inl p => ∃ w', rs5 σ' e l p w'
    | .inr (ts, j) => trmO σ' e l w r ts j) := by
  have go : rTerms l i = rList (rTerm l) l 120 i → pm_R 3 51 11 [.ref e, .int ((0 : Int32))] [] σ (fun o σ' => o = .inl (some (.int (bI (isR (rTerms l i))))) ∧ fr (pRe e) σ σ' ∧ match rTerms l i with
    | .inl p => ∃ w', rs5 σ' e l p w'
    | .inr (ts, j) => trmO σ' e l w r ts j) := fun et => by
    rw [et]
    exact s_Re_terms_11 120 0 i w r σ rfl h hr ok fr.rf
  refine w_Re_readTerms_0 ⟨h.1.1.1, gI (s_Re_isAt (c := 120) h (by decide)) (by omega) (fun ex => ⟨h.1.1.1, gI (s_Re_isAtDigit h) (by omega) (fun ed => ?_) (fun ed => go ?_)⟩) (fun ex => go ?_)⟩
  · have et : rTerms l i = .inr ([], i) := by unfold rTerms; rw [ex, ed, if_neg (by decide)]
    rw [et]
    exact ⟨rfl, rfl, fr.rf, app_0 ok.1 h hr⟩
  · unfold rTerms; rw [ex, ed, if_pos (by decide)]
  · unfold rTerms; rw [ex, if_pos (by rfl)]
theorem s_Re_isState {σ : pm_H} {e i v : Nat} {l : List Nat} {w : Bool} (h : rs5 σ e l i w) (hv : v < 100) : cIP 0 47 [.ref e, .int (Int32.ofInt (v : Int))] σ (bI (decide (v < 12))) (fun σ' => rs5 σ' e l i (w || decide (12 ≤ v)) ∧ fr (pE e) σ σ' ∧ pm_F σ' 503 e = pm_F σ 503 e) := by
  refine w_Re_isState_0 ?_
  rw [z_lt12 (nrg (show v < 2000000 by omega))]
  have e12 : (12 : Int32) ≤ Int32.ofInt (v : Int) ↔ 12 ≤ v := by
    refine (oi_lle (n := 12) ⟨by omega, by decide⟩).trans ?_
    show (12 : Int) ≤ (v : Int) ↔ _
    omega
  rw [e12]
  refine ⟨fun c => ⟨fun q => ?_, fun _ => ⟨rfl, ?_⟩⟩, fun c => ⟨⟨h.1.1.1, rfl⟩, fun σ1 e1 => ⟨fun _ => ⟨rfl, ?_⟩, fun q => ?_⟩⟩⟩
  · omega
  · rw [decide_eq_true (show v < 12 by omega), decide_eq_false (show ¬ 12 ≤ v by omega), Bool.or_false]
    exact ⟨rfl, h, fr.rf, rfl⟩
  · rw [decide_eq_false (show ¬ v < 12 by omega), decide_eq_true (show 12 ≤ v by omega), Bool.or_true, e1]
    exact ⟨rfl, rs5_w h, fr_sF rfl, by rw [F_sF, if_neg (by omega)]⟩
  · omega
theorem rs5_ru {σ σ' : pm_H} {e i : Nat} {l : List Nat} {w : Bool} (h : rs5 σ e l i w) (f : fr (pRu (e + 2)) σ σ') (hr : ruS σ' (e + 2)) : rs5 σ' e l i w := by
  refine ⟨⟨⟨?_, ?_, ?_, ?_, ?_, hr⟩, ?_, h.1.2.2.1, fun i c hc => ?_⟩, h.2.1, ?_, h.2.2.2.1, ?_, ?_⟩
  · rw [f.t]; exact h.1.1.1
  · rw [f.F (by unfold pRu; omega)]; exact h.1.1.2.1
  · rw [f.t]; exact h.1.1.2.2.1
  · rw [f.l]; exact h.1.1.2.2.2.1
  · rw [f.F (by unfold pRu; omega)]; exact h.1.1.2.2.2.2.1
  · rw [f.F (by unfold pRu; omega)]; exact h.1.2.1
  · rw [f.A (by unfold pRu; omega)]; exact h.1.2.2.2 i c hc
  · rw [f.F (by unfold pRu; omega)]; exact h.2.2.1
  · rw [f.F (by unfold pRu; omega)]; exact h.2.2.2.2.1
  · rw [f.F (by unfold pRu; omega)]; exact h.2.2.2.2.2
def rdP (e dr b : Nat) : Prop := pRe e b ∨ pTr dr b
theorem s_Re_keepRule {σ : pm_H} {e dr i : Nat} {l : List Nat} {w : Bool} {r : Rl} {T : Tr} {π : Nat → Nat} (h : rs5 σ e l i w) (hr : isRu σ (e + 2) r) (hl : (rTs r).length ≤ 6) (ht : isTr σ dr T π) (hn : T.2.length < 40) (d1 : dr + 122 ≤ e) : cV 3 48 [.ref e, .ref dr] σ (fun σ' => isTr σ' dr (T.1, T.2 ++ [r]) π ∧ fr (pTr dr) σ σ') := by
  refine w_Re_keepRule_0 ⟨ht.1.1, gD (s_Tr_isFull ht) (by omega) (fun _ => ?_) (fun q => absurd q (by omega))⟩
  simp only [h.1.1.1, h.1.1.2.2.2.2.1, hr.1.1, hr.2.1, hr.2.2.1, iv_int, isr_ref, rv_ref, ht.1.1, true_and, forall_eq]
  refine (s_Tr_append (x := rF r) (y := rT r) ht hn).use (by omega) (fun σ1 p1 => ?_)
  have hk : (T.2 ++ [((rF r, rT r, 0, 0, []) : Rl)])[T.2.length]? = some (rF r, rT r, 0, 0, []) := by simp
  have rb := (p1.1.at hk).2.2.2
  have hπ := (ht.2.1.1 _ hn).1
  have h1 := rs5_fr h p1.2 ⟨by unfold pTr; omega, by unfold pTr; omega, by unfold pTr; omega⟩
  have r1 := isRu_fr hr p1.2 (fun b hb => by unfold pRu at hb; unfold pTr; omega)
  simp only [h1.1.1.1, h1.1.1.2.2.2.2.1, rb.1.1, isr_ref, rv_ref, true_and, forall_eq]
  refine (s_Ru_copyFrom rb.1 r1 hl).use (by omega) (fun σ2 p2 => ⟨?_, p1.2.tr (p2.2.mono (fun b hb => by unfold pRu at hb; unfold pTr; omega))⟩)
  have t2 := isTr_upd p1.1 (k := T.2.length) (by simp) p2.2 p2.1
  dsimp only at t2
  rw [mid_set rfl] at t2
  exact t2
theorem s_Re_readFinal {σ : pm_H} {e dr i : Nat} {l : List Nat} {w : Bool} {T : Tr} {π : Nat → Nat} (h : rs5 σ e l i w) (ht : isTr σ dr T π) (hT : okTr T) (d1 : dr + 122 ≤ e) : cIP 2 45 [.ref e, .ref dr] σ (bI (isR (rFin l i))) (fun σ' => fr (rdP e dr) σ σ' ∧ match rFin l i with
    | .inl p => (∃ w', rs5 σ' e l p w') ∧ isTr σ' dr T π
    | .inr (a, j) => rs5 σ' e l j (w || badI a) ∧ isTr σ' dr (clsI T a) π) := by
  refine w_Re_readFinal_0 ⟨h.1.1.1, (s_Re_readNumber h).use (by omega) (fun σ1 p1 => ?_)⟩
  obtain ⟨f1, p1⟩ := p1
  have g1 : fr (rdP e dr) σ σ1 := f1.mono (fun b hb => Or.inl (pE_Re hb))
  have t1 := isTr_fr ht f1 (fun b hb => by unfold pTr at hb; unfold pE; omega)
  cases e1 : rNum l i with
  | inl p =>
    rw [e1] at p1
    have er : rFin l i = .inl p := by unfold rFin; rw [e1]
    rw [er]
    exact ⟨fun _ => ⟨rfl, rfl, g1, ⟨w, p1⟩, t1⟩, fun q => absurd rfl q⟩
  | inr x =>
    obtain ⟨v, j⟩ := x
    rw [e1] at p1
    have n1 := rNum_le e1
    obtain ⟨h1, hn1⟩ := p1
    have er : rFin l i = .inr (.inl v, j) := by unfold rFin; rw [e1]
    rw [er]
    refine ⟨fun q => absurd q (show ¬ (1 : Int32) = 0 by decide), fun _ => ?_⟩
    simp only [h1.1.1.1, hn1, true_and, forall_eq]
    refine (s_Re_isState h1 n1.1).use (by omega) (fun σ2 p2 => ?_)
    obtain ⟨h2, f2, k2⟩ := p2
    have g2 : fr (rdP e dr) σ σ2 := g1.tr (f2.mono (fun b hb => Or.inl (pE_Re hb)))
    have t2 := isTr_fr t1 f2 (fun b hb => by unfold pTr at hb; unfold pE; omega)
    by_cases c : v < 12
    · rw [decide_eq_true c]
      have ec : clsI T (.inl v) = (T.1 ||| 2 ^ v, T.2) := if_pos c
      refine ⟨fun q => absurd q (show ¬ (1 : Int32) = 0 by decide), fun _ => ?_⟩
      have hn2 : iv (pm_F σ2 503 e) = Int32.ofInt (v : Int) := by rw [k2]; exact hn1
      simp only [h2.1.1.1, hn2, t2.1.1, true_and, forall_eq]
      refine (s_Tr_markFinal (b := true) t2 hT.1 c).use (by omega) (fun σ3 p3 => ⟨rfl, rfl, g2.tr (p3.2.mono (fun b hb => Or.inr (by unfold pTr; omega))), ?_, ?_⟩)
      · exact rs5_fr h2 p3.2 ⟨by omega, by omega, by omega⟩
      · rw [ec]; exact p3.1
    · rw [decide_eq_false c]
      have ec : clsI T (.inl v) = T := if_neg c
      refine ⟨fun _ => ⟨rfl, rfl, g2, h2, by rw [ec]; exact t2⟩, fun q => absurd rfl q⟩
theorem clsI_r {T : Tr} {f t : Nat} {rg : List (Nat × Nat)} {ts : List Nat} : clsI T (.inr (f, t, rg, ts)) = if f < 12 ∧ t < 12 then (T.1, T.2 ++ [ruI f t rg ts]) else T := rfl
theorem s_Re_readRule {σ : pm_H} {e dr i : Nat} {l : List Nat} {w : Bool} {T : Tr} {π : Nat → Nat} (h : rs5 σ e l i w) (ht : isTr σ dr T π) (hn : T.2.length < 40) (d1 : dr + 122 ≤ e) : cIP 4 46 [.ref e, .ref dr] σ (bI (isR (rRule l i))) (fun σ' => fr (rdP e dr) σ σ' ∧ match rRule l i with
    | .inl p => (∃ w', rs5 σ' e l p w') ∧ isTr σ' dr T π
    | .inr (a, j) => rs5 σ' e l j (w || badI a) ∧ isTr σ' dr (clsI T a) π) := by
  have i10 : ¬ (1 : Int32) = 0 := by decide
  have pEd : ∀ b, pE e b → rdP e dr b := fun b hb => Or.inl (pE_Re hb)
  have pRd : ∀ b, pRe e b → rdP e dr b := fun b hb => Or.inl hb
  have noE : ∀ b, pTr dr b → ¬ pRe e b := fun b hb => by unfold pTr at hb; unfold pRe; omega
  have noE1 : ∀ b, pTr dr b → ¬ pE e b := fun b hb => by unfold pTr at hb; unfold pE; omega
  -- a failure
  have bad : ∀ (p : Nat) (w' : Bool) (σ' : pm_H), rRule l i = .inl p → rs5 σ' e l p w' → isTr σ' dr T π → fr (rdP e dr) σ σ' → (0 : Int32) &&& 1 = 0 ∧ (fun (o : pm_O) (σ' : pm_H) => o = .inl (some (.int (bI (isR (rRule l i))))) ∧ fr (rdP e dr) σ σ' ∧ match rRule l i with
    | .inl p => (∃ w', rs5 σ' e l p w') ∧ isTr σ' dr T π
    | .inr (a, j) => rs5 σ' e l j (w || badI a) ∧ isTr σ' dr (clsI T a) π) (.inl (some (.int ((0 : Int32))))) σ' := by
    intro p w' σ' er h' t' f'
    rw [er]
    exact ⟨rfl, rfl, f', ⟨w', h'⟩, t'⟩
  refine w_Re_readRule_0 ⟨h.1.1.1, (s_Re_readNumber h).use (by omega) (fun σ1 p1 => ?_)⟩
  obtain ⟨f1, p1⟩ := p1
  have g1 := f1.mono pEd
  have t1 := isTr_fr ht f1 noE1
  cases e1 : rNum l i with
  | inl p =>
    rw [e1] at p1
    exact ⟨fun _ => bad p w σ1 (by unfold rRule; rw [e1]) p1 t1 g1, fun q => absurd rfl q⟩
  | inr x =>
  obtain ⟨f, j1⟩ := x
  rw [e1] at p1
  have n1 := rNum_le e1
  obtain ⟨h1, hn1⟩ := p1
  refine ⟨fun q => absurd q i10, fun _ => ?_⟩
  simp only [h1.1.1.1, hn1, true_and, forall_eq]
  refine (s_Re_skip (c := 62) h1 (by decide)).use (by omega) (fun σ2 p2 => ?_)
  obtain ⟨h2, f2, k2⟩ := p2
  have g2 := g1.tr (f2.mono pEd)
  have t2 := isTr_fr t1 f2 noE1
  cases c1 : isC l j1 62 with
  | false =>
    rw [c1] at h2
    exact ⟨fun _ => bad j1 w σ2 (by unfold rRule; rw [e1]; dsimp only; rw [c1]; rfl) h2 t2 g2, fun q => absurd rfl q⟩
  | true =>
  rw [c1] at h2
  rw [if_pos rfl] at h2
  refine ⟨fun q => absurd q i10, fun _ => ⟨h2.1.1.1, (s_Re_readNumber h2).use (by omega) (fun σ3 p3 => ?_)⟩⟩
  obtain ⟨f3, p3⟩ := p3
  have g3 := g2.tr (f3.mono pEd)
  have t3 := isTr_fr t2 f3 noE1
  cases e2 : rNum l (j1 + 1) with
  | inl p =>
    rw [e2] at p3
    exact ⟨fun _ => bad p w σ3 (by unfold rRule; rw [e1]; dsimp only; rw [c1, if_pos rfl, e2]) p3 t3 g3, fun q => absurd rfl q⟩
  | inr x =>
  obtain ⟨t, j2⟩ := x
  rw [e2] at p3
  have n2 := rNum_le e2
  obtain ⟨h3, hn3⟩ := p3
  refine ⟨fun q => absurd q i10, fun _ => ?_⟩
  simp only [h3.1.1.1, hn3, h3.1.1.2.2.2.2.1, h3.1.1.2.2.2.2.2.1, isr_ref, rv_ref, true_and, forall_eq]
  refine (s_Ru_begin h3.1.1.2.2.2.2.2 f t).use (by omega) (fun σ4 p4 => ?_)
  have h4 := rs5_ru h3 p4.2 p4.1.1
  have g4 := g3.tr (p4.2.mono (fun b hb => pRd b (pRu_Re hb)))
  have t4 := isTr_fr t3 p4.2 (fun b hb => by unfold pTr at hb; unfold pRu; omega)
  refine ⟨h4.1.1.1, (s_Re_skip (c := 58) h4 (by decide)).use (by omega) (fun σ5 p5 => ?_)⟩
  obtain ⟨h5, f5, k5⟩ := p5
  have g5 := g4.tr (f5.mono pEd)
  have t5 := isTr_fr t4 f5 noE1
  have r5 := isRu_E p4.1 f5
  cases c2 : isC l j2 58 with
  | false =>
    rw [c2] at h5
    exact ⟨fun _ => bad j2 w σ5 (by unfold rRule; rw [e1]; dsimp only; rw [c1, if_pos rfl, e2]; dsimp only; rw [c2]; rfl) h5 t5 g5, fun q => absurd rfl q⟩
  | true =>
  rw [c2] at h5
  rw [if_pos rfl] at h5
  refine ⟨fun q => absurd q i10, fun _ => ⟨h5.1.1.1, ?_⟩⟩
  have rr : cIP 3 49 [.ref e] σ5 (bI (isR (rList (rRange l) l 120 (j2 + 1)))) (fun σ' => fr (pRe e) σ5 σ' ∧ match rList (rRange l) l 120 (j2 + 1) with
    | .inl p => ∃ w', rs5 σ' e l p w'
    | .inr (xs, j) => rngO σ' e l w (f, t, 0, 0, []) xs j) := w_Re_readRanges_0 (s_Re_ranges_2 120 0 (j2 + 1) w (f, t, 0, 0, []) σ5 rfl h5 r5 okG_0 fr.rf (fun q => by cases q))
  refine rr.use (by omega) (fun σ6 p6 => ?_)
  obtain ⟨f6, p6⟩ := p6
  have g6 := g5.tr (f6.mono pRd)
  have t6 := isTr_fr t5 f6 noE
  cases e3 : rList (rRange l) l 120 (j2 + 1) with
  | inl p =>
    rw [e3] at p6
    obtain ⟨w', p6⟩ := p6
    exact ⟨fun _ => bad p w' σ6 (by unfold rRule; rw [e1]; dsimp only; rw [c1, if_pos rfl, e2]; dsimp only; rw [c2, if_pos rfl, e3]) p6 t6 g6, fun q => absurd rfl q⟩
  | inr x =>
  obtain ⟨rg, j3⟩ := x
  rw [e3] at p6
  obtain ⟨h6, lo, hi, r6, G6, s6⟩ := p6
  refine ⟨fun q => absurd q i10, fun _ => ⟨h6.1.1.1, (s_Re_skip (c := 47) h6 (by decide)).use (by omega) (fun σ7 p7 => ?_)⟩⟩
  obtain ⟨h7, f7, k7⟩ := p7
  have g7 := g6.tr (f7.mono pEd)
  have t7 := isTr_fr t6 f7 noE1
  have r7 := isRu_E r6 f7
  cases c3 : isC l j3 47 with
  | false =>
    rw [c3] at h7
    exact ⟨fun _ => bad j3 _ σ7 (by unfold rRule; rw [e1]; dsimp only; rw [c1, if_pos rfl, e2]; dsimp only; rw [c2, if_pos rfl, e3]; dsimp only; rw [c3]; rfl) h7 t7 g7, fun q => absurd rfl q⟩
  | true =>
  rw [c3] at h7
  rw [if_pos rfl] at h7
  refine ⟨fun q => absurd q i10, fun _ => ⟨h7.1.1.1, (s_Re_readTerms h7 r7 ⟨Nat.zero_le _, fun u hu => by cases hu⟩).use (by omega) (fun σ8 p8 => ?_)⟩⟩
  obtain ⟨f8, p8⟩ := p8
  have g8 := g7.tr (f8.mono pRd)
  have t8 := isTr_fr t7 f8 noE
  cases e4 : rTerms l (j3 + 1) with
  | inl p =>
    rw [e4] at p8
    obtain ⟨w', p8⟩ := p8
    exact ⟨fun _ => bad p w' σ8 (by unfold rRule; rw [e1]; dsimp only; rw [c1, if_pos rfl, e2]; dsimp only; rw [c2, if_pos rfl, e3]; dsimp only; rw [c3, if_pos rfl, e4]) p8 t8 g8, fun q => absurd rfl q⟩
  | inr x =>
  obtain ⟨ts, j4⟩ := x
  rw [e4] at p8
  obtain ⟨h8, r8⟩ := p8
  have er : rRule l i = .inr (.inr (f, t, rg, ts), j4) := by unfold rRule; rw [e1]; dsimp only; rw [c1, if_pos rfl, e2]; dsimp only; rw [c2, if_pos rfl, e3]; dsimp only; rw [c3, if_pos rfl, e4]
  have bits := mk_eq (p := gR rg) G6 (fun s hs => by
    rw [s6 s hs]
    have : sy (rLo ((f, t, 0, 0, []) : Rl)) (rHi ((f, t, 0, 0, []) : Rl)) s = false := (sy_z okG_0).mp ⟨rfl, rfl⟩ s hs
    rw [this, Bool.false_or])
  have r8' : isRu σ8 (e + 2) (ruI f t rg ts) := by
    unfold ruI
    rw [← bits.1, ← bits.2]
    exact r8
  have w8 : (w || rg.any (fun x => decide (x.2 < x.1)) || decide (6 < (rTs (rG ((f, t, 0, 0, []) : Rl) lo hi)).length + ts.length)) = (w || badR rg ts) := by
    unfold badR
    rw [Bool.or_assoc]
    congr 2
    rw [decide_eq_decide]
    show 6 < 0 + ts.length ↔ _
    omega
  rw [w8] at h8
  rw [er]
  refine ⟨fun q => absurd q i10, fun _ => ⟨h8.1.1.1, (s_Re_isState h8 n1.1).use (by omega) (fun σ9 p9 => ?_)⟩⟩
  obtain ⟨h9, f9, k9⟩ := p9
  have g9 := g8.tr (f9.mono pEd)
  have t9 := isTr_fr t8 f9 noE1
  have r9 := isRu_E r8' f9
  have bI' : badI (.inr (f, t, rg, ts)) = (badR rg ts || (decide (12 ≤ f) || decide (12 ≤ t))) := rfl
  by_cases cf : f < 12
  · rw [decide_eq_true cf]
    rw [decide_eq_false (show ¬ 12 ≤ f by omega), Bool.or_false] at h9
    refine ⟨fun q => absurd q i10, fun _ => ⟨h9.1.1.1, (s_Re_isState h9 n2.1).use (by omega) (fun σ10 p10 => ?_)⟩⟩
    obtain ⟨h10, f10, k10⟩ := p10
    have g10 := g9.tr (f10.mono pEd)
    have t10 := isTr_fr t9 f10 noE1
    have r10 := isRu_E r9 f10
    rw [Bool.or_assoc] at h10
    by_cases ct : t < 12
    · rw [decide_eq_true ct]
      refine ⟨fun q => absurd q i10, fun _ => ⟨h10.1.1.1, (s_Re_keepRule h10 r10 (by show (ts.take 6).length ≤ 6; rw [List.length_take]; omega) t10 hn d1).use (by omega) (fun σ11 p11 => ⟨rfl, rfl, g10.tr (p11.2.mono (fun b hb => Or.inr hb)), ?_, ?_⟩)⟩⟩
      · rw [bI', decide_eq_false (show ¬ 12 ≤ f by omega), Bool.false_or]
        exact rs5_fr h10 p11.2 ⟨by unfold pTr; omega, by unfold pTr; omega, by unfold pTr; omega⟩
      · rw [clsI_r, if_pos ⟨cf, ct⟩]; exact p11.1
    · rw [decide_eq_false ct]
      refine ⟨fun _ => ⟨rfl, rfl, g10, ?_, ?_⟩, fun q => absurd rfl q⟩
      · rw [bI', decide_eq_false (show ¬ 12 ≤ f by omega), Bool.false_or]
        exact h10
      · rw [clsI_r, if_neg (fun q => ct q.2)]; exact t10
  · rw [decide_eq_false cf]
    refine ⟨fun _ => ⟨rfl, rfl, g9, ?_, ?_⟩, fun q => absurd rfl q⟩
    · rw [decide_eq_true (show 12 ≤ f by omega), Bool.or_true] at h9
      rw [bI', decide_eq_true (show 12 ≤ f by omega), Bool.true_or, Bool.or_true, Bool.or_true]
      exact h9
    · rw [clsI_r, if_neg (fun q => cf q.1)]; exact t9
