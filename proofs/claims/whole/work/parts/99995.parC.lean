/-! ===== parse: terms, rules, items of the class ===== -/
def trmO (σ' : pm_H) (e : Nat) (l : List Nat) (w : Bool) (r : Rl) (ts : List Nat) (j : Nat) : Prop := rs5 σ' e l j (w || decide (6 < (rTs r).length + ts.length)) ∧ isRu σ' (e + 2) (rF r, rT r, rLo r, rHi r, (rTs r ++ ts).take 6)
theorem app_0 {σ' : pm_H} {e j : Nat} {l : List Nat} {w : Bool} {r : Rl} (hl : (rTs r).length ≤ 6) (h : rs5 σ' e l j w) (hr : isRu σ' (e + 2) r) : trmO σ' e l w r [] j := by
  refine ⟨?_, ?_⟩
  · rw [show decide (6 < (rTs r).length + ([] : List Nat).length) = false from decide_eq_false (by show ¬ 6 < (rTs r).length + 0; omega), Bool.or_false]; exact h
  · rw [List.append_nil, List.take_of_length_le hl]; exact hr
theorem s_Re_term_28 {σ0 σ : pm_H} {e i t : Nat} {l : List Nat} {w b : Bool} {r : Rl} {x1 : Int32} {d : Nat} (hd : 1 ≤ d) (h : rs5 σ e l i w) (hr : isRu σ (e + 2) r) (ok : okTs (rTs r)) (ht : okT t) (hv : (if b then 1000 + x1 * iv (pm_F σ 503 e) else 0 + x1 * iv (pm_F σ 503 e)) = Int32.ofInt (t : Int)) (f : fr (pRe e) σ0 σ) : pm_R (d + 1) 52 28 [.ref e, .int x1, .int (bI b)] [] σ (fun o σ' => o = .inl (some (.int (bI true))) ∧ fr (pRe e) σ0 σ' ∧ trmO σ' e l w r [t] i) := by
  have l6 := ok.1
  have t5 := okT_lt ht
  have e6 : Int32.ofInt ((rTs r).length : Int) < 6 ↔ (rTs r).length < 6 := by rw [z_lt6 (nrg (by omega))]; omega
  refine w_Re_readTerm_28 ?_
  simp only [h.1.1.1, h.1.1.2.2.2.2.1, hr.1.1, hr.2.2.2.1, iv_int, isr_ref, rv_ref, true_and, forall_eq, e6, bI_0]
  have key : (rTs r).length < 6 → pm_C d 61 [.ref (e + 2), .int (Int32.ofInt (t : Int))] σ (pm_kV (fun σ5 => (1 : Int32) &&& 1 = 1 ∧ (fun (o : pm_O) (σ' : pm_H) => o = .inl (some (.int (bI true))) ∧ fr (pRe e) σ0 σ' ∧ trmO σ' e l w r [t] i) (.inl (some (.int ((1 : Int32))))) σ5) (pm_kX (d + 1) 52 false [] (fun (o : pm_O) (σ' : pm_H) => o = .inl (some (.int (bI true))) ∧ fr (pRe e) σ0 σ' ∧ trmO σ' e l w r [t] i))) := by
    intro c
    refine (s_Ru_append hr c t5 (fun u hu => okT_lt (ok.2 u hu))).use (by omega) (fun σ1 p1 => ⟨rfl, rfl, f.tr (p1.2.mono (fun b hb => pRu_Re hb)), ?_, ?_⟩)
    · rw [show decide (6 < (rTs r).length + ([t] : List Nat).length) = false from decide_eq_false (by show ¬ 6 < (rTs r).length + 1; omega), Bool.or_false]
      refine ⟨⟨⟨?_, ?_, ?_, ?_, ?_, p1.1.1⟩, ?_, h.1.2.2.1, fun i c hc => ?_⟩, h.2.1, ?_, h.2.2.2.1, ?_, ?_⟩
      · rw [p1.2.t]; exact h.1.1.1
      · rw [p1.2.F (by unfold pRu; omega)]; exact h.1.1.2.1
      · rw [p1.2.t]; exact h.1.1.2.2.1
      · rw [p1.2.l]; exact h.1.1.2.2.2.1
      · rw [p1.2.F (by unfold pRu; omega)]; exact h.1.1.2.2.2.2.1
      · rw [p1.2.F (by unfold pRu; omega)]; exact h.1.2.1
      · rw [p1.2.A (by unfold pRu; omega)]; exact h.1.2.2.2 i c hc
      · rw [p1.2.F (by unfold pRu; omega)]; exact h.2.2.1
      · rw [p1.2.F (by unfold pRu; omega)]; exact h.2.2.2.2.1
      · rw [p1.2.F (by unfold pRu; omega)]; exact h.2.2.2.2.2
    · rw [List.take_of_length_le (by rw [List.length_append]; show (rTs r).length + 1 ≤ 6; omega)]
      exact p1.1
  refine ⟨fun c => ?_, fun c => ⟨rfl, rfl, rfl, f.tr (fr_sF (by unfold pRe; omega)), ?_, ?_⟩⟩
  · cases b with
    | false =>
      refine ⟨fun _ => ?_, fun q => absurd rfl q⟩
      rw [if_neg (by decide)] at hv
      rw [hv]; exact key c
    | true =>
      refine ⟨fun q => (by cases q), fun _ => ?_⟩
      rw [if_pos rfl] at hv
      rw [hv]; exact key c
  · rw [show decide (6 < (rTs r).length + ([t] : List Nat).length) = true from decide_eq_true (by show 6 < (rTs r).length + 1; omega), Bool.or_true]
    exact rs5_w h
  · rw [List.take_append_of_le_length (by omega), List.take_of_length_le (by omega)]
    exact isRu_E hr (fr_sF rfl)
theorem s_Re_readTerm {σ : pm_H} {e i : Nat} {l : List Nat} {w : Bool} {r : Rl} (h : rs5 σ e l i w) (hr : isRu σ (e + 2) r) (ok : okTs (rTs r)) : cIP 2 52 [.ref e] σ (bI (isR (rTerm l i))) (fun σ' => fr (pRe e) σ σ' ∧ match rTerm l i with
    | .inl p => ∃ w', rs5 σ' e l p w'
    | .inr (t, j) => trmO σ' e l w r [t] j) := by
  have i10 : ¬ (1 : Int32) = 0 := by decide
  have im10 : ¬ (-1 : Int32) = 0 := by decide
  refine w_Re_readTerm_0 ⟨h.1.1.1, (s_Re_skip (c := 120) h (by decide)).use (by omega) (fun σ1 p1 => ?_)⟩
  obtain ⟨h1, f1, k1⟩ := p1
  have r1 := isRu_E hr f1
  have g1 := f1.mono (fun b hb => pE_Re hb)
  -- a number, then the term
  have num : ∀ (σ2 : pm_H) (k : Nat) (x1 : Int32) (b : Bool), rs5 σ2 e l k w → isRu σ2 (e + 2) r → fr (pRe e) σ σ2 → ∀ (g : Nat → Nat), (∀ v j, rNum l k = .inr (v, j) → okT (g v) ∧ (if b then 1000 + x1 * Int32.ofInt (v : Int) else 0 + x1 * Int32.ofInt (v : Int)) = Int32.ofInt ((g v : Nat) : Int)) → (rTerm l i = match rNum l k with
    | .inl p => .inl p
    | .inr (v, j) => .inr (g v, j)) → pm_C 1 53 [.ref e] σ2 (pm_kI (fun r4 σ4 => ((r4 = 0 → (0 : Int32) &&& 1 = 0 ∧ (fun (o : pm_O) (σ' : pm_H) => o = .inl (some (.int (bI (isR (rTerm l i))))) ∧ fr (pRe e) σ σ' ∧ match rTerm l i with
    | .inl p => ∃ w', rs5 σ' e l p w'
    | .inr (t, j) => trmO σ' e l w r [t] j) (.inl (some (.int ((0 : Int32))))) σ4) ∧ (¬ r4 = 0 → pm_R (1 + 1) 52 28 [.ref e, .int x1, .int (bI b)] [] σ4 (fun (o : pm_O) (σ' : pm_H) => o = .inl (some (.int (bI (isR (rTerm l i))))) ∧ fr (pRe e) σ σ' ∧ match rTerm l i with
    | .inl p => ∃ w', rs5 σ' e l p w'
    | .inr (t, j) => trmO σ' e l w r [t] j)))) (pm_kX (1 + 1) 52 false [] (fun (o : pm_O) (σ' : pm_H) => o = .inl (some (.int (bI (isR (rTerm l i))))) ∧ fr (pRe e) σ σ' ∧ match rTerm l i with
    | .inl p => ∃ w', rs5 σ' e l p w'
    | .inr (t, j) => trmO σ' e l w r [t] j))) := by
    intro σ2 k x1 b h2 r2 f2 g hg et
    refine (s_Re_readNumber h2).use (by omega) (fun σ3 p3 => ?_)
    obtain ⟨f3, p3⟩ := p3
    have f23 := f2.tr (f3.mono (fun b hb => pE_Re hb))
    rw [et]
    cases e3 : rNum l k with
    | inl p =>
      rw [e3] at p3
      exact ⟨fun _ => ⟨rfl, rfl, f23, w, p3⟩, fun q => absurd rfl q⟩
    | inr x =>
      obtain ⟨v, j⟩ := x
      rw [e3] at p3
      have hg1 := hg v j e3
      exact ⟨fun q => absurd q (show ¬ (1 : Int32) = 0 by decide), fun _ => s_Re_term_28 (by omega) p3.1 (isRu_E r2 f3) ok hg1.1 (by rw [p3.2]; exact hg1.2) f23⟩
  cases ex : isC l i 120 with
  | false =>
    rw [ex] at h1
    refine ⟨fun _ => ⟨fun q => absurd q i10, fun _ => ⟨h1.1.1.1, ?_⟩⟩, fun q => absurd rfl q⟩
    refine num σ1 i 1 false h1 r1 g1 (fun v => v) (fun v j hv => ⟨Or.inl (rNum_le hv).1, ?_⟩) ?_
    · rw [if_neg (by decide), show (1 : Int32) * Int32.ofInt (v : Int) = Int32.ofInt (1 * (v : Int)) from oi_lmul _ 1, show (0 : Int32) + Int32.ofInt (1 * (v : Int)) = Int32.ofInt (0 + 1 * (v : Int)) from oi_ladd _ 0]
      congr 1; omega
    · unfold rTerm
      rw [ex, if_neg (by decide)]
      cases rNum l i with
      | inl p => rfl
      | inr x => rfl
  | true =>
    rw [ex] at h1
    rw [if_pos rfl] at h1
    refine ⟨fun q => absurd q i10, fun _ => ⟨h1.1.1.1, (s_Re_skip (c := 43) h1 (by decide)).use (by omega) (fun σ2 p2 => ?_)⟩⟩
    obtain ⟨h2, f2, k2⟩ := p2
    have r2 := isRu_E r1 f2
    have g2 := g1.tr (f2.mono (fun b hb => pE_Re hb))
    cases e43 : isC l (i + 1) 43 with
    | true =>
      rw [e43] at h2
      rw [if_pos rfl] at h2
      refine ⟨fun q => absurd q i10, fun _ => ⟨fun q => absurd q i10, fun _ => ⟨h2.1.1.1, ?_⟩⟩⟩
      refine num σ2 (i + 2) 1 true h2 r2 g2 (fun v => 1000 + v) (fun v j hv => ⟨?_, ?_⟩) ?_
      · have := (rNum_le hv).1
        show okT (1000 + v)
        unfold okT; omega
      · rw [if_pos rfl, show (1 : Int32) * Int32.ofInt (v : Int) = Int32.ofInt (1 * (v : Int)) from oi_lmul _ 1, show (1000 : Int32) + Int32.ofInt (1 * (v : Int)) = Int32.ofInt (1000 + 1 * (v : Int)) from oi_ladd _ 1000]
        congr 1; omega
      · unfold rTerm
        rw [ex, if_pos rfl, e43, if_pos rfl]
        cases rNum l (i + 2) with
        | inl p => rfl
        | inr x => rfl
    | false =>
      rw [e43] at h2
      rw [if_neg (by decide)] at h2
      refine ⟨fun _ => ⟨h2.1.1.1, (s_Re_skip (c := 45) h2 (by decide)).use (by omega) (fun σ3 p3 => ?_)⟩, fun q => absurd rfl q⟩
      obtain ⟨h3, f3, k3⟩ := p3
      have r3 := isRu_E r2 f3
      have g3 := g2.tr (f3.mono (fun b hb => pE_Re hb))
      cases e45 : isC l (i + 1) 45 with
      | true =>
        rw [e45] at h3
        rw [if_pos rfl] at h3
        refine ⟨fun q => absurd q i10, fun _ => ⟨fun q => absurd q im10, fun _ => ⟨h3.1.1.1, ?_⟩⟩⟩
        refine num σ3 (i + 2) (-1) true h3 r3 g3 (fun v => 1000 - v) (fun v j hv => ⟨?_, ?_⟩) ?_
        · have := (rNum_le hv).1
          show okT (1000 - v)
          unfold okT; omega
        · have v100 := (rNum_le hv).1
          rw [if_pos rfl, show (-1 : Int32) = Int32.ofInt (-1) from by decide, oi_mul, show (1000 : Int32) + Int32.ofInt (-1 * (v : Int)) = Int32.ofInt (1000 + -1 * (v : Int)) from oi_ladd _ 1000]
          congr 1; omega
        · unfold rTerm
          rw [ex, if_pos rfl, e43, if_neg (by decide), e45, if_pos rfl]
          cases rNum l (i + 2) with
          | inl p => rfl
          | inr x => rfl
      | false =>
        rw [e45] at h3
        rw [if_neg (by decide)] at h3
        have et : rTerm l i = .inr (1000, i + 1) := by unfold rTerm; rw [ex, if_pos rfl, e43, if_neg (by decide), e45, if_neg (by decide)]
        refine ⟨fun _ => ⟨fun _ => ?_, fun q => absurd rfl q⟩, fun q => absurd rfl q⟩
        rw [et]
        refine s_Re_term_28 (b := true) (by omega) h3 r3 ok (Or.inr (by omega)) ?_ g3
        rw [if_pos rfl]
        obtain ⟨z, hz, _⟩ := oi_of (iv (pm_F σ3 503 e))
        rw [hz, show (0 : Int32) * Int32.ofInt z = Int32.ofInt (0 * z) from oi_lmul _ 0, show (1000 : Int32) + Int32.ofInt (0 * z) = Int32.ofInt (1000 + 0 * z) from oi_ladd _ 1000]
        congr 1; omega
