/-! ===== parse: the class reads the text ===== -/
theorem okTr_cls {T : Tr} {a : It} (hT : okTr T) (ha : okI a) : okTr (clsI T a) := by
  cases a with
  | inl v =>
    show okTr (if v < 12 then (T.1 ||| 2 ^ v, T.2) else T)
    by_cases c : v < 12
    · rw [if_pos c]; exact ⟨or_lt hT.1 (two_lt c), hT.2⟩
    · rw [if_neg c]; exact hT
  | inr x =>
    obtain ⟨f, t, rg, ts⟩ := x
    rw [clsI_r]
    by_cases c : f < 12 ∧ t < 12
    · rw [if_pos c]
      refine ⟨hT.1, fun r hr => ?_⟩
      rcases List.mem_append.mp hr with q | q
      · exact hT.2 r q
      · rw [List.mem_singleton.mp q]; exact okR_ruI c.1 c.2 ha.2.2
    · rw [if_neg c]; exact hT
theorem len_cls {T : Tr} {a : It} : (clsI T a).2.length ≤ T.2.length + (if isRul a then 1 else 0) := by
  cases a with
  | inl v =>
    show (if v < 12 then (T.1 ||| 2 ^ v, T.2) else T).2.length ≤ T.2.length + 0
    by_cases c : v < 12
    · rw [if_pos c]; exact Nat.le_refl _
    · rw [if_neg c]; exact Nat.le_refl _
  | inr x =>
    obtain ⟨f, t, rg, ts⟩ := x
    rw [clsI_r]
    show _ ≤ T.2.length + 1
    by_cases c : f < 12 ∧ t < 12
    · rw [if_pos c, List.length_append]; exact Nat.le_refl _
    · rw [if_neg c]; omega
theorem rItems_s {l : List Nat} {f i : Nat} : rItems l (f + 1) i = match rItem l i with
    | .inl p => .inl p
    | .inr (a, j) => if l.length ≤ j then .inr [a] else if isC l j 59 then (match rItems l f (j + 1) with
      | .inl p => .inl p
      | .inr as => .inr (a :: as)) else .inl j := rfl
def isS : Nat ⊕ List It → Bool
  | .inl _ => false
  | .inr _ => true
def txP (σ0 : pm_H) (e dr : Nat) (l : List Nat) (π : Nat → Nat) (w : Bool) (T : Tr) (x : Nat ⊕ List It) (σ' : pm_H) : Prop := fr (rdP e dr) σ0 σ' ∧ match x with
  | .inl p => (∃ w', rs5 σ' e l p w') ∧ ∃ T', isTr σ' dr T' π
  | .inr as => (∃ j, rs5 σ' e l j (w || as.any badI)) ∧ isTr σ' dr (as.foldl clsI T) π ∧ okTr (as.foldl clsI T)
theorem s_Re_item {σ : pm_H} {e dr i : Nat} {l : List Nat} {w : Bool} {T : Tr} {π : Nat → Nat} {x2 : Int32} {Q : pm_O → pm_H → Prop} (h : rs5 σ e l i w) (ht : isTr σ dr T π) (hT : okTr T) (hn : T.2.length < 40) (d1 : dr + 122 ≤ e) (hx : ¬ 120 ≤ x2)
    (hQ : ∀ σ', fr (rdP e dr) σ σ' → (match rItem l i with
    | .inl p => (∃ w', rs5 σ' e l p w') ∧ isTr σ' dr T π
    | .inr (a, j) => rs5 σ' e l j (w || badI a) ∧ isTr σ' dr (clsI T a) π) → pm_R 5 44 32 [.ref e, .ref dr, .int x2, pm_U] [.int (bI (isR (rItem l i)))] σ' Q) : pm_R 5 44 18 [.ref e, .ref dr, .int x2, pm_U] [] σ Q := by
  refine w_Re_readInto_18 ⟨fun q => absurd q hx, fun _ => ⟨h.1.1.1, (s_Re_skip (c := 33) h (by decide)).use (by omega) (fun σ1 p1 => ?_)⟩⟩
  obtain ⟨h1, f1, k1⟩ := p1
  have g1 : fr (rdP e dr) σ σ1 := f1.mono (fun b hb => Or.inl (pE_Re hb))
  have t1 := isTr_fr ht f1 (fun b hb => by unfold pTr at hb; unfold pE; omega)
  cases ec : isC l i 33 with
  | false =>
    rw [ec] at h1
    have er : rItem l i = rRule l i := by unfold rItem; rw [ec]; rfl
    rw [er] at hQ
    refine ⟨fun _ => ⟨h1.1.1.1, (s_Re_readRule h1 t1 hn d1).use (by omega) (fun σ2 p2 => ?_)⟩, fun q => absurd rfl q⟩
    exact hQ σ2 (g1.tr p2.1) p2.2
  | true =>
    rw [ec] at h1
    rw [if_pos rfl] at h1
    have er : rItem l i = rFin l (i + 1) := by unfold rItem; rw [ec]; rfl
    rw [er] at hQ
    refine ⟨fun q => absurd q (show ¬ (1 : Int32) = 0 by decide), fun _ => ⟨h1.1.1.1, (s_Re_readFinal h1 t1 hT d1).use (by omega) (fun σ2 p2 => ?_)⟩⟩
    exact hQ σ2 (g1.tr p2.1) p2.2
theorem s_Re_into_18 {σ0 : pm_H} {e dr : Nat} {l : List Nat} {π : Nat → Nat} (d1 : dr + 122 ≤ e) : ∀ (f n i : Nat) (w : Bool) (T : Tr) (σ : pm_H), n + f = 120 → rs5 σ e l i w → isTr σ dr T π → okTr T → 7 * T.2.length ≤ i → i ≤ l.length → fr (rdP e dr) σ0 σ → pm_R 5 44 18 [.ref e, .ref dr, .int (Int32.ofInt (n : Int)), pm_U] [] σ (fun o σ' => o = .inl (some (.int (bI (isS (rItems l f i))))) ∧ txP σ0 e dr l π w T (rItems l f i) σ') := by
  intro f
  induction f with
  | zero =>
    intro n i w T σ hn h ht hT h7 hi hf
    refine w_Re_readInto_18 ⟨fun _ => ⟨rfl, rfl, hf, ⟨w, h⟩, T, ht⟩, fun q => ?_⟩
    rw [le120 (by omega)] at q; omega
  | succ f ih =>
    intro n i w T σ hn h ht hT h7 hi hf
    have hl := rs5_len h
    rw [rItems_s]
    refine s_Re_item h ht hT (by omega) d1 (by rw [le120 (by omega)]; omega) (fun σ1 f1 p1 => ?_)
    have g1 := hf.tr f1
    cases e1 : rItem l i with
    | inl p =>
      rw [e1] at p1
      exact w_Re_readInto_32 ⟨fun _ => ⟨rfl, rfl, g1, p1.1, T, p1.2⟩, fun q => absurd rfl q⟩
    | inr x =>
      obtain ⟨a, j⟩ := x
      rw [e1] at p1
      have n1 := rItem_le e1
      obtain ⟨h1, t1⟩ := p1
      have hT1 := okTr_cls hT n1.1
      refine w_Re_readInto_32 ⟨fun q => absurd q (show ¬ (1 : Int32) = 0 by decide), fun _ => ?_⟩
      simp only [h1.1.1.1, h1.2.2.1, h1.1.2.1, true_and, forall_eq]
      rw [oi_lt (by omega)]
      refine ⟨fun c => ?_, fun c => ?_⟩
      rotate_left
      · rw [if_pos (by omega)]
        refine ⟨rfl, rfl, g1, ⟨j, ?_⟩, t1, hT1⟩
        rw [List.any_cons, List.any_nil, Bool.or_false]; exact h1
      rw [if_neg (by omega)]
      refine (s_Re_skip (c := 59) h1 (by decide)).use (by omega) (fun σ2 p2 => ?_)
      obtain ⟨h2, f2, k2⟩ := p2
      have g2 := g1.tr (f2.mono (fun b hb => Or.inl (pE_Re hb)))
      have t2 := isTr_fr t1 f2 (fun b hb => by unfold pTr at hb; unfold pE; omega)
      cases ec : isC l j 59 with
      | false =>
        rw [ec] at h2
        exact ⟨fun _ => ⟨rfl, rfl, g2, ⟨_, h2⟩, _, t2⟩, fun q => absurd rfl q⟩
      | true =>
        rw [ec] at h2
        have lc := isC_lt ec
        rw [if_pos rfl] at h2
        refine ⟨fun q => absurd q (show ¬ (1 : Int32) = 0 by decide), fun _ => ?_⟩
        rw [oi_s, if_pos rfl]
        have l7 : 7 * (clsI T a).2.length ≤ j + 1 := by
          have h1 := len_cls (T := T) (a := a)
          cases er : isRul a with
          | true =>
            rw [er, if_pos rfl] at h1
            have := n1.2.1 er
            omega
          | false =>
            rw [er, if_neg (by decide)] at h1
            omega
        have rc := ih (n + 1) (j + 1) (w || badI a) (clsI T a) σ2 (by omega) h2 t2 hT1 l7 (by omega) g2
        refine pm_R_mono rc (fun o σ' q => ?_)
        obtain ⟨q1, q2, q3⟩ := q
        cases e3 : rItems l f (j + 1) with
        | inl p => rw [e3] at q1 q3; exact ⟨q1, q2, q3⟩
        | inr as =>
          rw [e3] at q1 q3
          obtain ⟨⟨j', q3⟩, q4⟩ := q3
          refine ⟨q1, q2, ⟨j', ?_⟩, q4⟩
          rw [List.any_cons, ← Bool.or_assoc]; exact q3
/-- what a text says -/
def text (l : List Nat) : Nat ⊕ List It := if l = [] then .inr [] else rItems l 120 0
theorem s_Re_readInto {σ : pm_H} {e dr : Nat} {l : List Nat} {π : Nat → Nat} (h : isRe σ e l) (hc : ∀ c, c ∈ l → c < 65536) (ht : isTr0 σ dr π) (d1 : dr + 122 ≤ e) : cIP 5 44 [.ref e, .ref dr] σ (bI (isS (text l))) (txP σ e dr l π false (0, []) (text l)) := by
  refine w_Re_readInto_0 ⟨ht.1.1, (s_Tr_clear0 ht).use (by omega) (fun σ1 p1 => ?_)⟩
  have h1 := isRe_fr h p1.2 (fun b hb => by unfold pRe at hb; omega)
  have g1 : fr (rdP e dr) σ σ1 := p1.2.mono (fun b hb => Or.inr (by unfold pTr; omega))
  have hl := h1.2.2.1
  simp only [h1.1.1, t_sF, F_sF, Nat.reduceEqDiff, false_and, if_false, h1.2.1, true_and, forall_eq]
  refine ⟨rfl, rfl, ?_⟩
  have f2 : fr (pE e) σ1 (pm_sF (pm_sF (pm_sF σ1 502 e (.int ((0 : Int32)))) 505 e (.int ((0 : Int32)))) 506 e (.int ((0 : Int32)))) := ((fr_sF (P := pE e) rfl).tr (fr_sF rfl)).tr (fr_sF rfl)
  have h2 : rs5 (pm_sF (pm_sF (pm_sF σ1 502 e (.int ((0 : Int32)))) 505 e (.int ((0 : Int32)))) 506 e (.int ((0 : Int32)))) e l 0 false := by
    refine ⟨isRe_sF (isRe_sF (isRe_sF h1 ⟨by decide, by decide, by decide⟩) ⟨by decide, by decide, by decide⟩) ⟨by decide, by decide, by decide⟩, hc, ?_, by decide, ?_, ?_⟩
    · rw [F_sF, if_neg (by omega), F_sF, if_neg (by omega), F_sF, if_pos ⟨rfl, rfl⟩]; rfl
    · rw [F_sF, if_neg (by omega), F_sF, if_pos ⟨rfl, rfl⟩]; rfl
    · rw [F_sF, if_pos ⟨rfl, rfl⟩]; rfl
  have t2 := isTr_fr p1.1 f2 (fun b hb => by unfold pTr at hb; unfold pE; omega)
  have g2 := g1.tr (f2.mono (fun b hb => Or.inl (pE_Re hb)))
  generalize pm_sF (pm_sF (pm_sF σ1 502 e (.int ((0 : Int32)))) 505 e (.int ((0 : Int32)))) 506 e (.int ((0 : Int32))) = σ2 at *
  have okT0 : okTr (0, []) := ⟨by show (0 : Nat) < 4096; decide, fun r hr => by cases hr⟩
  rw [z_eq0 (nrg (show l.length < 2000000 by omega))]
  cases l with
  | nil =>
    refine ⟨fun _ => ⟨rfl, rfl, g2, ⟨0, h2⟩, t2, okT0⟩, fun q => absurd rfl q⟩
  | cons c l =>
    refine ⟨fun q => ?_, fun _ => ?_⟩
    · have : (c :: l).length = l.length + 1 := rfl
      omega
    · have et : text (c :: l) = rItems (c :: l) 120 0 := if_neg (by simp)
      rw [et]
      exact s_Re_into_18 d1 120 0 0 false (0, []) σ2 rfl h2 t2 okT0 (Nat.le_refl _) (Nat.zero_le _) g2
