/-! ===== pairs of two transducers ===== -/
/-- both final -/
def finP (A B : Tr) (p : Nat) : Bool := A.1.testBit (p / 12) && B.1.testBit (p % 12)
theorem s_Pa_isFinalPair {σ : pm_H} {ta tb p : Nat} {A B : Tr} {πa πb : Nat → Nat} (ha : isTr σ ta A πa) (hA : okTr A) (hb : isTr σ tb B πb) (hB : okTr B) (hp : p < 144) : cI 2 32 [.ref ta, .ref tb, .int (Int32.ofInt (p : Int))] σ (bI (finP A B p)) := by
  have pd := p_div p hp
  have pd2 := pd.2
  rw [pd.1] at pd2
  have q12 : p % 12 < 12 := Nat.mod_lt _ (by decide)
  refine w_Pa_isFinalPair_0 ⟨i12_0, ha.1.1, ?_⟩
  rw [pd.1]
  refine gI (s_Tr_hasFinal ha hA.1 (show p / 12 < 12 by omega)) (by omega) (fun x => ⟨rfl, ?_⟩) (fun x => ⟨i12_0, hb.1.1, ?_⟩)
  · unfold finP; rw [x]; exact ⟨rfl, rfl⟩
  rw [pd2]
  refine gI (s_Tr_hasFinal hb hB.1 q12) (by omega) (fun y => ⟨rfl, ?_⟩) (fun y => ⟨rfl, ?_⟩)
  · unfold finP; rw [x, y]; exact ⟨rfl, rfl⟩
  · unfold finP; rw [x, y]; exact ⟨rfl, rfl⟩
/-- marks of pairs; what one rule adds, with the rules of the other -/
def hpT (σ : pm_H) (e : Nat) (H : Nat → Bool) : Prop := ∀ p, p < 144 → iv (pm_A σ (e + 1) p) = bI (H p)
def hopS (r : Rl) (s : (Nat → Bool) × Bool) (t : Rl) : (Nat → Bool) × Bool := if s.1 (12 * rF r + rF t) = false ∧ s.1 (12 * rT r + rT t) = true ∧ both r t = true then (fun p => if p = 12 * rF r + rF t then true else s.1 p, true) else s
theorem s_Pa_addHopeful {σ : pm_H} {e ρ tb N0 : Nat} {r : Rl} {B : Tr} {πb : Nat → Nat} {H : Nat → Bool} (he : isPa σ e N0) (hr : isRu σ ρ r) (ok : okR r) (hb : isTr σ tb B πb) (hB : okTr B) (hh : hpT σ e H) (d1 : ρ + 3 ≤ e) (d2 : tb + 122 ≤ e) : cIP 3 33 [.ref e, .ref ρ, .ref tb] σ (bI (B.2.foldl (hopS r) (H, false)).2) (fun σ' => hpT σ' e (B.2.foldl (hopS r) (H, false)).1 ∧ fr (fun b => b = e + 1) σ σ') := by
  refine w_Pa_addHopeful_0 ?_
  refine lp_up (fun i (s : (Nat → Bool) × Bool) => [.ref e, .ref ρ, .ref tb, .int (bI s.2), .int (Int32.ofInt (i : Nat)), pm_U, pm_U, pm_U]) (fun i s τ => s = (B.2.take i).foldl (hopS r) (H, false) ∧ hpT τ e s.1 ∧ fr (fun b => b = e + 1) σ τ) B.2.length (fun i hi s τ hs next => ?_) (fun s τ hs => ?_) 0 (Nat.zero_le _) (H, false) σ ⟨rfl, hh, fr.rf⟩
  · obtain ⟨es, hT, f⟩ := hs
    have eτ := isPa_fr he f (by omega)
    have bτ := isTr_fr hb f (fun b hb => by unfold pTr at hb; omega)
    have rτ := isRu_fr hr f (fun b hb => by unfold pRu at hb; omega)
    have bl := bτ.2.2.2.2.1
    have q7 : ¬ Int32.ofInt (B.2.length : Int) ≤ Int32.ofInt (i : Nat) := by rw [oi_le (by omega)]; omega
    have ht := List.getElem?_eq_getElem hi
    generalize B.2[i] = t at ht
    have okt := hB.at ht
    have at_ := bτ.at ht
    have ru := at_.2.2.2
    have e1 := fold_s (hopS r) (H, false) ht
    rw [← es] at e1
    have x1 := ok.1
    have x2 := ok.2.1
    have x3 := okt.1
    have x4 := okt.2.1
    have v1 := vi (show 12 * rF r + rF t < 144 by omega) (by omega)
    have w1 := vc (show 12 * rF r + rF t < 2000000 by omega)
    have v2 := vi (show 12 * rT r + rT t < 144 by omega) (by omega)
    have w2 := vc (show 12 * rT r + rT t < 2000000 by omega)
    have y1 := hT _ (show 12 * rF r + rF t < 144 by omega)
    have y2 := hT _ (show 12 * rT r + rT t < 144 by omega)
    have same : ¬ (s.1 (12 * rF r + rF t) = false ∧ s.1 (12 * rT r + rT t) = true ∧ both r t = true) → pm_R 3 33 4 [.ref e, .ref ρ, .ref tb, .int (bI s.2), .int (Int32.ofInt ((i + 1 : Nat) : Int)), pm_U, pm_U, pm_U] [] τ _ := fun n => next s τ ⟨by rw [e1]; exact (if_neg n).symm, hT, f⟩
    refine w_Pa_addHopeful_4 ?_
    simp only [bτ.1.1, bτ.1.2.1, bτ.1.2.2.1, bτ.1.2.2.2.1, bτ.2.2.1, at_.1, at_.2.1, at_.2.2.1, q7, rτ.1.1, rτ.2.1, rτ.2.2.1, ru.1.1, ru.2.1, ru.2.2.1, eτ.1, eτ.2.1.1, eτ.2.2.1.1, eτ.2.2.1.2.1, oi_12, v1, w1, v2, w2, y1, y2, iv_int, isr_ref, rv_ref, not_false_eq_true, false_implies, true_implies, true_and, forall_eq, oi_s]
    rw [bI_0, bI_0, Bool.not_eq_false, Bool.not_eq_false]
    refine ⟨fun c1 => ⟨fun c2 => same (fun q => by rw [c2] at q; cases q.2.1), fun c2 => ?_⟩, fun c1 => same (fun q => by rw [c1] at q; cases q.1)⟩
    refine gI (s_Ru_isEnabledWith rτ ru ok.2.2.1 ok.ts okt.ts) (by omega) (fun c3 => same (fun q => by rw [c3] at q; cases q.2.2)) (fun c3 => ?_)
    simp only [eτ.1, eτ.2.1.1, eτ.2.2.1.1, eτ.2.2.1.2.1, v1, w1, nb_1, isr_ref, rv_ref, true_and, forall_eq]
    refine next (fun p => if p = 12 * rF r + rF t then true else s.1 p, true) _ ⟨by rw [e1]; exact (if_pos ⟨c1, c2, c3⟩).symm, fun p hp => ?_, f.tr (fr_sA rfl)⟩
    rw [A_sA]
    by_cases c : p = 12 * rF r + rF t
    · rw [if_pos ⟨rfl, c⟩]
      show _ = bI (if p = 12 * rF r + rF t then true else s.1 p)
      rw [if_pos c]; rfl
    · rw [if_neg (fun q => c q.2)]
      show _ = bI (if p = 12 * rF r + rF t then true else s.1 p)
      rw [if_neg c]; exact hT p hp
  · obtain ⟨es, hT, f⟩ := hs
    have bτ := isTr_fr hb f (fun b hb => by unfold pTr at hb; omega)
    rw [List.take_length] at es
    refine w_Pa_addHopeful_4 ⟨bτ.1.1, fun z ez => ⟨fun _ => ⟨bI_and _, ?_⟩, fun q => ?_⟩⟩
    · rw [← es]; exact ⟨rfl, hT, f⟩
    · rw [ez, bτ.2.2.1] at q; exact absurd (Int32.le_refl _) q
def hopR (B : Tr) (s : (Nat → Bool) × Bool) (r : Rl) : (Nat → Bool) × Bool := ((B.2.foldl (hopS r) (s.1, false)).1, s.2 || (B.2.foldl (hopS r) (s.1, false)).2)
def hopN (A B : Tr) : Nat → (Nat → Bool) → (Nat → Bool)
  | 0, H => H
  | k + 1, H => if (A.2.foldl (hopR B) (H, false)).2 then hopN A B k (A.2.foldl (hopR B) (H, false)).1 else (A.2.foldl (hopR B) (H, false)).1
theorem z_144le {n : Nat} (hn : n < 100000) : (144 : Int32) ≤ Int32.ofInt (n : Int) ↔ 144 ≤ n := by
  refine (oi_lle (n := 144) ⟨by omega, by decide⟩).trans ?_
  show (144 : Int) ≤ (n : Int) ↔ _
  omega
theorem s_Pa_findHopeful {σ : pm_H} {e ta tb N0 : Nat} {A B : Tr} {πa πb : Nat → Nat} {H : Nat → Bool} (he : isPa σ e N0) (ha : isTr σ ta A πa) (hA : okTr A) (hb : isTr σ tb B πb) (hB : okTr B) (hh : hpT σ e H) (d1 : ta + 122 ≤ e) (d2 : tb + 122 ≤ e) : cV 4 31 [.ref e, .ref ta, .ref tb] σ (fun σ' => hpT σ' e (hopN A B 144 H) ∧ fr (fun b => b = e + 1) σ σ') := by
  refine w_Pa_findHopeful_0 ?_
  have key : ∀ (k n : Nat) (G : Nat → Bool) (τ : pm_H), n + k = 144 → hpT τ e G → fr (fun b => b = e + 1) σ τ → pm_R 4 31 4 [.ref e, .ref ta, .ref tb, .int ((1 : Int32)), .int (Int32.ofInt (n : Int)), pm_U] [] τ (fun o σ' => o = .inl none ∧ hpT σ' e (hopN A B k G) ∧ fr (fun b => b = e + 1) σ σ') := by
    intro k
    induction k with
    | zero =>
      intro n G τ hn hT f
      refine w_Pa_findHopeful_4 ⟨fun _ => ⟨rfl, hT, f⟩, fun q => ?_⟩
      rw [z_144le (by omega)] at q; omega
    | succ k ih =>
      intro n G τ hn hT f
      refine w_Pa_findHopeful_4 ⟨fun q => ?_, fun _ => ⟨fun q => absurd q (show ¬ (1 : Int32) = 0 by decide), fun _ => ?_⟩⟩
      · rw [z_144le (by omega)] at q; omega
      refine lp_up (fun i (s : (Nat → Bool) × Bool) => [.ref e, .ref ta, .ref tb, .int (bI s.2), .int (Int32.ofInt (n : Int)), .int (Int32.ofInt (i : Nat))]) (fun i s τ => s = (A.2.take i).foldl (hopR B) (G, false) ∧ hpT τ e s.1 ∧ fr (fun b => b = e + 1) σ τ) A.2.length (fun i hi s τ hs next => ?_) (fun s τ hs => ?_) 0 (Nat.zero_le _) (G, false) τ ⟨rfl, hT, f⟩
      · obtain ⟨es, hT, f⟩ := hs
        have eτ := isPa_fr he f (by omega)
        have aτ := isTr_fr ha f (fun b hb => by unfold pTr at hb; omega)
        have bτ := isTr_fr hb f (fun b hb => by unfold pTr at hb; omega)
        have al := aτ.2.2.2.2.1
        have q7 : ¬ Int32.ofInt (A.2.length : Int) ≤ Int32.ofInt (i : Nat) := by rw [oi_le (by omega)]; omega
        have hr := List.getElem?_eq_getElem hi
        generalize A.2[i] = r at hr
        have ok := hA.at hr
        have at_ := aτ.at hr
        have hπ := (aτ.2.1.1 i (by omega)).1
        have e1 := fold_s (hopR B) (G, false) hr
        rw [← es] at e1
        refine w_Pa_findHopeful_13 ?_
        simp only [aτ.1.1, aτ.1.2.1, aτ.1.2.2.1, aτ.1.2.2.2.1, aτ.2.2.1, at_.1, at_.2.1, at_.2.2.1, q7, eτ.1, isr_ref, rv_ref, not_false_eq_true, false_implies, true_implies, true_and, forall_eq, oi_s]
        refine (s_Pa_addHopeful eτ at_.2.2.2 ok bτ hB hT (by omega) d2).use (by omega) (fun τ2 p2 => ?_)
        have f2 := f.tr p2.2
        rw [bI_0, Bool.not_eq_false]
        refine ⟨fun c => ?_, fun c => ?_⟩
        · refine next ((B.2.foldl (hopS r) (s.1, false)).1, s.2) τ2 ⟨?_, p2.1, f2⟩
          rw [e1]; unfold hopR; rw [c, Bool.or_false]
        · refine next ((B.2.foldl (hopS r) (s.1, false)).1, true) τ2 ⟨?_, p2.1, f2⟩
          rw [e1]; unfold hopR; rw [c, Bool.or_true]
      · obtain ⟨es, hT, f⟩ := hs
        have aτ := isTr_fr ha f (fun b hb => by unfold pTr at hb; omega)
        rw [List.take_length] at es
        have eh : hopN A B (k + 1) G = if s.2 then hopN A B k s.1 else s.1 := by rw [es]; rfl
        refine w_Pa_findHopeful_13 ⟨aτ.1.1, fun z ez => ⟨fun _ => ?_, fun q => ?_⟩⟩
        · rw [oi_s]
          cases c : s.2 with
          | true =>
            rw [c, if_pos rfl] at eh
            rw [eh]
            exact ih (n + 1) s.1 τ (by omega) hT f
          | false =>
            rw [c, if_neg (by decide)] at eh
            rw [eh]
            exact w_Pa_findHopeful_4 ⟨fun _ => ⟨rfl, hT, f⟩, fun _ => ⟨fun _ => ⟨rfl, hT, f⟩, fun q => absurd rfl q⟩⟩
        · rw [ez, aτ.2.2.1] at q; exact absurd (Int32.le_refl _) q
  exact key 144 0 H σ rfl hh fr.rf
