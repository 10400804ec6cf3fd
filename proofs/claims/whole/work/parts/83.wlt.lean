/-! ===== the order of words ===== -/
def wlt : List Nat → List Nat → Bool
  | [], [] => false
  | [], _ :: _ => true
  | _ :: _, [] => false
  | a :: l, b :: l' => if a = b then wlt l l' else decide (a < b)
theorem wlt_nil (l : List Nat) : wlt [] l = decide (0 < l.length) := by cases l <;> simp [wlt]
theorem wlt_n (l : List Nat) : wlt l [] = false := by cases l <;> rfl
theorem drop_cons {l : List Nat} {i a : Nat} (h : l[i]? = some a) : l.drop i = a :: l.drop (i + 1) := by
  obtain ⟨h1, h2⟩ := List.getElem?_eq_some_iff.mp h
  rw [List.drop_eq_getElem_cons h1, h2]
theorem s_Wo_comesBefore {σ : pm_H} {w w' : Nat} {l l' : List Nat} (h : isWo σ w l) (h' : isWo σ w' l') (hb : ∀ s, s ∈ l → s < 100) (hb' : ∀ s, s ∈ l' → s < 100) : cI 0 115 [.ref w, .ref w'] σ (bI (wlt l l')) := by
  have g2 := h.2.2.1
  have g2' := h'.2.2.1
  refine w_Wo_comesBefore_0 ?_
  simp only [h.1.1, h.2.1, h'.1.1, h'.2.1, true_and, forall_eq]
  have e : (if Int32.ofInt (l'.length : Int) < Int32.ofInt (l.length : Int) then Int32.ofInt (l'.length : Int) else Int32.ofInt (l.length : Int)) = Int32.ofInt ((min l.length l'.length : Nat) : Int) := by
    by_cases q : l'.length < l.length
    · rw [if_pos ((oi_lt (by omega)).mpr (by omega))]; congr 1; omega
    · rw [if_neg (fun z => q (by have := (oi_lt (by omega)).mp z; omega))]; congr 1; omega
  rw [e]
  refine lp (d := 0) (m := 115) (k := 8) (fun i => [.ref w, .ref w', .int (Int32.ofInt ((min l.length l'.length : Nat) : Int)), .int (Int32.ofInt (i : Nat))]) (fun i τ => τ = σ ∧ wlt l l' = wlt (l.drop i) (l'.drop i)) (min l.length l'.length) ?_ ?_ 0 (Nat.zero_le _) σ ⟨rfl, rfl⟩
  · rintro i hi τ ⟨rfl, i2⟩ next
    have hr := List.getElem?_eq_getElem (show i < l.length by omega)
    generalize l[i] = a at hr
    have hr' := List.getElem?_eq_getElem (show i < l'.length by omega)
    generalize l'[i] = b at hr'
    have ba := hb a (List.mem_of_getElem? hr)
    have bb := hb' b (List.mem_of_getElem? hr')
    have q6 : ¬ Int32.ofInt ((min l.length l'.length : Nat) : Int) ≤ Int32.ofInt (i : Nat) := by rw [oi_le (by omega)]; omega
    have qi := vi (show i < 60 by omega) (by omega)
    have qc := vc (show i < 2000000 by omega)
    rw [drop_cons hr, drop_cons hr', wlt] at i2
    refine w_Wo_comesBefore_8 ⟨fun q => absurd q q6, fun _ => ?_⟩
    simp only [h.1.1, h.1.2.1, h.1.2.2.1, h.1.2.2.2, h'.1.1, h'.1.2.1, h'.1.2.2.1, h'.1.2.2.2, h.2.2.2 i a hr, h'.2.2.2 i b hr', isr_ref, rv_ref, qi, qc, true_and, forall_eq]
    refine ⟨fun e => ?_, fun e => ⟨fun q => ⟨rfl, ?_, trivial⟩, fun q => ⟨rfl, ?_, trivial⟩⟩⟩
    · rw [oi_eq (by omega)] at e
      rw [oi_s]
      refine next τ ⟨rfl, ?_⟩
      rw [i2, if_pos (by omega)]
    · rw [oi_eq (by omega)] at e
      rw [oi_le (by omega)] at q
      rw [i2, if_neg (by omega), decide_eq_false (by omega)]; rfl
    · rw [oi_eq (by omega)] at e
      rw [oi_le (by omega)] at q
      rw [i2, if_neg (by omega), decide_eq_true (by omega)]; rfl
  · rintro τ ⟨rfl, i2⟩
    refine w_Wo_comesBefore_8 ⟨fun _ => ?_, fun q => absurd (Int32.le_refl _) q⟩
    simp only [h.1.1, h.2.1, h'.1.1, h'.2.1, true_and, forall_eq]
    have e2 : wlt l l' = decide (l.length < l'.length) := by
      rw [i2]
      by_cases q : l.length ≤ l'.length
      · rw [show min l.length l'.length = l.length by omega, List.drop_length, wlt_nil, List.length_drop, decide_eq_decide]; omega
      · rw [show min l.length l'.length = l'.length by omega, List.drop_length, wlt_n, decide_eq_false (by omega)]
    rw [e2]
    refine ⟨fun q => ⟨rfl, ?_, trivial⟩, fun q => ⟨rfl, ?_, trivial⟩⟩
    · rw [oi_le (by omega)] at q
      rw [decide_eq_false (by omega)]; rfl
    · rw [oi_le (by omega)] at q
      rw [decide_eq_true (by omega)]; rfl
/-- the choice among outputs -/
def better (last : Bool) (c b : List Nat) : Bool := if last then wlt b c else wlt c b
def addB (B : Nat → Option (List Nat)) (s : Nat) (last : Bool) (E : Nat → Option (List Nat)) (r : Rl) : Nat → Option (List Nat) := match B (rT r) with
  | none => E
  | some l => if en r s then (match E (rF r) with
    | none => fun q => if q = rF r then some (outW r s ++ l) else E q
    | some b => if better last (outW r s ++ l) b then (fun q => if q = rF r then some (outW r s ++ l) else E q) else E) else E
def stepB (rs : List Rl) (last : Bool) (s : Nat) (B : Nat → Option (List Nat)) : Nat → Option (List Nat) := rs.foldl (addB B s last) (fun _ => none)
def bestW (T : Tr) (last : Bool) (w : List Nat) : Nat → Option (List Nat) := w.foldr (stepB T.2 last) (fun q => if T.1.testBit q then some [] else none)
/-- outputs are short, and of symbols -/
def okB (n : Nat) (B : Nat → Option (List Nat)) : Prop := ∀ q l, B q = some l → l.length ≤ 6 * n ∧ ∀ s, s ∈ l → s < 100
theorem outW_ok {r : Rl} {s : Nat} (ok : okR r) (he : en r s = true) : (outW r s).length ≤ 6 ∧ ∀ x, x ∈ outW r s → x < 100 := by
  unfold outW
  refine ⟨by rw [List.length_map]; exact ok.2.2.2.1, fun x hx => ?_⟩
  obtain ⟨t, ht, rfl⟩ := List.mem_map.mp hx
  obtain ⟨k, hk, hkt⟩ := List.getElem_of_mem ht
  have := en_val he (show (rTs r)[k]? = some t by rw [List.getElem?_eq_getElem hk, hkt])
  omega
theorem cand_ok {n s : Nat} {B : Nat → Option (List Nat)} {r : Rl} {l : List Nat} (hB : okB n B) (ok : okR r) (he : en r s = true) (hl : B (rT r) = some l) : (outW r s ++ l).length ≤ 6 * (n + 1) ∧ ∀ x, x ∈ outW r s ++ l → x < 100 := by
  obtain ⟨a1, a2⟩ := outW_ok ok he
  obtain ⟨b1, b2⟩ := hB _ _ hl
  refine ⟨by rw [List.length_append]; omega, fun x hx => ?_⟩
  rcases List.mem_append.mp hx with q | q
  · exact a2 x q
  · exact b2 x q
theorem addB_n {s : Nat} {B E : Nat → Option (List Nat)} {last : Bool} {r : Rl} (h : B (rT r) = none) : addB B s last E r = E := by
  simp only [addB, h]
theorem addB_e {s : Nat} {B E : Nat → Option (List Nat)} {last : Bool} {r : Rl} (h : en r s = false) : addB B s last E r = E := by
  cases hb : B (rT r) with
  | none => exact addB_n hb
  | some l => simp only [addB, hb, h, Bool.false_eq_true, if_false]
theorem addB_s {s : Nat} {B E : Nat → Option (List Nat)} {last : Bool} {r : Rl} {l : List Nat} (h : B (rT r) = some l) (he : en r s = true) (hE : E (rF r) = none) : addB B s last E r = fun q => if q = rF r then some (outW r s ++ l) else E q := by
  simp only [addB, h, he, hE, if_true]
theorem addB_b {s : Nat} {B E : Nat → Option (List Nat)} {last : Bool} {r : Rl} {l b : List Nat} (h : B (rT r) = some l) (he : en r s = true) (hE : E (rF r) = some b) : addB B s last E r = if better last (outW r s ++ l) b then (fun q => if q = rF r then some (outW r s ++ l) else E q) else E := by
  simp only [addB, h, he, hE, if_true]
theorem addB_ok {n s : Nat} {B E : Nat → Option (List Nat)} {last : Bool} {r : Rl} (hB : okB n B) (hE : okB (n + 1) E) (ok : okR r) : okB (n + 1) (addB B s last E r) := by
  cases h0 : B (rT r) with
  | none => rw [addB_n h0]; exact hE
  | some l0 =>
    cases he : en r s with
    | false => rw [addB_e he]; exact hE
    | true =>
      have hc := cand_ok hB ok he h0
      have key : okB (n + 1) (fun q => if q = rF r then some (outW r s ++ l0) else E q) := fun q l hl => by
        dsimp only at hl
        split at hl
        · cases hl; exact hc
        · exact hE q l hl
      cases h1 : E (rF r) with
      | none => rw [addB_s h0 he h1]; exact key
      | some b =>
        rw [addB_b h0 he h1]
        split
        · exact key
        · exact hE
theorem foldB_ok {n s : Nat} {B : Nat → Option (List Nat)} {last : Bool} (hB : okB n B) : ∀ (rs : List Rl), (∀ r, r ∈ rs → okR r) → ∀ E, okB (n + 1) E → okB (n + 1) (rs.foldl (addB B s last) E) := by
  intro rs
  induction rs with
  | nil => exact fun _ E h => h
  | cons r rs ih => exact fun hr E h => ih (fun x hx => hr x (List.mem_cons_of_mem _ hx)) _ (addB_ok hB h (hr r List.mem_cons_self))
theorem bestW_ok {T : Tr} (hT : okTr T) (last : Bool) (w : List Nat) : okB w.length (bestW T last w) := by
  induction w with
  | nil =>
    intro q l hl
    unfold bestW at hl
    simp only [List.foldr_nil] at hl
    split at hl
    · cases hl; exact ⟨by simp, fun s hs => by simp at hs⟩
    · cases hl
  | cons s w ih =>
    exact foldB_ok ih T.2 hT.2 _ (fun q l hl => by cases hl)
