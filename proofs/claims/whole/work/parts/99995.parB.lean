/-! ===== parse: the reader of the class ===== -/
def rs5 (σ : pm_H) (e : Nat) (l : List Nat) (i : Nat) (w : Bool) : Prop := isRe σ e l ∧ (∀ c, c ∈ l → c < 65536) ∧ iv (pm_F σ 502 e) = Int32.ofInt (i : Int) ∧ i ≤ 200 ∧ iv (pm_F σ 505 e) = bI w ∧ iv (pm_F σ 506 e) = 0
theorem rs5_fr {P : Nat → Prop} {σ σ' : pm_H} {e i : Nat} {l : List Nat} {w : Bool} (h : rs5 σ e l i w) (f : fr P σ σ') (hp : ¬ P e ∧ ¬ P (e + 1) ∧ ¬ P (e + 2)) : rs5 σ' e l i w :=
  ⟨⟨reS_fr h.1.1 f ⟨hp.1, hp.2.2⟩, by rw [f.F hp.1]; exact h.1.2.1, h.1.2.2.1, fun i c hc => by rw [f.A hp.2.1]; exact h.1.2.2.2 i c hc⟩, h.2.1, by rw [f.F hp.1]; exact h.2.2.1, h.2.2.2.1, by rw [f.F hp.1]; exact h.2.2.2.2.1, by rw [f.F hp.1]; exact h.2.2.2.2.2⟩
theorem reS_sF {σ : pm_H} {e f : Nat} {v : Value} (h : reS σ e) (hf : f ≠ 500 ∧ f ≠ 504) : reS (pm_sF σ f e v) e := by
  refine ⟨h.1, ?_, h.2.2.1, h.2.2.2.1, ?_, ruS_fr h.2.2.2.2.2 (fr_sF (P := fun b => b = e) rfl) (by omega)⟩
  · rw [F_sF, if_neg (fun q => hf.1 q.1.symm)]; exact h.2.1
  · rw [F_sF, if_neg (fun q => hf.2 q.1.symm)]; exact h.2.2.2.2.1
theorem isRe_sF {σ : pm_H} {e f : Nat} {v : Value} {l : List Nat} (h : isRe σ e l) (hf : f ≠ 500 ∧ f ≠ 504 ∧ f ≠ 501) : isRe (pm_sF σ f e v) e l :=
  ⟨reS_sF h.1 ⟨hf.1, hf.2.1⟩, by rw [F_sF, if_neg (fun q => hf.2.2 q.1.symm)]; exact h.2.1, h.2.2.1, fun i c hc => by rw [A_sF]; exact h.2.2.2 i c hc⟩
/-- the place moves -/
theorem rs5_at {σ : pm_H} {e i j : Nat} {l : List Nat} {w : Bool} (h : rs5 σ e l i w) (hj : j ≤ 200) : rs5 (pm_sF σ 502 e (.int (Int32.ofInt (j : Int)))) e l j w :=
  ⟨isRe_sF h.1 ⟨by decide, by decide, by decide⟩, h.2.1, by rw [F_sF, if_pos ⟨rfl, rfl⟩]; rfl, hj, by rw [F_sF, if_neg (by omega)]; exact h.2.2.2.2.1, by rw [F_sF, if_neg (by omega)]; exact h.2.2.2.2.2⟩
theorem rs5_nu {σ : pm_H} {e i : Nat} {l : List Nat} {w : Bool} {v : Value} (h : rs5 σ e l i w) : rs5 (pm_sF σ 503 e v) e l i w :=
  ⟨isRe_sF h.1 ⟨by decide, by decide, by decide⟩, h.2.1, by rw [F_sF, if_neg (by omega)]; exact h.2.2.1, h.2.2.2.1, by rw [F_sF, if_neg (by omega)]; exact h.2.2.2.2.1, by rw [F_sF, if_neg (by omega)]; exact h.2.2.2.2.2⟩
theorem rs5_w {σ : pm_H} {e i : Nat} {l : List Nat} {w : Bool} (h : rs5 σ e l i w) : rs5 (pm_sF σ 505 e (.int ((1 : Int32)))) e l i true :=
  ⟨isRe_sF h.1 ⟨by decide, by decide, by decide⟩, h.2.1, by rw [F_sF, if_neg (by omega)]; exact h.2.2.1, h.2.2.2.1, by rw [F_sF, if_pos ⟨rfl, rfl⟩]; rfl, by rw [F_sF, if_neg (by omega)]; exact h.2.2.2.2.2⟩
theorem rs5_len {σ : pm_H} {e i : Nat} {l : List Nat} {w : Bool} (h : rs5 σ e l i w) : l.length ≤ 120 := h.1.2.2.1
theorem s_Re_isAt {σ : pm_H} {e i c : Nat} {l : List Nat} {w : Bool} (h : rs5 σ e l i w) (hc : c < 65536) : cI 0 56 [.ref e, .int (Int32.ofInt (c : Int))] σ (bI (isC l i c)) := by
  have hl := rs5_len h
  have hi := h.2.2.2.1
  refine w_Re_isAt_0 ?_
  simp only [h.1.1.1, h.2.2.1, h.1.2.1, h.1.1.2.1, h.1.1.2.2.1, h.1.1.2.2.2.1, isr_ref, rv_ref, true_and, forall_eq]
  rw [oi_le (by omega)]
  refine ⟨fun q => ⟨rfl, ?_⟩, fun q => ?_⟩
  · have : isC l i c = false := decide_eq_false (by rw [List.getElem?_eq_none (by omega)]; simp)
    rw [this]; exact ⟨rfl, trivial⟩
  have hq := List.getElem?_eq_getElem (show i < l.length by omega)
  generalize l[i] = c0 at hq
  have hc0 := h.2.1 c0 (List.mem_of_getElem? hq)
  have v := vi (show i < 120 by omega) (by omega)
  have wv := vc (show i < 2000000 by omega)
  rw [wv, h.1.2.2.2 i c0 hq]
  simp only [v, true_and, forall_eq]
  rw [oi_eq (by omega)]
  refine ⟨fun x => ⟨rfl, ?_⟩, fun x => ⟨rfl, ?_⟩⟩
  · have : isC l i c = true := decide_eq_true (by rw [hq, show c0 = c by omega])
    rw [this]; exact ⟨rfl, trivial⟩
  · have : isC l i c = false := decide_eq_false (by rw [hq]; intro y; cases y; exact x rfl)
    rw [this]; exact ⟨rfl, trivial⟩
theorem s_Re_isAtDigit {σ : pm_H} {e i : Nat} {l : List Nat} {w : Bool} (h : rs5 σ e l i w) : cI 0 55 [.ref e] σ (bI (dg l i)) := by
  have hl := rs5_len h
  have hi := h.2.2.2.1
  refine w_Re_isAtDigit_0 ?_
  simp only [h.1.1.1, h.2.2.1, h.1.2.1, h.1.1.2.1, h.1.1.2.2.1, h.1.1.2.2.2.1, isr_ref, rv_ref, true_and, forall_eq]
  rw [oi_le (by omega)]
  refine ⟨fun q => ⟨rfl, ?_⟩, fun q => ?_⟩
  · have : dg l i = false := by unfold dg; rw [List.getElem?_eq_none (by omega)]
    rw [this]; exact ⟨rfl, trivial⟩
  have hq := List.getElem?_eq_getElem (show i < l.length by omega)
  generalize l[i] = c0 at hq
  have hc0 := h.2.1 c0 (List.mem_of_getElem? hq)
  have v := vi (show i < 120 by omega) (by omega)
  have wv := vc (show i < 2000000 by omega)
  have d0 : dg l i = decide (48 ≤ c0 ∧ c0 ≤ 57) := by unfold dg; rw [hq]
  have e1 : Int32.ofInt (c0 : Int) < 48 ↔ c0 < 48 := by
    refine (oi_ltl (n := 48) ⟨by omega, by decide⟩).trans ?_
    show (c0 : Int) < 48 ↔ _
    omega
  have e2 : (57 : Int32) < Int32.ofInt (c0 : Int) ↔ 57 < c0 := by
    refine (oi_llt (n := 57) ⟨by omega, by decide⟩).trans ?_
    show (57 : Int) < (c0 : Int) ↔ _
    omega
  rw [wv, h.1.2.2.2 i c0 hq, d0]
  simp only [v, true_and, forall_eq, e1, e2]
  refine ⟨fun x => ⟨rfl, ?_⟩, fun x => ⟨fun y => ⟨rfl, ?_⟩, fun y => ⟨rfl, ?_⟩⟩⟩
  · rw [decide_eq_false (by omega)]; exact ⟨rfl, trivial⟩
  · rw [decide_eq_false (by omega)]; exact ⟨rfl, trivial⟩
  · rw [decide_eq_true ⟨by omega, by omega⟩]; exact ⟨rfl, trivial⟩
def pE (e b : Nat) : Prop := b = e
theorem s_Re_skip {σ : pm_H} {e i c : Nat} {l : List Nat} {w : Bool} (h : rs5 σ e l i w) (hc : c < 65536) : cIP 1 57 [.ref e, .int (Int32.ofInt (c : Int))] σ (bI (isC l i c)) (fun σ' => rs5 σ' e l (if isC l i c then i + 1 else i) w ∧ fr (pE e) σ σ' ∧ pm_F σ' 503 e = pm_F σ 503 e) := by
  refine w_Re_skip_0 ⟨h.1.1.1, (s_Re_isAt h hc).use (by omega) ?_⟩
  have hl := rs5_len h
  cases ec : isC l i c with
  | false => exact ⟨fun _ => ⟨rfl, rfl, h, fr.rf, rfl⟩, fun q => absurd rfl q⟩
  | true =>
    have hi := isC_lt ec
    refine ⟨fun q => absurd q (by decide), fun _ => ⟨h.1.1.1, ?_⟩⟩
    simp only [h.1.1.1, h.2.2.1, oi_s, true_and, forall_eq]
    exact ⟨rfl, rs5_at h (by omega), fr_sF rfl, by rw [F_sF, if_neg (by omega)]⟩
theorem s_Re_takeDigit {σ : pm_H} {e i : Nat} {l : List Nat} {w : Bool} (h : rs5 σ e l i w) (hd : dg l i = true) : cIP 0 54 [.ref e] σ (Int32.ofInt (dgv l i : Nat)) (fun σ' => σ' = pm_sF σ 502 e (.int (Int32.ofInt ((i + 1 : Nat) : Int)))) := by
  have hl := rs5_len h
  obtain ⟨c, e1, e2, e3, e4⟩ := dg_at hd
  have hi := dg_lt hd
  have v := vi (show i < 120 by omega) (by omega)
  have wv := vc (show i < 2000000 by omega)
  have q6 : ¬ Int32.ofInt (l.length : Int) ≤ Int32.ofInt (i : Nat) := by rw [oi_le (by omega)]; omega
  have ed : Int32.ofInt (c : Int) - 48 = Int32.ofInt ((dgv l i : Nat) : Int) := by
    rw [show Int32.ofInt (c : Int) - 48 = Int32.ofInt ((c : Int) - 48) from oi_subl _ 48, e4]; congr 1; omega
  refine w_Re_takeDigit_0 ?_
  simp only [h.1.1.1, h.2.2.1, h.1.2.1, h.1.1.2.1, h.1.1.2.2.1, h.1.1.2.2.2.1, q6, v, wv, h.1.2.2.2 i c e1, ed, isr_ref, rv_ref, not_false_eq_true, false_implies, true_implies, true_and, forall_eq, oi_s]
/-- the outcome of a reading -/
def isR {α : Type} : Rd α → Bool
  | .inl _ => false
  | .inr _ => true
def numP (σ : pm_H) (e : Nat) (l : List Nat) (w : Bool) (x : Rd Nat) (σ' : pm_H) : Prop := fr (pE e) σ σ' ∧ match x with
  | .inl p => rs5 σ' e l p w
  | .inr (v, j) => rs5 σ' e l j w ∧ iv (pm_F σ' 503 e) = Int32.ofInt (v : Int)
theorem s_Re_readNumber {σ : pm_H} {e i : Nat} {l : List Nat} {w : Bool} (h : rs5 σ e l i w) : cIP 1 53 [.ref e] σ (bI (isR (rNum l i))) (numP σ e l w (rNum l i)) := by
  have hl := rs5_len h
  refine w_Re_readNumber_0 ⟨h.1.1.1, gI (s_Re_isAtDigit h) (by omega) (fun e1 => ?_) (fun e1 => ?_)⟩
  · have er : rNum l i = .inl i := if_neg (by rw [e1]; decide)
    rw [er]
    exact ⟨rfl, rfl, fr.rf, h⟩
  have hi := dg_lt e1
  refine ⟨h.1.1.1, (s_Re_takeDigit h e1).use (by omega) (fun σ1 p1 => ?_)⟩
  have h1 := rs5_at h (show i + 1 ≤ 200 by omega)
  rw [← p1] at h1
  have f1 : fr (pE e) σ σ1 := by rw [p1]; exact fr_sF rfl
  have h2 := rs5_nu (v := .int (Int32.ofInt (dgv l i : Nat))) h1
  have f2 : fr (pE e) σ (pm_sF σ1 503 e (.int (Int32.ofInt (dgv l i : Nat)))) := f1.tr (fr_sF rfl)
  have n2 : iv (pm_F (pm_sF σ1 503 e (.int (Int32.ofInt (dgv l i : Nat)))) 503 e) = Int32.ofInt (dgv l i : Nat) := by rw [F_sF, if_pos ⟨rfl, rfl⟩]; rfl
  refine ⟨h1.1.1.1, fun σ2 e2 => ?_⟩
  rw [← e2] at h2 f2 n2
  refine ⟨h2.1.1.1, gI (s_Re_isAtDigit h2) (by omega) (fun e3 => ?_) (fun e3 => ?_)⟩
  · have er : rNum l i = .inr (dgv l i, i + 1) := by unfold rNum; rw [if_pos e1, if_neg (by rw [e3]; decide)]
    rw [er]
    exact ⟨rfl, rfl, f2, h2, n2⟩
  have hi2 := dg_lt e3
  have er : rNum l i = .inr (10 * dgv l i + dgv l (i + 1), i + 2) := by unfold rNum; rw [if_pos e1, if_pos e3]
  rw [er]
  simp only [h2.1.1.1, n2, true_and, forall_eq]
  refine (s_Re_takeDigit h2 e3).use (by omega) (fun σ3 p3 => ?_)
  have h3 := rs5_at h2 (show i + 1 + 1 ≤ 200 by omega)
  rw [← p3] at h3
  have f3 : fr (pE e) σ σ3 := f2.tr (by rw [p3]; exact fr_sF rfl)
  have en : Int32.ofInt (dgv l i : Nat) * 10 + Int32.ofInt (dgv l (i + 1) : Nat) = Int32.ofInt ((10 * dgv l i + dgv l (i + 1) : Nat) : Int) := by
    rw [show Int32.ofInt (dgv l i : Nat) * 10 = Int32.ofInt ((dgv l i : Nat) * 10 : Int) from oi_mull _ 10, oi_add]; congr 1; omega
  refine ⟨h3.1.1.1, rfl, ?_⟩
  rw [en]
  exact ⟨rfl, f3.tr (fr_sF rfl), rs5_nu h3, by rw [F_sF, if_pos ⟨rfl, rfl⟩]; rfl⟩

def rngO (σ' : pm_H) (e : Nat) (l : List Nat) (w : Bool) (r : Rl) (xs : List (Nat × Nat)) (j : Nat) : Prop := rs5 σ' e l j (w || xs.any (fun x => decide (x.2 < x.1))) ∧ ∃ lo hi, isRu σ' (e + 2) (rG r lo hi) ∧ okG hi ∧ ∀ s, s < 100 → sy lo hi s = (sy (rLo r) (rHi r) s || gR xs s)
theorem okG_mBn {a b : Nat} (ha : a < 100) (hb : b < 100) : okG (mB (Int32.ofInt (a : Int) - 64) (Int32.ofInt (b : Int) - 64)) := fun j hj => by
  by_cases c : j < 64
  · rw [show Int32.ofInt (a : Int) - 64 = Int32.ofInt ((a : Int) - 64) from oi_subl _ 64, show Int32.ofInt (b : Int) - 64 = Int32.ofInt ((b : Int) - 64) from oi_subl _ 64, bt_mB' (by omega) (by omega) c]
    exact decide_eq_false (by omega)
  · exact bt_ge _ (by omega)
theorem pE_Re {e b : Nat} (h : pE e b) : pRe e b := by unfold pE at h; unfold pRe; omega
theorem pRu_Re {e b : Nat} (h : pRu (e + 2) b) : pRe e b := by unfold pRu at h; unfold pRe; omega
theorem isRu_E {σ σ' : pm_H} {e : Nat} {r : Rl} (h : isRu σ (e + 2) r) (f : fr (pE e) σ σ') : isRu σ' (e + 2) r := isRu_fr h f (fun b hb => by unfold pRu at hb; unfold pE; omega)
/-- the range is put in -/
theorem s_Re_range_17 {σ0 σ : pm_H} {e i lo hi : Nat} {l : List Nat} {w : Bool} {r : Rl} {d : Nat} (hd : 1 ≤ d) (h : rs5 σ e l i w) (hr : isRu σ (e + 2) r) (hG : okG (rHi r)) (hn : iv (pm_F σ 503 e) = Int32.ofInt (hi : Int)) (h1 : lo < 100) (h2 : hi < 100) (f : fr (pRe e) σ0 σ) : pm_R (d + 1) 50 17 [.ref e, .int (Int32.ofInt (lo : Int))] [] σ (fun o σ' => o = .inl (some (.int (bI true))) ∧ fr (pRe e) σ0 σ' ∧ rngO σ' e l w r [(lo, hi)] i) := by
  have g1 : ∀ s, gR [(lo, hi)] s = decide (lo ≤ s ∧ s ≤ hi) := fun s => by unfold gR; simp
  have a1 : ([(lo, hi)] : List (Nat × Nat)).any (fun x => decide (x.2 < x.1)) = decide (hi < lo) := by simp
  refine w_Re_readRange_17 ?_
  simp only [h.1.1.1, hn, h.1.1.2.2.2.2.1, hr.1.1, hr.1.2.1, hr.1.2.2.2.1, isr_ref, rv_ref, true_and, forall_eq]
  rw [oi_le (by omega)]
  refine ⟨fun c => ?_, fun c => ⟨rfl, rfl, rfl, f.tr (fr_sF ?_), ?_⟩⟩
  · refine (s_include hr.g).use (by omega) (fun σ1 e1 => ⟨rfl, rfl, ?_⟩)
    have g := isRu_guard hr (rLo r ||| mB (Int32.ofInt (lo : Int)) (Int32.ofInt (hi : Int))) (rHi r ||| mB (Int32.ofInt (lo : Int) - 64) (Int32.ofInt (hi : Int) - 64))
    rw [← show σ1 = _ from e1] at g
    refine ⟨f.tr (g.2.mono (fun b hb => pRu_Re hb)), ?_, _, _, g.1, okG_or hG (okG_mBn h1 h2), fun s hs => ?_⟩
    · rw [a1, decide_eq_false (by omega), Bool.or_false]
      exact rs5_fr h (P := fun b => b = e + 3) (by rw [e1]; exact fr_uSy rfl) ⟨by omega, by omega, by omega⟩
    · rw [sy_or, sy_mB (by omega) (by omega) hs, g1]
      congr 1
      rw [decide_eq_decide]; omega
  · unfold pRe; omega
  · refine ⟨?_, rLo r, rHi r, isRu_E hr (fr_sF rfl), hG, fun s hs => ?_⟩
    · rw [a1, decide_eq_true (by omega), Bool.or_true]
      exact rs5_w h
    · rw [g1, decide_eq_false (by omega), Bool.or_false]
theorem s_Re_readRange {σ : pm_H} {e i : Nat} {l : List Nat} {w : Bool} {r : Rl} (h : rs5 σ e l i w) (hr : isRu σ (e + 2) r) (hG : okG (rHi r)) : cIP 2 50 [.ref e] σ (bI (isR (rRange l i))) (fun σ' => fr (pRe e) σ σ' ∧ match rRange l i with
    | .inl p => ∃ w', rs5 σ' e l p w'
    | .inr (x, j) => rngO σ' e l w r [x] j) := by
  refine w_Re_readRange_0 ⟨h.1.1.1, (s_Re_readNumber h).use (by omega) (fun σ1 p1 => ?_)⟩
  obtain ⟨f1, p1⟩ := p1
  have f1' := f1.mono (fun b hb => pE_Re hb)
  cases e1 : rNum l i with
  | inl p =>
    rw [e1] at p1
    have er : rRange l i = .inl p := by unfold rRange; rw [e1]
    rw [er]
    exact ⟨fun _ => ⟨rfl, rfl, f1', w, p1⟩, fun q => absurd rfl q⟩
  | inr x =>
    obtain ⟨lo, j⟩ := x
    rw [e1] at p1
    have n1 := rNum_le e1
    obtain ⟨h1, hn1⟩ := p1
    have r1 := isRu_E hr f1
    refine ⟨fun q => absurd q (show ¬ (1 : Int32) = 0 by decide), fun _ => ?_⟩
    simp only [h1.1.1.1, hn1, true_and, forall_eq]
    refine (s_Re_skip (c := 45) h1 (by decide)).use (by omega) (fun σ2 p2 => ?_)
    obtain ⟨h2, f2, k2⟩ := p2
    have r2 := isRu_E r1 f2
    have f12 := f1'.tr (f2.mono (fun b hb => pE_Re hb))
    cases ec : isC l j 45 with
    | false =>
      rw [ec] at h2
      have er : rRange l i = .inr ((lo, lo), j) := by unfold rRange; rw [e1]; dsimp only; rw [ec]; rfl
      rw [er]
      refine ⟨fun _ => s_Re_range_17 (by omega) h2 r2 hG (by rw [k2]; exact hn1) n1.1 n1.1 f12, fun q => absurd rfl q⟩
    | true =>
      rw [ec] at h2
      refine ⟨fun q => absurd q (show ¬ (1 : Int32) = 0 by decide), fun _ => ⟨h2.1.1.1, (s_Re_readNumber h2).use (by omega) (fun σ3 p3 => ?_)⟩⟩
      rw [if_pos rfl] at p3 ⊢
      obtain ⟨f3, p3⟩ := p3
      have f13 := f12.tr (f3.mono (fun b hb => pE_Re hb))
      cases e3 : rNum l (j + 1) with
      | inl p =>
        rw [e3] at p3
        have er : rRange l i = .inl p := by unfold rRange; rw [e1]; dsimp only; rw [ec, if_pos rfl, e3]
        rw [er]
        exact ⟨fun _ => ⟨rfl, rfl, f13, w, p3⟩, fun q => absurd rfl q⟩
      | inr x =>
        obtain ⟨hi, k⟩ := x
        rw [e3] at p3
        have n3 := rNum_le e3
        have er : rRange l i = .inr ((lo, hi), k) := by unfold rRange; rw [e1]; dsimp only; rw [ec, if_pos rfl, e3]
        rw [er]
        refine ⟨fun q => absurd q (show ¬ (1 : Int32) = 0 by decide), fun _ => s_Re_range_17 (by omega) p3.1 (isRu_E r2 f3) hG p3.2 n1.1 n3.1 f13⟩
theorem rngO_app {σ' : pm_H} {e j : Nat} {l : List Nat} {w : Bool} {r : Rl} {x : Nat × Nat} {xs : List (Nat × Nat)} {lo hi : Int64} (hs : ∀ s, s < 100 → sy lo hi s = (sy (rLo r) (rHi r) s || gR [x] s)) (h : rngO σ' e l (w || ([x] : List (Nat × Nat)).any (fun x => decide (x.2 < x.1))) (rG r lo hi) xs j) : rngO σ' e l w r (x :: xs) j := by
  obtain ⟨h1, lo2, hi2, h2, h3, h4⟩ := h
  refine ⟨?_, lo2, hi2, h2, h3, fun s hs1 => ?_⟩
  · rw [List.any_cons, ← Bool.or_assoc]
    have : ([x] : List (Nat × Nat)).any (fun x => decide (x.2 < x.1)) = decide (x.2 < x.1) := by simp
    rw [this] at h1
    exact h1
  · have e1 : sy (rLo (rG r lo hi)) (rHi (rG r lo hi)) s = sy lo hi s := rfl
    rw [h4 s hs1, e1, hs s hs1, Bool.or_assoc]
    congr 1
    unfold gR
    simp
theorem le120 {n : Nat} (hn : n < 100000) : ((120 : Int32) ≤ Int32.ofInt (n : Int)) ↔ 120 ≤ n := by
  refine (oi_lle (n := 120) ⟨by omega, by decide⟩).trans ?_
  show (120 : Int) ≤ (n : Int) ↔ _
  omega
theorem rList_s {α : Type} {item : Nat → Rd α} {l : List Nat} {f i : Nat} : rList item l (f + 1) i = match item i with
    | .inl p => .inl p
    | .inr (a, j) => if isC l j 44 then (match rList item l f (j + 1) with
      | .inl p => .inl p
      | .inr (as, k) => .inr (a :: as, k)) else .inr ([a], j) := rfl
theorem s_Re_ranges_2 {σ0 : pm_H} {e : Nat} {l : List Nat} : ∀ (f n i : Nat) (w : Bool) (r : Rl) (σ : pm_H), n + f = 120 → rs5 σ e l i w → isRu σ (e + 2) r → okG (rHi r) → fr (pRe e) σ0 σ → (f = 0 → i ≤ l.length) → pm_R 3 49 2 [.ref e, .int (Int32.ofInt (n : Int))] [] σ (fun o σ' => o = .inl (some (.int (bI (isR (rList (rRange l) l f i))))) ∧ fr (pRe e) σ0 σ' ∧ match rList (rRange l) l f i with
    | .inl p => ∃ w', rs5 σ' e l p w'
    | .inr (xs, j) => rngO σ' e l w r xs j) := by
  intro f
  induction f with
  | zero =>
    intro n i w r σ hn h hr hG hf _
    refine w_Re_readRanges_2 ⟨fun _ => ⟨rfl, rfl, hf, ?_, rLo r, rHi r, hr, hG, fun s hs => ?_⟩, fun q => ?_⟩
    · show rs5 σ e l i (w || false)
      rw [Bool.or_false]; exact h
    · show _ = (_ || false)
      rw [Bool.or_false]
    · rw [le120 (by omega)] at q; omega
  | succ f ih =>
    intro n i w r σ hn h hr hG hf _
    rw [rList_s]
    refine w_Re_readRanges_2 ⟨fun q => ?_, fun _ => ⟨h.1.1.1, (s_Re_readRange h hr hG).use (by omega) (fun σ1 p1 => ?_)⟩⟩
    · rw [le120 (by omega)] at q; omega
    obtain ⟨f1, p1⟩ := p1
    have f01 := hf.tr f1
    cases e1 : rRange l i with
    | inl p =>
      rw [e1] at p1
      exact ⟨fun _ => ⟨rfl, rfl, f01, p1⟩, fun q => absurd rfl q⟩
    | inr x =>
      obtain ⟨x, j⟩ := x
      rw [e1] at p1
      have n1 := rRange_le e1
      have p1' : rngO σ1 e l w r [x] j := p1
      obtain ⟨h1, lo, hi, r1, G1, hs1⟩ := p1
      refine ⟨fun q => absurd q (show ¬ (1 : Int32) = 0 by decide), fun _ => ⟨h1.1.1.1, (s_Re_skip (c := 44) h1 (by decide)).use (by omega) (fun σ2 p2 => ?_)⟩⟩
      obtain ⟨h2, f2, _⟩ := p2
      have f02 := f01.tr (f2.mono (fun b hb => pE_Re hb))
      dsimp only
      cases ec : isC l j 44 with
      | false =>
        rw [ec] at h2
        refine ⟨fun _ => ⟨rfl, rfl, f02, h2, lo, hi, isRu_E r1 f2, G1, hs1⟩, fun q => absurd rfl q⟩
      | true =>
        rw [ec] at h2
        have lj := isC_lt ec
        refine ⟨fun q => absurd q (show ¬ (1 : Int32) = 0 by decide), fun _ => ?_⟩
        rw [oi_s]
        have rc := ih (n + 1) (j + 1) (w || ([x] : List (Nat × Nat)).any (fun x => decide (x.2 < x.1))) (rG r lo hi) σ2 (by omega) h2 (isRu_E r1 f2) G1 f02 (fun _ => by omega)
        refine pm_R_mono rc (fun o σ' q => ?_)
        obtain ⟨q1, q2, q3⟩ := q
        cases e3 : rList (rRange l) l f (j + 1) with
        | inl p => rw [e3] at q1 q3; exact ⟨q1, q2, q3⟩
        | inr y =>
          obtain ⟨xs, k⟩ := y
          rw [e3] at q1 q3
          exact ⟨q1, q2, rngO_app hs1 q3⟩
