/-! ===== parse: the model's letters, numbers ===== -/
def hr (l : List Nat) (i : Nat) : Int := match l[i]? with
  | some c => (c : Int)
  | none => -1
theorem hr_is {l : List Nat} {i c : Nat} (hc : c < 65536) (hl : ∀ c, c ∈ l → c < 65536) : Int32.ofInt (hr l i) = Int32.ofInt (c : Int) ↔ isC l i c = true := by
  unfold hr isC
  rw [decide_eq_true_eq]
  cases e : l[i]? with
  | none =>
    dsimp only
    rw [oi_eq (by omega)]
    exact ⟨fun q => by omega, fun q => by cases q⟩
  | some c0 =>
    have := hl c0 (List.mem_of_getElem? e)
    dsimp only
    rw [oi_eq (by omega), Option.some.injEq]
    omega
def pF (m : Nat) (σ σ' : pm_H) : Prop := frX m (fun f => f = 1214 ∨ f = 1215 ∨ f = 1216) (fun _ => False) (fun _ => False) σ σ'
theorem pF_mS {m : Nat} {σ σ' : pm_H} (h : pF m σ σ') (hm : mS σ m) : mS σ' m := frX.mS h hm (fun f hf => by rcases hf with e | e | e <;> (rw [e]; decide))
theorem pF_sF {m f : Nat} {v : Value} {σ : pm_H} (hf : f = 1214 ∨ f = 1215 ∨ f = 1216) : pF m σ (pm_sF σ f m v) := frX_sF.mono (fun g hg => by rw [hg]; exact hf) (fun _ q => q) (fun _ q => q)
def mOk (τ : pm_H) (m : Nat) (l : List Nat) (i : Nat) (w : Bool) : Prop := mS τ m ∧ mLt τ m l ∧ (∀ c, c ∈ l → c < 65536) ∧ iv (pm_F τ 1214 m) = Int32.ofInt (i : Int) ∧ i ≤ 200 ∧ iv (pm_F τ 1215 m) = -1 ∧ iv (pm_F τ 1216 m) = bI w
def mEr (τ : pm_H) (m p : Nat) : Prop := mS τ m ∧ iv (pm_F τ 1215 m) = Int32.ofInt (p : Int) ∧ p ≤ 200
theorem mOk_X {m i : Nat} {l : List Nat} {w : Bool} {Fs As Sl : Nat → Prop} {σ σ' : pm_H} (h : mOk σ m l i w) (f : frX m Fs As Sl σ σ') (hm : mS σ' m) (h1 : ¬ Fs 1213 ∧ ¬ Fs 1214 ∧ ¬ Fs 1215 ∧ ¬ Fs 1216) (h2 : ¬ As 11) : mOk σ' m l i w :=
  ⟨hm, mLt_X h.2.1 f h1.1 h2, h.2.2.1, by rw [f.F h1.2.1]; exact h.2.2.2.1, h.2.2.2.2.1, by rw [f.F h1.2.2.1]; exact h.2.2.2.2.2.1, by rw [f.F h1.2.2.2]; exact h.2.2.2.2.2.2⟩
theorem mEr_X {m p : Nat} {Fs As Sl : Nat → Prop} {σ σ' : pm_H} (h : mEr σ m p) (f : frX m Fs As Sl σ σ') (hm : mS σ' m) (h1 : ¬ Fs 1215) : mEr σ' m p := ⟨hm, by rw [f.F h1]; exact h.2.1, h.2.2⟩
theorem mOk_at {σ : pm_H} {m i j : Nat} {l : List Nat} {w : Bool} (h : mOk σ m l i w) (hj : j ≤ 200) : mOk (pm_sF σ 1214 m (.int (Int32.ofInt (j : Int)))) m l j w :=
  ⟨mS_sF h.1 (by decide), ⟨by rw [F_sF, if_neg (by omega)]; exact h.2.1.1, h.2.1.2.1, fun i c hc => by rw [A_sF]; exact h.2.1.2.2 i c hc⟩, h.2.2.1, by rw [F_sF, if_pos ⟨rfl, rfl⟩]; rfl, hj, by rw [F_sF, if_neg (by omega)]; exact h.2.2.2.2.2.1, by rw [F_sF, if_neg (by omega)]; exact h.2.2.2.2.2.2⟩
theorem mOk_w {σ : pm_H} {m i : Nat} {l : List Nat} {w b : Bool} (h : mOk σ m l i w) : mOk (pm_sF σ 1216 m (.int (bI b))) m l i b :=
  ⟨mS_sF h.1 (by decide), ⟨by rw [F_sF, if_neg (by omega)]; exact h.2.1.1, h.2.1.2.1, fun i c hc => by rw [A_sF]; exact h.2.1.2.2 i c hc⟩, h.2.2.1, by rw [F_sF, if_neg (by omega)]; exact h.2.2.2.1, h.2.2.2.2.1, by rw [F_sF, if_neg (by omega)]; exact h.2.2.2.2.2.1, by rw [F_sF, if_pos ⟨rfl, rfl⟩]; rfl⟩
theorem mOk_er {σ : pm_H} {m i : Nat} {l : List Nat} {w : Bool} (h : mOk σ m l i w) : mEr (pm_sF σ 1215 m (.int (Int32.ofInt (i : Int)))) m i :=
  ⟨mS_sF h.1 (by decide), by rw [F_sF, if_pos ⟨rfl, rfl⟩]; rfl, h.2.2.2.2.1⟩
theorem im_0 : ¬ (0 : Int32) ≤ -1 := by decide
theorem im_1 : (-1 : Int32) < 0 := by decide
theorem le0p {p : Nat} (h : p < 100000) : (0 : Int32) ≤ Int32.ofInt (p : Int) := by
  refine (oi_lle (n := 0) ⟨by omega, by decide⟩).mpr ?_
  show (0 : Int) ≤ (p : Int)
  omega
theorem lt0p {p : Nat} (h : p < 100000) : ¬ Int32.ofInt (p : Int) < 0 := by rw [z_lt0 (nrg (by omega))]; omega
theorem s_M_here {σ : pm_H} {m i : Nat} {l : List Nat} {w : Bool} (h : mOk σ m l i w) : cI 0 194 [.ref m] σ (Int32.ofInt (hr l i)) := by
  obtain ⟨hm, hL, hc, hi, hi2, hf, hw⟩ := h
  have hl := hL.2.1
  refine w_M_here_0 ?_
  simp only [hm.1, hi, hL.1, hm.f11, hm.t11, hm.l11, isr_ref, rv_ref, true_and, forall_eq]
  rw [oi_le (by omega)]
  refine ⟨fun q => ?_, fun q => ?_⟩
  · have : hr l i = -1 := by unfold hr; rw [List.getElem?_eq_none (by omega)]
    rw [this]; exact ⟨rfl, trivial⟩
  · have hq := List.getElem?_eq_getElem (show i < l.length by omega)
    generalize l[i] = c0 at hq
    have v := vi (show i < 120 by omega) (by omega)
    have wv := vc (show i < 2000000 by omega)
    have : hr l i = (c0 : Int) := by unfold hr; rw [hq]
    rw [this]
    simp only [v, wv, hL.2.2 i c0 hq, true_and, forall_eq]
theorem s_M_isDigit {σ : pm_H} {m i : Nat} {l : List Nat} {w : Bool} (h : mOk σ m l i w) : cI 1 195 [.ref m] σ (bI (dg l i)) := by
  refine w_M_isDigit_0 ⟨h.1.1, (s_M_here h).use (by omega) ?_⟩
  have hrg : -2147483648 ≤ hr l i ∧ hr l i < 2147483648 := by
    unfold hr
    cases e : l[i]? with
    | none => exact ⟨by decide, by decide⟩
    | some c => have := h.2.2.1 c (List.mem_of_getElem? e); dsimp only; omega
  have hd : dg l i = decide ((48 : Int) ≤ hr l i ∧ hr l i ≤ 57) := by
    unfold dg hr
    cases e : l[i]? with
    | none => rfl
    | some c => dsimp only; rw [decide_eq_decide]; omega
  rw [hd]
  exact (s_M_in (a := 48) (b := 57) hrg (by omega) (by omega)).use (by omega) ⟨bI_and _, rfl, rfl⟩
theorem s_M_takes {σ : pm_H} {m i c : Nat} {l : List Nat} {w : Bool} (h : mOk σ m l i w) (hc : c < 65536) : cV 1 196 [.ref m, .int (Int32.ofInt (c : Int))] σ (fun σ' => pF m σ σ' ∧ if isC l i c then mOk σ' m l (i + 1) w else mEr σ' m i) := by
  have hi2 := h.2.2.2.2.1
  have hl := h.2.1.2.1
  refine w_M_takes_0 ?_
  simp only [h.1.1, h.2.2.2.2.2.1, im_0, not_false_eq_true, false_implies, true_implies, true_and, forall_eq]
  refine (s_M_here h).use (by omega) ?_
  rw [hr_is hc h.2.2.1]
  refine ⟨fun e => ?_, fun e => ?_⟩
  · have lt := isC_lt e
    simp only [h.1.1, h.2.2.2.2.2.1, h.2.2.2.1, im_0, not_false_eq_true, false_implies, true_implies, true_and, forall_eq, oi_s]
    refine ⟨pF_sF (Or.inl rfl), ?_⟩
    rw [e, if_pos rfl]
    exact mOk_at h (by omega)
  · have z : iv (pm_F (pm_sF σ 1215 m (.int (Int32.ofInt (i : Int)))) 1215 m) = Int32.ofInt (i : Int) := by rw [F_sF, if_pos ⟨rfl, rfl⟩]; rfl
    have e' : isC l i c = false := by cases q : isC l i c with | true => exact absurd q e | false => rfl
    rw [h.2.2.2.1]
    refine ⟨h.1.1, h.1.1, h.1.1, fun _ => ⟨pF_sF (Or.inr (Or.inl rfl)), ?_⟩, fun q => absurd (by rw [z]; exact le0p (by omega)) q⟩
    rw [e', if_neg (by decide)]; exact mOk_er h
theorem s_M_takes_e {σ : pm_H} {m p : Nat} {x : Int32} (h : mEr σ m p) : cV 1 196 [.ref m, .int x] σ (fun σ' => σ' = σ) := by
  have := h.2.2
  refine w_M_takes_0 ⟨h.1.1, fun z ez => ⟨fun _ => ⟨h.1.1, fun z2 e2 => ⟨fun _ => ⟨rfl, rfl⟩, fun q => ?_⟩⟩, fun q => ?_⟩⟩
  · rw [e2, h.2.1] at q; exact absurd (le0p (by omega)) q
  · rw [ez, h.2.1] at q; exact absurd (le0p (by omega)) q
def nvI (x : Rd Nat) : Nat := match x with
  | .inl _ => 0
  | .inr (v, _) => v
def numM (m : Nat) (l : List Nat) (w : Bool) (σ : pm_H) (x : Rd Nat) (σ' : pm_H) : Prop := pF m σ σ' ∧ match x with
  | .inl p => mEr σ' m p
  | .inr (_, j) => mOk σ' m l j w
theorem s_M_number {σ : pm_H} {m i : Nat} {l : List Nat} {w : Bool} (h : mOk σ m l i w) : cIP 2 197 [.ref m] σ (Int32.ofInt (nvI (rNum l i) : Nat)) (numM m l w σ (rNum l i)) := by
  have hi2 := h.2.2.2.2.1
  have hl := h.2.1.2.1
  refine w_M_number_0 ⟨h.1.1, fun z ez => ⟨fun q => ?_, fun _ => ⟨h.1.1, gI (s_M_isDigit h) (by omega) (fun e1 => ?_) (fun e1 => ?_)⟩⟩⟩
  · rw [ez, h.2.2.2.2.2.1] at q; exact absurd q im_0
  · have er : rNum l i = .inl i := if_neg (by rw [e1]; decide)
    rw [er]
    refine ⟨h.1.1, fun z3 e3 => ⟨h.1.1, fun σ4 e4 => ?_⟩⟩
    rw [e3, h.2.2.2.1] at e4
    rw [e4]
    have hE := mOk_er h
    refine w_M_number_10 ⟨h.1.1, fun z5 e5 => ⟨fun q => ?_, fun _ => ⟨rfl, pF_sF (Or.inr (Or.inl rfl)), hE⟩⟩⟩
    rw [e5, hE.2.1] at q; exact absurd q (lt0p (by omega))
  obtain ⟨c, a1, a2, a3, a4⟩ := dg_at e1
  have lt := dg_lt e1
  have hc : hr l i = (c : Int) := by unfold hr; rw [a1]
  refine w_M_number_10 ⟨h.1.1, fun z5 e5 => ⟨fun _ => ⟨h.1.1, (s_M_here h).use (by omega) ?_⟩, fun q => ?_⟩⟩
  rotate_left
  · rw [e5, h.2.2.2.2.2.1] at q; exact absurd im_1 q
  have h1 := mOk_at h (show i + 1 ≤ 200 by omega)
  have f1 : pF m σ (pm_sF σ 1214 m (.int (Int32.ofInt ((i + 1 : Nat) : Int)))) := pF_sF (Or.inl rfl)
  simp only [h.1.1, h.2.2.2.1, oi_s, true_and, forall_eq]
  refine ⟨h1.1.1, gI (s_M_isDigit h1) (by omega) (fun e2 => ?_) (fun e2 => ?_)⟩
  · have er : rNum l i = .inr (dgv l i, i + 1) := by unfold rNum; rw [if_pos e1, if_neg (by rw [e2]; decide)]
    rw [er, hc]
    refine ⟨?_, f1, h1⟩
    rw [show Int32.ofInt (c : Int) - 48 = Int32.ofInt ((c : Int) - 48) from oi_subl _ 48]
    show _ = Sum.inl (some (Value.int (Int32.ofInt ((dgv l i : Nat) : Int))))
    rw [a4, show ((c : Int) - 48) = ((c - 48 : Nat) : Int) by omega]
  · obtain ⟨c', b1, b2, b3, b4⟩ := dg_at e2
    have lt2 := dg_lt e2
    have hc' : hr l (i + 1) = (c' : Int) := by unfold hr; rw [b1]
    have er : rNum l i = .inr (10 * dgv l i + dgv l (i + 1), i + 2) := by unfold rNum; rw [if_pos e1, if_pos e2]
    rw [er]
    refine ⟨h1.1.1, (s_M_here h1).use (by omega) ?_⟩
    have h2 := mOk_at h1 (show i + 1 + 1 ≤ 200 by omega)
    simp only [h1.1.1, h1.2.2.2.1, oi_s, true_and, forall_eq]
    refine ⟨?_, frX.tr f1 (pF_sF (Or.inl rfl)), h2⟩
    rw [hc, hc', show Int32.ofInt (c : Int) - 48 = Int32.ofInt ((c : Int) - 48) from oi_subl _ 48, show (10 : Int32) * Int32.ofInt ((c : Int) - 48) = Int32.ofInt (10 * ((c : Int) - 48)) from oi_lmul _ 10, oi_add, show Int32.ofInt (10 * ((c : Int) - 48) + (c' : Int)) - 48 = Int32.ofInt (10 * ((c : Int) - 48) + (c' : Int) - 48) from oi_subl _ 48]
    show _ = Sum.inl (some (Value.int (Int32.ofInt ((10 * dgv l i + dgv l (i + 1) : Nat) : Int))))
    rw [a4, b4, show 10 * ((c : Int) - 48) + (c' : Int) - 48 = ((10 * (c - 48) + (c' - 48) : Nat) : Int) by omega]
theorem s_M_number_e {σ : pm_H} {m p : Nat} (h : mEr σ m p) : cIP 1 197 [.ref m] σ 0 (fun σ' => σ' = σ) := by
  have := h.2.2
  refine w_M_number_0 ⟨h.1.1, fun z ez => ⟨fun _ => w_M_number_10 ⟨h.1.1, fun z2 e2 => ⟨fun q => ?_, fun _ => ⟨rfl, rfl⟩⟩⟩, fun q => ?_⟩⟩
  · rw [e2, h.2.1] at q; exact absurd q (lt0p (by omega))
  · rw [ez, h.2.1] at q; exact absurd (le0p (by omega)) q
