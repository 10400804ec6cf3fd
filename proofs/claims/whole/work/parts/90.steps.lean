/-! ===== the states to which a symbol leads: the class ===== -/
theorem s_fillI {σ : pm_H} {a N : Nat} {v : Int32} (ht : pm_t σ a = 100) (hl : pm_l σ a = N) (hN : N < 1000000) : cV 0 247 [.ref a, .int v] σ (fun σ' => (∀ j, j < N → pm_A σ' a j = .int v) ∧ fr (fun b => b = a) σ σ') := by
  refine w_J_fillI_0 ⟨ht, fun z hz => ?_⟩
  rw [hl, oi_nat] at hz
  subst hz
  refine lp (d := 0) (m := 247) (k := 5) (fun i => [.ref a, .int v, .int (Int32.ofInt (i : Nat)), .int (Int32.ofInt (N : Int))]) (fun i τ => (∀ j, j < i → pm_A τ a j = .int v) ∧ fr (fun b => b = a) σ τ) N ?_ ?_ 0 (Nat.zero_le _) σ ⟨fun j hj => absurd hj (Nat.not_lt_zero _), fr.rf⟩
  · rintro i hi τ ⟨i1, i2⟩ next
    have q6 : ¬ Int32.ofInt (N : Int) ≤ Int32.ofInt (i : Nat) := by rw [oi_le (by omega)]; omega
    have qi := vi hi (by omega)
    have qc := vc (show i < 2000000 by omega)
    refine w_J_fillI_5 ⟨fun q => absurd q q6, fun _ => ?_⟩
    simp only [i2.t, i2.l, ht, hl, qi, qc, true_and, forall_eq, oi_s]
    refine next _ ⟨fun j hj => ?_, i2.tr (fr_sA (P := fun b => b = a) rfl)⟩
    rw [A_sA]
    by_cases e : j = i
    · rw [if_pos ⟨rfl, e⟩]
    · rw [if_neg (fun q => e q.2)]; exact i1 j (by omega)
  · rintro τ ⟨i1, i2⟩
    exact w_J_fillI_5 ⟨fun _ => ⟨rfl, i1, i2⟩, fun q => absurd (Int32.le_refl _) q⟩
def addT (p s : Nat) (X : Nat) (r : Rl) : Nat := if decide (rF r = p) && en r s then X ||| 2 ^ (rT r) else X
/-- where a symbol leads from a state -/
def tg (rs : List Rl) (p s : Nat) : Nat := rs.foldl (addT p s) 0
def aftN (rs : List Rl) (S s : Nat) : Nat → Nat
  | 0 => 0
  | p + 1 => aftN rs S s p ||| (if S.testBit p then tg rs p s else 0)
def aft (rs : List Rl) (S s : Nat) : Nat := aftN rs S s 12
theorem foldT_lt {p s : Nat} {rs : List Rl} (hr : ∀ r, r ∈ rs → okR r) : ∀ X, X < 4096 → rs.foldl (addT p s) X < 4096 := by
  induction rs with
  | nil => exact fun S h => h
  | cons r rs ih =>
    intro X h
    refine ih (fun x hx => hr x (List.mem_cons_of_mem _ hx)) _ ?_
    unfold addT
    split
    · exact or_lt h (two_lt (hr r List.mem_cons_self).2.1)
    · exact h
theorem tg_lt {p s : Nat} {rs : List Rl} (hr : ∀ r, r ∈ rs → okR r) : tg rs p s < 4096 := foldT_lt hr 0 (by decide)
theorem aftN_lt {S s : Nat} {rs : List Rl} (hr : ∀ r, r ∈ rs → okR r) (n : Nat) : aftN rs S s n < 4096 := by
  induction n with
  | zero => exact (by decide : (0 : Nat) < 4096)
  | succ n ih =>
    unfold aftN
    refine or_lt ih ?_
    split
    · exact tg_lt hr
    · decide
def stS (σ : pm_H) (e : Nat) : Prop := pm_t σ e = 8 ∧ pm_F σ 700 e = .ref (e + 1) ∧ pm_t σ (e + 1) = 100 ∧ pm_l σ (e + 1) = 1200
def isSt (σ : pm_H) (e : Nat) (T : Tr) : Prop := stS σ e ∧ iv (pm_F σ 701 e) = Int32.ofInt (T.1 : Int) ∧ ∀ p s, p < 12 → s < 100 → iv (pm_A σ (e + 1) (100 * p + s)) = Int32.ofInt ((tg T.2 p s : Nat) : Int)
def pSt (e b : Nat) : Prop := b = e ∨ b = e + 1
theorem stS_fr {P : Nat → Prop} {σ σ' : pm_H} {e : Nat} (h : stS σ e) (hf : fr P σ σ') (hp : ¬ P e) : stS σ' e := by
  obtain ⟨h1, h2, h3, h4⟩ := h
  exact ⟨by rw [hf.t, h1], by rw [hf.F hp, h2], by rw [hf.t, h3], by rw [hf.l, h4]⟩
theorem isSt_fr {P : Nat → Prop} {σ σ' : pm_H} {e : Nat} {T : Tr} (h : isSt σ e T) (hf : fr P σ σ') (hp : ∀ b, pSt e b → ¬ P b) : isSt σ' e T :=
  ⟨stS_fr h.1 hf (hp _ (Or.inl rfl)), by rw [hf.F (hp _ (Or.inl rfl))]; exact h.2.1, fun p s hp' hs => by rw [hf.A (hp _ (Or.inr rfl))]; exact h.2.2 p s hp' hs⟩
theorem oi_r100 (p s : Nat) : Int32.ofInt (p : Int) * 100 + Int32.ofInt (s : Int) = Int32.ofInt ((100 * p + s : Nat) : Int) := by
  rw [oi_mull, oi_add]; congr 1
  have : (OfNat.ofNat 100 : Int) = 100 := rfl
  omega
theorem s_St_load {σ : pm_H} {e a : Nat} {T : Tr} {π : Nat → Nat} (he : stS σ e) (h : isTr σ a T π) (hT : okTr T) (hd : a + 122 ≤ e ∨ e + 2 ≤ a) : cV 2 68 [.ref e, .ref a] σ (fun σ' => isSt σ' e T ∧ fr (pSt e) σ σ') := by
  have hl := h.2.2.2.2.1
  refine w_St_load_0 ?_
  simp only [he.1, he.2.1, isr_ref, rv_ref, true_and, forall_eq]
  refine (s_fillI he.2.2.1 he.2.2.2 (by omega)).use (by omega) (fun τ0 ⟨z1, z2⟩ => ?_)
  have h0 := isTr_fr h z2 (fun b hb q => by have := hb.1; have := hb.2; omega)
  have he0 := stS_fr he z2 (by omega)
  simp only [h0.1.1, h0.2.2.2.1, he0.1, true_and, forall_eq]
  have G : ∀ i τ, (fr (pSt e) σ τ ∧ stS τ e ∧ iv (pm_F τ 701 e) = Int32.ofInt (T.1 : Int) ∧ ∀ p s, p < 12 → s < 100 → iv (pm_A τ (e + 1) (100 * p + s)) = Int32.ofInt (((T.2.take i).foldl (addT p s) 0 : Nat) : Int)) → i ≤ T.2.length → pm_R 2 68 10 [.ref e, .ref a, .int (Int32.ofInt (i : Nat)), pm_U, pm_U] [] τ (fun o σ' => o = .inl none ∧ isSt σ' e T ∧ fr (pSt e) σ σ') := by
    intro i τ hI hi
    refine lp (d := 2) (m := 68) (k := 10) (fun i => [.ref e, .ref a, .int (Int32.ofInt (i : Nat)), pm_U, pm_U]) (fun i τ => fr (pSt e) σ τ ∧ stS τ e ∧ iv (pm_F τ 701 e) = Int32.ofInt (T.1 : Int) ∧ ∀ p s, p < 12 → s < 100 → iv (pm_A τ (e + 1) (100 * p + s)) = Int32.ofInt (((T.2.take i).foldl (addT p s) 0 : Nat) : Int)) T.2.length ?_ ?_ i hi τ hI
    · rintro i hi τ ⟨i1, i2, i3, i4⟩ next
      have hr := List.getElem?_eq_getElem hi
      generalize T.2[i] = r at hr
      have ok := hT.at hr
      have q6 : ¬ Int32.ofInt (T.2.length) ≤ Int32.ofInt (i : Nat) := by rw [oi_le (by omega)]; omega
      have h' := isTr_fr h i1 (fun b hb q => by have := hb.1; have := hb.2; rcases q with q | q <;> omega)
      obtain ⟨qi, qc, qa, qr0⟩ := h'.at hr
      refine w_St_load_10 ?_
      simp only [h'.1.1, h'.1.2.1, h'.1.2.2.1, h'.1.2.2.2.1, h'.2.2.1, q6, not_false_eq_true, false_implies, true_implies, isr_ref, rv_ref, qi, qc, qa, true_and, forall_eq]
      refine lp (d := 2) (m := 68) (k := 21) (fun s => [.ref e, .ref a, .int (Int32.ofInt (i : Nat)), .ref (a + 2 + 3 * π i), .int (Int32.ofInt (s : Nat))]) (fun s0 τ => fr (pSt e) σ τ ∧ stS τ e ∧ iv (pm_F τ 701 e) = Int32.ofInt (T.1 : Int) ∧ ∀ p s, p < 12 → s < 100 → iv (pm_A τ (e + 1) (100 * p + s)) = Int32.ofInt ((if s < s0 then addT p s ((T.2.take i).foldl (addT p s) 0) r else (T.2.take i).foldl (addT p s) 0 : Nat) : Int)) 100 ?_ ?_ 0 (Nat.zero_le _) τ ⟨i1, i2, i3, fun p s hp hs => by rw [if_neg (by omega)]; exact i4 p s hp hs⟩
      · rintro s0 hs0 τ1 ⟨j1, j2, j3, j4⟩ next1
        have h1 := isTr_fr h j1 (fun b hb q => by have := hb.1; have := hb.2; rcases q with q | q <;> omega)
        obtain ⟨_, _, _, qr⟩ := h1.at hr
        have vr := vi (show 100 * rF r + s0 < 1200 by have := ok.1; omega) (by omega)
        have wr := vc (show 100 * rF r + s0 < 2000000 by have := ok.1; omega)
        have hz := j4 (rF r) s0 ok.1 hs0
        rw [if_neg (by omega)] at hz
        refine w_St_load_21 ⟨fun q => ?_, fun q => ⟨qr.1.1, (s_Ru_isEnabled qr ok.ts hs0).use (by omega) ⟨fun e1 => ?_, fun e1 => ?_⟩⟩⟩
        · rw [i32_100 (by omega)] at q; omega
        · rw [oi_s]
          refine next1 τ1 ⟨j1, j2, j3, fun p s hp hs => ?_⟩
          rw [j4 p s hp hs]
          by_cases e2 : s = s0
          · subst e2
            rw [if_neg (by omega), if_pos (by omega), addT, bI_0.mp e1, Bool.and_false]; rfl
          · by_cases e3 : s < s0
            · rw [if_pos e3, if_pos (by omega)]
            · rw [if_neg e3, if_neg (by omega)]
        · simp only [j2.1, j2.2.1, j2.2.2.1, j2.2.2.2, isr_ref, rv_ref, qr.1.1, qr.2.1, qr.2.2.1, iv_int, oi_r100, vr, wr, hz, st_one ok.2.1, i_orN, true_and, forall_eq, oi_s]
          refine next1 _ ⟨j1.tr (fr_sA (P := pSt e) (Or.inr rfl)), ⟨j2.1, j2.2.1, j2.2.2.1, j2.2.2.2⟩, j3, fun p s hp hs => ?_⟩
          rw [A_sA]
          by_cases e2 : s = s0
          · subst e2
            by_cases e3 : p = rF r
            · subst e3
              rw [if_pos ⟨rfl, rfl⟩, if_pos (by omega), addT, bI_1.mp e1, decide_eq_true rfl]; rfl
            · rw [if_neg (by omega), j4 p s hp hs, if_neg (by omega), if_pos (by omega), addT, decide_eq_false (fun q => e3 q.symm), Bool.false_and]; rfl
          · rw [if_neg (by have := ok.1; omega), j4 p s hp hs]
            by_cases e3 : s < s0
            · rw [if_pos e3, if_pos (by omega)]
            · rw [if_neg e3, if_neg (by omega)]
      · rintro τ1 ⟨j1, j2, j3, j4⟩
        refine w_St_load_21 ⟨fun _ => ?_, fun q => absurd (Int32.le_refl _) q⟩
        rw [oi_s]
        refine next τ1 ⟨j1, j2, j3, fun p s hp hs => ?_⟩
        rw [j4 p s hp hs, if_pos hs, foldl_take hr]
    · rintro τ ⟨i1, i2, i3, i4⟩
      have q6 : Int32.ofInt (T.2.length) ≤ Int32.ofInt (T.2.length) := Int32.le_refl _
      have h' := isTr_fr h i1 (fun b hb q => by have := hb.1; have := hb.2; rcases q with q | q <;> omega)
      refine w_St_load_10 ?_
      rw [take_len] at i4
      simp only [h'.1.1, h'.2.2.1, q6, not_true_eq_false, false_implies, true_implies, true_and, and_true, forall_eq]
      exact ⟨⟨i2, i3, i4⟩, i1⟩
  refine G 0 _ ⟨(z2.mono (fun b q => Or.inr q)).tr (fr_sF (P := pSt e) (Or.inl rfl)), ⟨he0.1, ?_, he0.2.2.1, he0.2.2.2⟩, ?_, fun p s hp hs => ?_⟩ (Nat.zero_le _)
  · rw [F_sF, if_neg (by omega)]; exact he0.2.1
  · rw [F_sF, if_pos ⟨rfl, rfl⟩]; rfl
  · rw [A_sF, z1 _ (by omega)]; rfl
