/-! ===== the size of a set ===== -/
theorem cnt_add (p : Nat → Bool) (a b : Nat) : cnt p (a + b) = cnt p a + cnt (fun j => p (a + j)) b := by
  induction b with
  | zero => rfl
  | succ b ih => rw [← Nat.add_assoc, cnt_s, cnt_s, ih, Nat.add_assoc]
theorem cnt_zero {p : Nat → Bool} {n : Nat} (h : ∀ j, j < n → p j = false) : cnt p n = 0 := by
  induction n with
  | zero => rfl
  | succ n ih => rw [cnt_s, ih (fun j hj => h j (by omega)), h n (by omega)]; rfl
theorem cnt_sy {lo hi : Int64} (hG : okG hi) : cnt (bt lo) 64 + cnt (bt hi) 64 = cnt (sy lo hi) 100 := by
  rw [cnt_add (sy lo hi) 64 36, cnt_add (bt hi) 36 28, cnt_zero (n := 28) (fun j _ => hG (36 + j) (by omega)), Nat.add_zero]
  have a : cnt (sy lo hi) 64 = cnt (bt lo) 64 := cnt_ext (fun j hj => by unfold sy; rw [if_pos hj])
  have b : cnt (fun j => sy lo hi (64 + j)) 36 = cnt (bt hi) 36 := cnt_ext (fun j hj => by unfold sy; rw [if_neg (by omega), Nat.add_sub_cancel_left])
  rw [a, b]
theorem s_Sy_size {σ : pm_H} {g : Nat} {lo hi : Int64} (h : aSy σ g lo hi) (hG : okG hi) : cI 1 87 [.ref g] σ (Int32.ofInt ((cnt (sy lo hi) 100 : Nat) : Int)) := by
  obtain ⟨h1, h2, h3⟩ := h
  refine w_Sy_size_0 ?_
  simp only [h1, h2, jv_long, true_and, forall_eq]
  refine (s_bitCount lo).use (by omega) ?_
  simp only [h1, h3, jv_long, true_and, forall_eq]
  refine (s_bitCount hi).use (by omega) ⟨?_, rfl⟩
  rw [oi_add, ← cnt_sy hG, Int.natCast_add]
theorem s_Sy_sizeWithin {σ : pm_H} {g : Nat} {lo hi : Int64} {x1 x2 : Int32} (h : aSy σ g lo hi) (hG : okG hi) : cI 1 88 [.ref g, .int x1, .int x2] σ (Int32.ofInt ((cnt (sy (lo &&& mB x1 x2) (hi &&& mB (x1 - 64) (x2 - 64))) 100 : Nat) : Int)) := by
  obtain ⟨h1, h2, h3⟩ := h
  refine w_Sy_sizeWithin_0 ?_
  simp only [h1, h2, jv_long, true_and, forall_eq]
  refine (s_bits _ _ _).use (by omega) ((s_bitCount _).use (by omega) ?_)
  simp only [h1, h3, jv_long, true_and, forall_eq]
  refine (s_bits _ _ _).use (by omega) ((s_bitCount _).use (by omega) ⟨?_, rfl⟩)
  rw [oi_add, ← cnt_sy (okG_and hG), Int.natCast_add]
theorem s_Ru_sizeEn {σ : pm_H} {ρ : Nat} {r : Rl} (h : isRu σ ρ r) (ok : okR r) : cI 1 88 [.ref (ρ + 1), .int (Int32.ofInt (tLo (rTs r))), .int (Int32.ofInt (tHi (rTs r)))] σ (Int32.ofInt ((cnt (en r) 100 : Nat) : Int)) := by
  have := s_Sy_sizeWithin (x1 := Int32.ofInt (tLo (rTs r))) (x2 := Int32.ofInt (tHi (rTs r))) h.g ok.2.2.1
  have e : cnt (sy (enLo r) (enHi r)) 100 = cnt (en r) 100 := cnt_ext (fun j hj => sy_en ok.ts hj)
  unfold enLo enHi at e
  rw [e] at this
  exact this
/-! ===== words ===== -/
def woS (σ : pm_H) (w : Nat) : Prop := pm_t σ w = 11 ∧ pm_F σ 1000 w = .ref (w + 1) ∧ pm_t σ (w + 1) = 100 ∧ pm_l σ (w + 1) = 60
def isWo (σ : pm_H) (w : Nat) (l : List Nat) : Prop := woS σ w ∧ iv (pm_F σ 1001 w) = Int32.ofInt l.length ∧ l.length ≤ 60 ∧ ∀ (i s : Nat), l[i]? = some s → iv (pm_A σ (w + 1) i) = Int32.ofInt (s : Int)
def pWo (w b : Nat) : Prop := w ≤ b ∧ b < w + 2
theorem woS_fr {P : Nat → Prop} {σ σ' : pm_H} {w : Nat} (h : woS σ w) (hf : fr P σ σ') (hp : ¬ P w) : woS σ' w := by
  obtain ⟨h1, h2, h3, h4⟩ := h
  exact ⟨by rw [hf.t, h1], by rw [hf.F hp, h2], by rw [hf.t, h3], by rw [hf.l, h4]⟩
theorem isWo_fr {P : Nat → Prop} {σ σ' : pm_H} {w : Nat} {l : List Nat} (h : isWo σ w l) (hf : fr P σ σ') (hp : ∀ b, pWo w b → ¬ P b) : isWo σ' w l := by
  have p0 := hp w ⟨by omega, by omega⟩
  have p1 := hp (w + 1) ⟨by omega, by omega⟩
  obtain ⟨hS, h1, h2, h3⟩ := h
  exact ⟨woS_fr hS hf p0, by rw [hf.F p0, h1], h2, fun i s hs => by rw [hf.A p1]; exact h3 i s hs⟩
theorem s_Wo_clear {σ : pm_H} {w : Nat} (h : woS σ w) : cV 0 110 [.ref w] σ (fun σ' => isWo σ' w [] ∧ fr (pWo w) σ σ') := by
  have p0 : pWo w w := ⟨by omega, by omega⟩
  refine w_Wo_clear_0 ?_
  simp only [h.1, true_and, forall_eq]
  refine ⟨⟨⟨h.1, ?_, h.2.2.1, h.2.2.2⟩, ?_, by simp, fun i s hs => by simp at hs⟩, fr_sF p0⟩
  · rw [F_sF, if_neg (by omega), h.2.1]
  · rw [F_sF, if_pos ⟨rfl, rfl⟩]; rfl
theorem s_Wo_append {σ : pm_H} {w s : Nat} {l : List Nat} (h : isWo σ w l) (hl : l.length < 60) : cV 0 111 [.ref w, .int (Int32.ofInt (s : Int))] σ (fun σ' => isWo σ' w (l ++ [s]) ∧ fr (pWo w) σ σ') := by
  have p0 : pWo w w := ⟨by omega, by omega⟩
  have p1 : pWo w (w + 1) := ⟨by omega, by omega⟩
  obtain ⟨⟨h1, h2, h3, h4⟩, g1, g2, g3⟩ := h
  have q6 : ¬ (60 : Int32) ≤ Int32.ofInt (l.length : Int) := by rw [oi_lle ⟨by omega, by decide⟩]; omega
  have qi := vi hl (by omega)
  have qc := vc (show l.length < 2000000 by omega)
  refine w_Wo_append_0 ?_
  simp only [h1, h2, h3, h4, g1, q6, isr_ref, rv_ref, qi, qc, t_sA, F_sA, oi_s, not_false_eq_true, false_implies, true_implies, true_and, forall_eq]
  refine ⟨⟨⟨h1, ?_, h3, h4⟩, ?_, by simp; omega, fun i t hs => ?_⟩, (fr_sA p1).tr (fr_sF p0)⟩
  · rw [F_sF, if_neg (by omega), F_sA, h2]
  · rw [F_sF, if_pos ⟨rfl, rfl⟩, iv_int]; simp
  · rw [A_sF, A_sA]
    rcases getElem?_app1 hs with q | ⟨rfl, rfl⟩
    · have := (List.getElem?_eq_some_iff.mp q).1
      rw [if_neg (by omega)]
      exact g3 i t q
    · rw [if_pos ⟨rfl, rfl⟩]; rfl
theorem i32_60b : ¬ ((60 : Int32) < 0) := by decide
theorem i32_c60 : (60 : Int32).toNatClampNeg = 60 := by decide
theorem s_Wo_copyFrom {σ : pm_H} {w w' : Nat} {l : List Nat} (h : woS σ w) (h' : isWo σ w' l) : cV 0 114 [.ref w, .ref w'] σ (fun σ' => isWo σ' w l ∧ fr (pWo w) σ σ') := by
  have p0 : pWo w w := ⟨by omega, by omega⟩
  have p1 : pWo w (w + 1) := ⟨by omega, by omega⟩
  obtain ⟨h1, h2, h3, h4⟩ := h
  obtain ⟨⟨k1, k2, k3, k4⟩, g1, g2, g3⟩ := h'
  refine w_Wo_copyFrom_0 ?_
  simp only [h1, h2, h3, h4, k1, k2, k3, k4, g1, isr_ref, rv_ref, t_cp, F_cp, i32_00, i32_60b, i32_c0, i32_c60, not_false_eq_true, Nat.zero_add, Nat.le_refl, true_and, forall_eq]
  refine ⟨⟨⟨h1, ?_, h3, h4⟩, ?_, g2, fun i t hs => ?_⟩, (fr_cp p1).tr (fr_sF p0)⟩
  · rw [F_sF, if_neg (by omega), F_cp, h2]
  · rw [F_sF, if_pos ⟨rfl, rfl⟩]; rfl
  · have := (List.getElem?_eq_some_iff.mp hs).1
    rw [A_sF, A_cp, if_pos ⟨rfl, by omega, by omega⟩, Nat.zero_add, Nat.sub_zero]
    exact g3 i t hs
theorem s_Wo_appendAll {σ : pm_H} {w w' : Nat} {l l' : List Nat} (h : isWo σ w l) (h' : isWo σ w' l') (hd : w + 2 ≤ w' ∨ w' + 2 ≤ w) (hl : l.length + l'.length ≤ 60) : cV 1 112 [.ref w, .ref w'] σ (fun σ' => isWo σ' w (l ++ l') ∧ fr (pWo w) σ σ') := by
  refine w_Wo_appendAll_0 ?_
  refine lp (d := 1) (m := 112) (k := 2) (fun i => [.ref w, .ref w', .int (Int32.ofInt (i : Nat))]) (fun i τ => isWo τ w (l ++ l'.take i) ∧ isWo τ w' l' ∧ fr (pWo w) σ τ) l'.length ?_ ?_ 0 (Nat.zero_le _) σ ⟨by simpa using h, h', fr.rf⟩
  · rintro i hi τ ⟨i1, i2, i3⟩ next
    have hr := List.getElem?_eq_getElem hi
    generalize l'[i] = s at hr
    have q6 : ¬ Int32.ofInt (l'.length : Int) ≤ Int32.ofInt (i : Nat) := by rw [oi_le (by omega)]; omega
    have qi := vi (show i < 60 by omega) (by omega)
    have qc := vc (show i < 2000000 by omega)
    refine w_Wo_appendAll_2 ?_
    simp only [i2.1.1, i2.1.2.1, i2.1.2.2.1, i2.1.2.2.2, i2.2.1, i2.2.2.2 i s hr, i1.1.1, q6, isr_ref, rv_ref, qi, qc, not_false_eq_true, false_implies, true_implies, true_and, forall_eq]
    refine (s_Wo_append i1 (by rw [List.length_append, List.length_take]; omega)).use (by omega) (fun σ' ⟨r1, r2⟩ => ?_)
    rw [oi_s]
    refine next σ' ⟨?_, isWo_fr i2 r2 (fun b hb q => by have := hb.1; have := hb.2; have := q.1; have := q.2; omega), i3.tr r2⟩
    rw [List.take_add_one, hr, Option.toList_some, ← List.append_assoc]
    exact r1
  · rintro τ ⟨i1, i2, i3⟩
    have q6 : Int32.ofInt (l'.length : Int) ≤ Int32.ofInt (l'.length : Int) := Int32.le_refl _
    refine w_Wo_appendAll_2 ?_
    rw [List.take_length] at i1
    simp only [i2.1.1, i2.2.1, q6, not_true_eq_false, false_implies, true_implies, true_and, and_true, forall_eq]
    exact ⟨i1, i3⟩
/-- the output of a rule for a symbol -/
def outW (r : Rl) (s : Nat) : List Nat := (rTs r).map (fun t => (val t s).toNat)
theorem en_val {r : Rl} {s k t : Nat} (h : en r s = true) (hk : (rTs r)[k]? = some t) : 0 ≤ val t s ∧ val t s < 100 := by
  unfold en at h
  rw [Bool.and_eq_true, List.all_eq_true] at h
  exact of_decide_eq_true (h.2 t (List.mem_of_getElem? hk))
theorem s_Wo_appendOutput {σ : pm_H} {w ρ s : Nat} {l : List Nat} {r : Rl} (h : isWo σ w l) (h' : isRu σ ρ r) (ok : okR r) (hs : s < 100) (he : en r s = true) (hd : w + 2 ≤ ρ ∨ ρ + 3 ≤ w) (hl : l.length + (rTs r).length ≤ 60) : cV 2 113 [.ref w, .ref ρ, .int (Int32.ofInt (s : Int))] σ (fun σ' => isWo σ' w (l ++ outW r s) ∧ fr (pWo w) σ σ') := by
  have hl6 := ok.2.2.2.1
  refine w_Wo_appendOutput_0 ?_
  refine lp (d := 2) (m := 113) (k := 2) (fun i => [.ref w, .ref ρ, .int (Int32.ofInt (s : Int)), .int (Int32.ofInt (i : Nat))]) (fun i τ => isWo τ w (l ++ (outW r s).take i) ∧ isRu τ ρ r ∧ fr (pWo w) σ τ) (rTs r).length ?_ ?_ 0 (Nat.zero_le _) σ ⟨by simpa using h, h', fr.rf⟩
  · rintro i hi τ ⟨i1, i2, i3⟩ next
    have hr := List.getElem?_eq_getElem hi
    generalize (rTs r)[i] = t at hr
    have q6 : ¬ Int32.ofInt ((rTs r).length : Int) ≤ Int32.ofInt (i : Nat) := by rw [oi_le (by omega)]; omega
    have hv := en_val he hr
    have ho : (outW r s)[i]? = some (val t s).toNat := by unfold outW; rw [List.getElem?_map, hr]; rfl
    have hlo : (outW r s).length = (rTs r).length := by unfold outW; rw [List.length_map]
    refine w_Wo_appendOutput_2 ?_
    simp only [i2.1.1, i2.2.2.2.1, iv_int, q6, not_false_eq_true, false_implies, true_implies, true_and, forall_eq]
    refine (s_Ru_valueAt i2 hl6 hr (ok.ts t (List.mem_of_getElem? hr)) (by omega)).use (by omega) ⟨i1.1.1, ?_⟩
    have ev : Int32.ofInt (val t s) = Int32.ofInt (((val t s).toNat : Nat) : Int) := by congr 1; omega
    rw [ev]
    refine (s_Wo_append i1 (by rw [List.length_append, List.length_take]; omega)).use (by omega) (fun σ' ⟨r1, r2⟩ => ?_)
    rw [oi_s]
    refine next σ' ⟨?_, isRu_fr i2 r2 (fun b hb q => by have := hb.1; have := hb.2; have := q.1; have := q.2; omega), i3.tr r2⟩
    rw [List.take_add_one, ho, Option.toList_some, ← List.append_assoc]
    exact r1
  · rintro τ ⟨i1, i2, i3⟩
    have q6 : Int32.ofInt ((rTs r).length : Int) ≤ Int32.ofInt ((rTs r).length : Int) := Int32.le_refl _
    have hlo : (outW r s).length = (rTs r).length := by unfold outW; rw [List.length_map]
    refine w_Wo_appendOutput_2 ?_
    rw [← hlo, List.take_length] at i1
    simp only [i2.1.1, i2.2.2.2.1, iv_int, q6, not_true_eq_false, false_implies, true_implies, true_and, and_true, forall_eq]
    exact ⟨i1, i3⟩
