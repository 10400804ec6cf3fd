/-! ===== outputs of the class: a step towards the beginning ===== -/
theorem s_Wo_copyFrom0 {σ : pm_H} {w w' : Nat} (h : woS σ w) (h' : woS σ w') : cV 0 114 [.ref w, .ref w'] σ (fun σ' => woS σ' w ∧ (∀ l, isWo σ w' l → isWo σ' w l) ∧ fr (pWo w) σ σ') := by
  have p0 : pWo w w := ⟨by omega, by omega⟩
  have p1 : pWo w (w + 1) := ⟨by omega, by omega⟩
  obtain ⟨h1, h2, h3, h4⟩ := h
  obtain ⟨k1, k2, k3, k4⟩ := h'
  refine w_Wo_copyFrom_0 ?_
  simp only [h1, h2, h3, h4, k1, k2, k3, k4, isr_ref, rv_ref, t_cp, F_cp, i32_00, i32_60b, i32_c0, i32_c60, not_false_eq_true, Nat.zero_add, Nat.le_refl, true_and, forall_eq]
  have hS : woS (pm_sF (pm_cp σ (w' + 1) 0 (w + 1) 0 60) 1001 w (.int (iv (pm_F σ 1001 w')))) w := ⟨h1, by rw [F_sF, if_neg (by omega), F_cp, h2], h3, h4⟩
  refine ⟨hS, fun l hl => ⟨hS, ?_, hl.2.2.1, fun i t hs => ?_⟩, (fr_cp p1).tr (fr_sF p0)⟩
  · rw [F_sF, if_pos ⟨rfl, rfl⟩, iv_int]; exact hl.2.1
  · have := (List.getElem?_eq_some_iff.mp hs).1
    have := hl.2.2.1
    rw [A_sF, A_cp, if_pos ⟨rfl, by omega, by omega⟩, Nat.zero_add, Nat.sub_zero]
    exact hl.2.2.2 i t hs
theorem pWo_O {o w0 : Nat} (h0 : o + 5 ≤ w0) (h1 : w0 + 2 ≤ o + 57) {σ σ' : pm_H} (h : fr (pWo w0) σ σ') : fr (pO o) σ σ' := h.mono (fun b q => ⟨by have := q.1; omega, by have := q.2; omega⟩)
theorem s_Ou_choose_73 {σ τ0 : pm_H} {o R : Nat} {E : Nat → Option (List Nat)} (h : ouW τ0 o) (hR : iv (pm_F τ0 307 o) = Int32.ofInt (R : Int)) (hE : wds τ0 (o + 11) E) (hf : fr (pO o) σ τ0) : pm_R 3 25 73 [.ref o, pm_U, pm_U, pm_U, pm_U, .int ((0 : Int32)), pm_U, pm_U] [] τ0 (fun o' σ' => o' = .inl none ∧ ouW σ' o ∧ iv (pm_F σ' 307 o) = Int32.ofInt (R : Int) ∧ wds σ' (o + 9) E ∧ fr (pO o) σ σ') := by
  refine lp (d := 3) (m := 25) (k := 73) (fun k => [.ref o, pm_U, pm_U, pm_U, pm_U, .int (Int32.ofInt (k : Nat)), pm_U, pm_U]) (fun k τ => ouW τ o ∧ iv (pm_F τ 307 o) = Int32.ofInt (R : Int) ∧ wds τ (o + 11) E ∧ (∀ q l, q < k → E q = some l → isWo τ (o + 9 + 4 * q) l) ∧ fr (pO o) σ τ) 12 ?_ ?_ 0 (Nat.zero_le _) τ0 ⟨h, hR, hE, fun q l hq => absurd hq (Nat.not_lt_zero _), hf⟩
  · rintro k hk τ ⟨i1, i2, i3, i4, i5⟩ next
    have qi := vi hk (by omega)
    have qc := vc (show k < 2000000 by omega)
    obtain ⟨h1, h2, h3, h4, h5, h6, h7, h8, h9, h10⟩ := i1
    obtain ⟨k1, k2, k3, k4⟩ := h10 k hk
    refine w_Ou_chooseEarlier_73 ⟨fun qq => ?_, fun _ => ?_⟩
    · rw [i32_12 (by omega)] at qq; omega
    · simp only [h1, h2, h3, h4, h5, h6, h7, isr_ref, rv_ref, qi, qc, k1, k2, k3.1, true_and, forall_eq]
      refine (s_Wo_copyFrom0 k3 k4).use (by omega) (fun σ' ⟨r1, r2, r3⟩ => ?_)
      rw [oi_s]
      refine next σ' ⟨ouW_wo ⟨h1, h2, h3, h4, h5, h6, h7, h8, h9, h10⟩ r3 r1 (Or.inr ⟨k, hk, Or.inl rfl⟩), by rw [r3.F (fun z => by have := z.1; omega)]; exact i2, wds_fr i3 r3 (fun q hq => by omega), fun q l hq hl => ?_, i5.tr (pWo_O (by omega) (by omega) r3)⟩
      by_cases e : q = k
      · subst e; exact r2 l (i3 q l hk hl)
      · exact isWo_fr (i4 q l (by omega) hl) r3 (fun c hc z => by have := hc.1; have := hc.2; have := z.1; have := z.2; omega)
  · rintro τ ⟨i1, i2, i3, i4, i5⟩
    exact w_Ou_chooseEarlier_73 ⟨fun _ => ⟨rfl, i1, i2, fun q l hq hl => i4 q l hq hl, i5⟩, fun q => absurd (Int32.le_refl _) q⟩
theorem isSome_f {α : Type} {x : Option α} (h : x.isSome = false) : x = none := by cases x <;> simp_all
theorem isSome_t {α : Type} {x : Option α} (h : x.isSome = true) : ∃ y, x = some y := by cases x <;> simp_all
theorem msk_or {R f : Nat} {E E' : Nat → Option (List Nat)} (h : msk R E) (hf : f < 12) (h1 : (E' f).isSome = true) (h2 : ∀ q, q ≠ f → E' q = E q) : msk (R ||| 2 ^ f) E' := by
  refine ⟨or_lt h.1 (two_lt hf), fun q hq => ?_⟩
  rw [Nat.testBit_or, Nat.testBit_two_pow, h.2 q hq]
  by_cases e : f = q
  · subst e; rw [h1]; simp
  · rw [h2 q (fun z => e z.symm)]; simp [e]
theorem s_Ou_chooseEarlier {σ : pm_H} {o a s n H : Nat} {T : Tr} {π : Nat → Nat} {B : Nat → Option (List Nat)} {last : Bool} (h : ouW σ o) (ht : isTr σ a T π) (hT : okTr T) (hs : s < 100) (hH : iv (pm_F σ 307 o) = Int32.ofInt (H : Int)) (hm : msk H B) (hB : wds σ (o + 9) B) (hok : okB n B) (hn : n < 10) (hd : a + 122 ≤ o) : cV 3 25 [.ref o, .ref a, .int (Int32.ofInt (s : Int)), .int (bI last)] σ (fun σ' => ouW σ' o ∧ (∃ H' : Nat, iv (pm_F σ' 307 o) = Int32.ofInt (H' : Int) ∧ msk H' (stepB T.2 last s B)) ∧ wds σ' (o + 9) (stepB T.2 last s B) ∧ fr (pO o) σ σ') := by
  have hl := ht.2.2.2.2.1
  refine w_Ou_chooseEarlier_0 ?_
  refine lp_up (d := 3) (m := 25) (k := 4) (α := Nat) (fun i R => [.ref o, .ref a, .int (Int32.ofInt (s : Int)), .int (bI last), .int (Int32.ofInt (R : Int)), .int (Int32.ofInt (i : Nat)), pm_U, pm_U]) (fun i R τ => ouW τ o ∧ iv (pm_F τ 307 o) = Int32.ofInt (H : Int) ∧ wds τ (o + 9) B ∧ wds τ (o + 11) ((T.2.take i).foldl (addB B s last) (fun _ => none)) ∧ msk R ((T.2.take i).foldl (addB B s last) (fun _ => none)) ∧ fr (pO o) σ τ) T.2.length ?_ ?_ 0 (Nat.zero_le _) 0 σ ⟨h, hH, hB, (fun q l _ hl => by cases hl), ⟨by decide, fun q _ => by simp⟩, fr.rf⟩
  · rintro i hi R τ ⟨i1, i2, i3, i4, i5, i6⟩ next
    have hr := List.getElem?_eq_getElem hi
    generalize T.2[i] = r at hr
    have ok := hT.at hr
    have h' := isTr_fr ht i6 (fun b hb z => by have := hb.2; have := z.1; omega)
    obtain ⟨qi, qc, qa, qr⟩ := h'.at hr
    have hπ := (h'.2.1.1 i (by omega)).1
    have hEok : okB (n + 1) ((T.2.take i).foldl (addB B s last) (fun _ => none)) := foldB_ok hok _ (fun r hr => hT.2 r (mem_take hr)) _ (fun q l hl => by cases hl)
    rw [foldl_take hr] at next
    generalize (T.2.take i).foldl (addB B s last) (fun _ => none) = E at *
    generalize hρ : a + 2 + 3 * π i = ρ at *
    have q6 : ¬ Int32.ofInt (T.2.length) ≤ Int32.ofInt (i : Nat) := by rw [oi_le (by omega)]; omega
    have vf := vi ok.1 (by omega)
    have wf := vc (show rF r < 2000000 by have := ok.1; omega)
    have vt := vi ok.2.1 (by omega)
    have wt := vc (show rT r < 2000000 by have := ok.2.1; omega)
    refine w_Ou_chooseEarlier_4 ?_
    simp only [h'.1.1, h'.1.2.1, h'.1.2.2.1, h'.1.2.2.2.1, h'.2.2.1, q6, not_false_eq_true, false_implies, true_implies, isr_ref, rv_ref, qi, qc, qa, i1.1, i2, qr.1.1, qr.2.2.1, iv_int, true_and, forall_eq]
    refine (s_hasS hm.1 ok.2.1).use (by omega) ⟨fun e => ?_, fun e => ⟨qr.1.1, (s_Ru_isEnabled qr ok.ts hs).use (by omega) ⟨fun e2 => ?_, fun e2 => ?_⟩⟩⟩
    · have e3 : B (rT r) = none := isSome_f (by rw [← hm.2 _ ok.2.1]; exact bI_0.mp e)
      rw [oi_s]
      rw [addB_n e3] at next
      exact next R τ ⟨i1, i2, i3, i4, i5, i6⟩
    · rw [oi_s]
      rw [addB_e (bI_0.mp e2)] at next
      exact next R τ ⟨i1, i2, i3, i4, i5, i6⟩
    · have he := bI_1.mp e2
      obtain ⟨l0, hl0⟩ := isSome_t (show (B (rT r)).isSome = true by rw [← hm.2 _ ok.2.1]; exact bI_1.mp e)
      have ol := hok _ _ hl0
      have hc := cand_ok hok ok he hl0
      have ho := outW_ok ok he
      simp only [i1.1, i1.2.2.2.2.2.2.2.1, isr_ref, rv_ref, i1.2.2.2.2.2.2.2.2.1.1, true_and, forall_eq]
      refine (s_Wo_clear i1.2.2.2.2.2.2.2.2.1).use (by omega) (fun τ1 ⟨c1, c2⟩ => ?_)
      have j1 := ouW_wo i1 c2 c1.1 (Or.inl rfl)
      have r1 : isRu τ1 ρ r := isRu_fr qr c2 (fun b hb z => by have := hb.2; have := z.1; omega)
      simp only [j1.1, j1.2.2.2.2.2.2.2.1, isr_ref, rv_ref, j1.2.2.2.2.2.2.2.2.1.1, true_and, forall_eq]
      refine (s_Wo_appendOutput c1 r1 ok hs he (by omega) (by simp only [List.length_nil]; have := ok.2.2.2.1; omega)).use (by omega) (fun τ2 ⟨d1, d2⟩ => ?_)
      have j2 := ouW_wo j1 d2 d1.1 (Or.inl rfl)
      have r2 : isRu τ2 ρ r := isRu_fr r1 d2 (fun b hb z => by have := hb.2; have := z.1; omega)
      have w2 : wds τ2 (o + 9) B := wds_fr (wds_fr i3 c2 (fun q hq => by omega)) d2 (fun q hq => by omega)
      have wt2 := w2 _ l0 ok.2.1 hl0
      simp only [j2.1, j2.2.1, j2.2.2.1, j2.2.2.2.1, j2.2.2.2.2.2.2.2.1, isr_ref, rv_ref, r2.1.1, r2.2.2.1, iv_int, vt, wt, (j2.2.2.2.2.2.2.2.2.2 _ ok.2.1).1, j2.2.2.2.2.2.2.2.2.1.1, true_and, forall_eq]
      refine (s_Wo_appendAll d1 wt2 (by have := ok.2.1; omega) (by rw [List.nil_append]; omega)).use (by omega) (fun τ3 ⟨f1, f2⟩ => ?_)
      rw [List.nil_append] at f1
      have j3 := ouW_wo j2 f2 f1.1 (Or.inl rfl)
      have r3 : isRu τ3 ρ r := isRu_fr r2 f2 (fun b hb z => by have := hb.2; have := z.1; omega)
      have w3 : wds τ3 (o + 9) B := wds_fr w2 f2 (fun q hq => by omega)
      have v3 : wds τ3 (o + 11) E := wds_fr (wds_fr (wds_fr i4 c2 (fun q hq => by omega)) d2 (fun q hq => by omega)) f2 (fun q hq => by omega)
      have g3 : iv (pm_F τ3 307 o) = Int32.ofInt (H : Int) := by rw [f2.F (fun z => by have := z.1; omega), d2.F (fun z => by have := z.1; omega), c2.F (fun z => by have := z.1; omega)]; exact i2
      have fr3 : fr (pO o) σ τ3 := ((i6.tr (pWo_O (by omega) (by omega) c2)).tr (pWo_O (by omega) (by omega) d2)).tr (pWo_O (by omega) (by omega) f2)
      obtain ⟨z1, z2, z3, z4⟩ := j3.2.2.2.2.2.2.2.2.2 _ ok.1
      simp only [j3.1, j3.2.2.2.2.1, j3.2.2.2.2.2.1, j3.2.2.2.2.2.2.1, isr_ref, rv_ref, r3.1.1, r3.2.1, iv_int, vf, wf, z2, true_and, forall_eq]
      refine (s_hasS i5.1 ok.1).use (by omega) ⟨fun e4 => ?_, fun e4 => ?_⟩
      · have hE : E (rF r) = none := isSome_f (by rw [← i5.2 _ ok.1]; exact bI_0.mp e4)
        rw [addB_s hl0 he hE] at next
        simp only [j3.1, j3.2.2.2.2.2.2.2.1, isr_ref, rv_ref, z4.1, true_and, forall_eq]
        refine (s_Wo_copyFrom z4 f1).use (by omega) (fun τ4 ⟨k1, k2⟩ => ?_)
        have r4 : isRu τ4 ρ r := isRu_fr r3 k2 (fun b hb z => by have := hb.2; have := z.1; omega)
        simp only [r4.1.1, r4.2.1, iv_int, st_one ok.1, i_orN, true_and, forall_eq, oi_s]
        refine next _ τ4 ⟨ouW_wo j3 k2 k1.1 (Or.inr ⟨_, ok.1, Or.inr rfl⟩), by rw [k2.F (fun z => by have := z.1; omega)]; exact g3, wds_fr w3 k2 (fun q hq => by omega), fun q l hq hl => ?_, msk_or i5 ok.1 (by simp) (fun q hq => by simp [hq]), fr3.tr (pWo_O (by omega) (by have := ok.1; omega) k2)⟩
        dsimp only at hl
        by_cases eq : q = rF r
        · rw [if_pos eq] at hl; cases hl; rw [eq]; exact k1
        · rw [if_neg eq] at hl
          exact isWo_fr (v3 q l hq hl) k2 (fun c hc z => by have := hc.1; have := hc.2; have := z.1; have := z.2; omega)
      · obtain ⟨b, hE⟩ := isSome_t (show (E (rF r)).isSome = true by rw [← i5.2 _ ok.1]; exact bI_1.mp e4)
        rw [addB_b hl0 he hE] at next
        have wb := v3 _ b ok.1 hE
        refine ⟨j3.1, (s_Ou_isBetter j3 f1 wb hc.2 (hEok _ _ hE).2).use (by omega) ⟨fun e5 => ?_, fun e5 => ?_⟩⟩
        · rw [bI_0.mp e5] at next
          simp only [r3.1.1, r3.2.1, iv_int, st_one ok.1, i_orN, true_and, forall_eq, oi_s]
          refine next _ τ3 ⟨j3, g3, w3, v3, msk_or i5 ok.1 (by simp [hE]) (fun q hq => by simp), fr3⟩
        · rw [bI_1.mp e5] at next
          simp only [j3.1, j3.2.2.2.2.2.2.2.1, isr_ref, rv_ref, z4.1, true_and, forall_eq]
          refine (s_Wo_copyFrom z4 f1).use (by omega) (fun τ4 ⟨k1, k2⟩ => ?_)
          have r4 : isRu τ4 ρ r := isRu_fr r3 k2 (fun b hb z => by have := hb.2; have := z.1; omega)
          simp only [r4.1.1, r4.2.1, iv_int, st_one ok.1, i_orN, true_and, forall_eq, oi_s]
          refine next _ τ4 ⟨ouW_wo j3 k2 k1.1 (Or.inr ⟨_, ok.1, Or.inr rfl⟩), by rw [k2.F (fun z => by have := z.1; omega)]; exact g3, wds_fr w3 k2 (fun q hq => by omega), fun q l hq hl => ?_, msk_or i5 ok.1 (by simp) (fun q hq => by simp [hq]), fr3.tr (pWo_O (by omega) (by have := ok.1; omega) k2)⟩
          simp only [if_true] at hl
          by_cases eq : q = rF r
          · rw [if_pos eq] at hl; cases hl; rw [eq]; exact k1
          · rw [if_neg eq] at hl
            exact isWo_fr (v3 q l hq hl) k2 (fun c hc z => by have := hc.1; have := hc.2; have := z.1; have := z.2; omega)
  · rintro R τ ⟨i1, i2, i3, i4, i5, i6⟩
    have h' := isTr_fr ht i6 (fun b hb z => by have := hb.2; have := z.1; omega)
    have q6 : Int32.ofInt (T.2.length) ≤ Int32.ofInt (T.2.length) := Int32.le_refl _
    rw [take_len] at i4 i5
    refine w_Ou_chooseEarlier_4 ?_
    simp only [h'.1.1, h'.2.2.1, q6, not_true_eq_false, false_implies, true_implies, i1.1, true_and, and_true, forall_eq]
    have hf : fr (fun b => b = o) τ (pm_sF τ 307 o (.int (Int32.ofInt (R : Int)))) := fr_sF (P := fun b => b = o) rfl
    have k1 : ouW (pm_sF τ 307 o (.int (Int32.ofInt (R : Int)))) o := by
      obtain ⟨h1, h2, h3, h4, h5, h6, h7, h8, h9, h10⟩ := i1
      refine ⟨h1, ?_, h3, h4, ?_, h6, h7, ?_, woS_fr h9 hf (by omega), fun q hq => ⟨(h10 q hq).1, (h10 q hq).2.1, woS_fr (h10 q hq).2.2.1 hf (by omega), woS_fr (h10 q hq).2.2.2 hf (by omega)⟩⟩
      · rw [F_sF, if_neg (by omega), h2]
      · rw [F_sF, if_neg (by omega), h5]
      · rw [F_sF, if_neg (by omega), h8]
    refine pm_R_mono (s_Ou_choose_73 (R := R) k1 (by rw [F_sF, if_pos ⟨rfl, rfl⟩]; rfl) (fun q l hq hl => isWo_fr (i4 q l hq hl) hf (fun c hc z => by have := hc.1; omega)) (i6.tr (hf.mono (fun b z => ⟨by omega, by omega⟩)))) (fun o' σ' ⟨x1, x2, x3, x4, x5⟩ => ⟨x1, x2, ⟨R, x3, i5⟩, x4, x5⟩)
