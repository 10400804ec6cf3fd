/-! ===== domains dwin one another: one set after the other ===== -/
theorem kI_B {K : Int32 → pm_H → Prop} {X : Nat → pm_H → Prop} {r : Int32} {σ : pm_H} (h : K r σ) : pm_kI K X (.inl (some (.int r))) σ := h
theorem aftN_iff {rs : List Rl} {S s q : Nat} : ∀ n, (aftN rs S s n).testBit q = true ↔ ∃ p, p < n ∧ S.testBit p = true ∧ (tg rs p s).testBit q = true := by
  intro n
  induction n with
  | zero =>
    show (0 : Nat).testBit q = true ↔ _
    rw [Nat.zero_testBit]
    exact ⟨fun h => (by cases h), fun ⟨p, h, _⟩ => absurd h (by omega)⟩
  | succ n ih =>
    show (aftN rs S s n ||| (if S.testBit n then tg rs n s else 0)).testBit q = true ↔ _
    rw [Nat.testBit_or, Bool.or_eq_true, ih]
    constructor
    · rintro (⟨p, h1, h2, h3⟩ | h)
      · exact ⟨p, by omega, h2, h3⟩
      · by_cases c : S.testBit n = true
        · rw [if_pos c] at h; exact ⟨n, by omega, c, h⟩
        · rw [if_neg c, Nat.zero_testBit] at h; cases h
    · rintro ⟨p, h1, h2, h3⟩
      by_cases c : p = n
      · subst c; exact Or.inr (by rw [if_pos h2]; exact h3)
      · exact Or.inl ⟨p, by omega, h2, h3⟩
theorem aft_iff {rs : List Rl} {S s q : Nat} : (aft rs S s).testBit q = true ↔ ∃ p, p < 12 ∧ S.testBit p = true ∧ (tg rs p s).testBit q = true := aftN_iff 12
theorem bit_or {a b q : Nat} : (a ||| b).testBit q = true ↔ a.testBit q = true ∨ b.testBit q = true := by rw [Nat.testBit_or, Bool.or_eq_true]
theorem bit_dif' {a b : Nat} (ha : a < 4096) (hb : b < 4096) (q : Nat) : (dif a b).testBit q = true ↔ a.testBit q = true ∧ b.testBit q = false := by
  rw [bit_dif ha hb, Bool.and_eq_true, Bool.not_eq_true']
/-- after one set was followed -/
def ffQ (σ : pm_H) (e S0 X : Nat) (M W : Nat → Nat) (T1 T2 : Tr) (o : pm_O) (σ' : pm_H) : Prop := frW e σ σ' ∧ ((o = .inl (some (.int 0)) ∧ ∃ s q, s < 100 ∧ (aft T1.2 X s).testBit q = true ∧ T1.1.testBit q = true ∧ aft T2.2 S0 s &&& T2.1 = 0) ∨ (o = .inl (some (.int 1)) ∧ ∃ M' W' ws' f', mI σ' e M' W' ws' f' ∧ (∀ S q, (M S).testBit q = true → (M' S).testBit q = true) ∧ (∀ S q, (M' S).testBit q = true → (M S).testBit q = true ∨ ((∃ s, s < 100 ∧ S = aft T2.2 S0 s ∧ (aft T1.2 X s).testBit q = true) ∧ (T1.1.testBit q = true → S &&& T2.1 ≠ 0))) ∧ (∀ S q, (W' S).testBit q = true ↔ (updN W S0 0 S).testBit q = true ∨ ((M' S).testBit q = true ∧ (M S).testBit q = false)) ∧ ∀ s q, s < 100 → (aft T1.2 X s).testBit q = true → (M' (aft T2.2 S0 s)).testBit q = true))
theorem s_Do_followFirst {σ : pm_H} {e S0 f : Nat} {M W : Nat → Nat} {ws : List Nat} {G : List (Nat × Nat)} {T1 T2 : Tr} (hd : doS σ e) (h1 : isSt σ (e + 1) T1) (h2 : isSt σ (e + 3) T2) (k1 : okTr T1) (k2 : okTr T2) (hg : isG σ e G) (gk : grpOk (alk T1 T2) 100 G) (hI : mI σ e M W (S0 :: ws) f) : pm_C 2 14 [.ref e] σ (ffQ σ e S0 (W S0) M W T1 T2) := by
  obtain ⟨i1, i2, i3, i4, i5, i6, i7, i8, i9⟩ := hI
  have mS := (i8 S0).mp (List.mem_cons_self ..)
  have hS := mS.1
  have nd := List.nodup_cons.mp i7
  have gl := gk.1
  have vf := vi i4 (by omega)
  have wf := vc (show f < 2000000 by omega)
  have vS := vi hS (by omega)
  have wS := vc (show S0 < 2000000 by omega)
  have r9 : iv (pm_A σ (e + 9) f) = Int32.ofInt (S0 : Int) := by
    have := i6 0 S0 rfl
    rw [show (f + 0) % 4096 = f by omega] at this; exact this
  have rl : Int32.ofInt ((S0 :: ws).length : Int) - 1 = Int32.ofInt (ws.length : Int) := by
    rw [oi_prev (by rw [List.length_cons]; omega), List.length_cons]; rfl
  have rW := i2 S0 hS
  refine w_Do_followFirst_0 ?_
  simp only [hd.1, hd.2.1.2.2.2.2.2.2.1, hd.2.1.2.2.2.2.2.2.2.2.2.1, hd.2.2.1.2.2.2.2.2.2.2.2.1, hd.2.2.1.2.2.2.2.2.2.2.2.2.1, hd.2.2.1.2.2.2.2.2.2.2.2.2.2.2.2.2.2.1, hd.2.2.1.2.2.2.2.2.2.2.2.2.2.2.2.2.2.2.1, t_sF, l_sF, F_sF, A_sF, Nat.reduceEqDiff, Nat.left_eq_add, Nat.add_eq_left, Nat.one_ne_zero, false_and, if_false, vf, wf, vS, wS, i3, i5, r9, rl, rW, oi_s, i32_r4096 (show f + 1 < 100000 by omega), i32_n4096, not_false_eq_true, isr_ref, rv_ref, true_and, forall_eq]
  have f0 : frW e σ (pm_sA (pm_sF (pm_sF σ 110 e (.int (Int32.ofInt (((f + 1) % 4096 : Nat) : Int)))) 109 e (.int (Int32.ofInt (ws.length : Int)))) (e + 12) S0 (.int ((0 : Int32)))) := frW_tr (frW_tr (frW_sF (by omega)) (frW_sF (by omega))) (frW_sA (by omega))
  have I0 : mI (pm_sA (pm_sF (pm_sF σ 110 e (.int (Int32.ofInt (((f + 1) % 4096 : Nat) : Int)))) 109 e (.int (Int32.ofInt (ws.length : Int)))) (e + 12) S0 (.int ((0 : Int32)))) e M (updN W S0 0) ws ((f + 1) % 4096) := by
    refine ⟨fun S' hS' => ?_, fun S' hS' => ?_, ?_, by omega, ?_, fun k S' hk => ?_, nd.2, fun S' => ?_, fun S' hS' => ⟨(i9 S' hS').1, ?_⟩⟩
    · simp only [A_sA, A_sF, Nat.reduceEqDiff, Nat.left_eq_add, Nat.add_eq_left, Nat.one_ne_zero, false_and, if_false]; exact i1 S' hS'
    · simp only [A_sA, A_sF, true_and]
      unfold updN
      by_cases c : S' = S0
      · rw [if_pos c, if_pos c]; rfl
      · rw [if_neg c, if_neg c]; exact i2 S' hS'
    · simp only [F_sA, F_sF, Nat.reduceEqDiff, Nat.left_eq_add, Nat.add_eq_left, Nat.one_ne_zero, false_and, if_false, and_true, if_true]; rfl
    · simp only [F_sA, F_sF, and_true, if_true]; rfl
    · simp only [A_sA, A_sF, Nat.reduceEqDiff, Nat.left_eq_add, Nat.add_eq_left, Nat.one_ne_zero, false_and, if_false]
      have := i6 (k + 1) S' (by rw [List.getElem?_cons_succ]; exact hk)
      rw [show ((f + 1) % 4096 + k) % 4096 = (f + (k + 1)) % 4096 by omega]; exact this
    · have := i8 S'
      rw [List.mem_cons] at this
      unfold updN
      by_cases c : S' = S0
      · rw [if_pos c]
        exact ⟨fun q => absurd (c ▸ q) nd.1, fun q => absurd rfl q.2⟩
      · rw [if_neg c]
        exact ⟨fun q => this.mp (Or.inr q), fun q => (this.mpr q).elim (fun z => absurd z c) id⟩
    · unfold updN
      by_cases c : S' = S0
      · rw [if_pos c]; omega
      · rw [if_neg c]; exact (i9 S' hS').2
  suffices key : ∀ σ0, frW e σ σ0 → mI σ0 e M (updN W S0 0) ws ((f + 1) % 4096) → pm_R 2 14 32 [.ref e, .int (Int32.ofInt (S0 : Int)), .int (Int32.ofInt (W S0 : Int)), .int ((0 : Int32)), pm_U] [] σ0 (ffQ σ e S0 (W S0) M W T1 T2) from key _ f0 I0
  clear f0 I0
  intro σ0 f0 I0
  have hX : W S0 < 4096 := (i9 S0 hS).2
  generalize W S0 = X at hX ⊢
  generalize hf' : (f + 1) % 4096 = f' at I0
  refine lp_up (fun g (_ : (Nat → Nat) × (Nat → Nat) × List Nat) => [.ref e, .int (Int32.ofInt (S0 : Int)), .int (Int32.ofInt (X : Int)), .int (Int32.ofInt (g : Nat)), pm_U]) (fun g x τ => frW e σ τ ∧ mI τ e x.1 x.2.1 x.2.2 f' ∧ (∀ S q, (M S).testBit q = true → (x.1 S).testBit q = true) ∧ (∀ S q, (x.1 S).testBit q = true → (M S).testBit q = true ∨ ((∃ s, s < 100 ∧ S = aft T2.2 S0 s ∧ (aft T1.2 X s).testBit q = true) ∧ (T1.1.testBit q = true → S &&& T2.1 ≠ 0))) ∧ (∀ S q, (x.2.1 S).testBit q = true ↔ (updN W S0 0 S).testBit q = true ∨ ((x.1 S).testBit q = true ∧ (M S).testBit q = false)) ∧ ∀ g' y, g' < g → G[g']? = some y → ∀ q, (aft T1.2 X y.1).testBit q = true → (x.1 (aft T2.2 S0 y.1)).testBit q = true) G.length (fun g hg' x τ hh next => ?_) (fun x τ hh => ?_) 0 (Nat.zero_le _) (M, updN W S0 0, ws) σ0 ⟨f0, I0, fun _ _ h => h, fun _ _ h => Or.inl h, fun S q => ⟨fun h => Or.inl h, fun h => h.elim id (fun h => by rw [h.1] at h; cases h.2)⟩, fun g' y h => absurd h (by omega)⟩
  · obtain ⟨fr', I', J1, J2, J3, J4⟩ := hh
    have hdt := frW_d fr' hd
    have hgt := frW_g fr' hg
    have s1 := frW_1 fr' h1
    have s2 := frW_3 fr' h2
    have hx := List.getElem?_eq_getElem hg'
    generalize G[g] = y at hx
    have ga := gk.2.1 y (List.mem_of_getElem? hx)
    have r5 := (hgt.2 g y hx).1
    have vg := vi (show g < 100 by omega) (by omega)
    have wg := vc (show g < 2000000 by omega)
    have q7 : ¬ Int32.ofInt (G.length : Int) ≤ Int32.ofInt (g : Nat) := by rw [oi_le (by omega)]; omega
    have aY : aft T1.2 X y.1 < 4096 := aftN_lt k1.2 12
    have aS : aft T2.2 S0 y.1 < 4096 := aftN_lt k2.2 12
    refine w_Do_followFirst_32 ⟨hdt.1, fun z ez => ⟨fun q => ?_, fun _ => ?_⟩⟩
    · rw [ez, hgt.1] at q; exact absurd q q7
    simp only [hdt.1, hdt.2.1.1, hdt.2.1.2.1, hdt.2.1.2.2.1, hdt.2.2.1.1, hdt.2.2.1.2.1, vg, wg, r5, s1.1.1, s2.1.1, isr_ref, rv_ref, true_and, forall_eq]
    refine (s_St_after s1 hX ga.1).use (by omega) ?_
    simp only [hdt.1, hdt.2.1.2.1, s2.1.1, isr_ref, rv_ref, true_and, forall_eq]
    refine (s_St_after s2 hS ga.1).use (by omega) ⟨hdt.1, pm_C_mono (s_Do_meet hdt s1 s2 I' aY aS) (fun o τ' mq => ?_)⟩
    obtain ⟨fq, mq⟩ := mq
    rcases mq with ⟨rfl, q, q1, q2, q3⟩ | ⟨rfl, good, ws'', hm⟩
    · exact kI_B ⟨fun _ => ⟨rfl, frW_tr fr' fq, Or.inl ⟨rfl, y.1, q, ga.1, q1, q2, q3⟩⟩, fun n => absurd rfl n⟩
    · refine kI_B ⟨fun n => absurd n (by decide), fun _ => ?_⟩
      rw [oi_s]
      have mlt := (I'.2.2.2.2.2.2.2.2 _ aS).1
      refine next (_, _, ws'') τ' ⟨frW_tr fr' fq, hm, fun S q hq => ?_, fun S q hq => ?_, fun S q => ?_, fun g' y' hg2 hy' q hq => ?_⟩
      · show (updN x.1 _ _ S).testBit q = true
        unfold updN
        by_cases c : S = aft T2.2 S0 y.1
        · rw [if_pos c, bit_or]; exact Or.inl (c ▸ J1 S q hq)
        · rw [if_neg c]; exact J1 S q hq
      · replace hq : (updN x.1 _ _ S).testBit q = true := hq
        unfold updN at hq
        by_cases c : S = aft T2.2 S0 y.1
        · rw [if_pos c, bit_or] at hq
          cases eo : (x.1 (aft T2.2 S0 y.1)).testBit q with
          | true => exact J2 S q (by rw [c]; exact eo)
          | false =>
            rcases hq with hq | hq
            · rw [eo] at hq; cases hq
            · exact Or.inr ⟨⟨y.1, ga.1, c, hq⟩, fun hf => by rw [c]; exact good q hq eo hf⟩
        · rw [if_neg c] at hq; exact J2 S q hq
      · show (updN x.2.1 _ _ S).testBit q = true ↔ _ ∨ ((updN x.1 _ _ S).testBit q = true ∧ _)
        unfold updN
        by_cases c : S = aft T2.2 S0 y.1
        · rw [if_pos c, if_pos c, bit_or, bit_or, bit_dif' aY mlt]
          have j3 := J3 S q
          have j1 := J1 S q
          unfold updN at j3
          rw [c] at j3 j1 ⊢
          rw [j3]
          cases eo : (x.1 (aft T2.2 S0 y.1)).testBit q with
          | true =>
            constructor
            · rintro ((h | h) | h)
              · exact Or.inl h
              · exact Or.inr ⟨Or.inl rfl, h.2⟩
              · cases h.2
            · rintro (h | h)
              · exact Or.inl (Or.inl h)
              · exact Or.inl (Or.inr ⟨rfl, h.2⟩)
          | false =>
            have em : (M (aft T2.2 S0 y.1)).testBit q = false := by
              cases em : (M (aft T2.2 S0 y.1)).testBit q with
              | false => rfl
              | true => rw [j1 em] at eo; cases eo
            constructor
            · rintro ((h | h) | h)
              · exact Or.inl h
              · cases h.1
              · exact Or.inr ⟨Or.inr h.1, em⟩
            · rintro (h | h)
              · exact Or.inl (Or.inl h)
              · rcases h.1 with h1 | h1
                · cases h1
                · exact Or.inr ⟨h1, rfl⟩
        · rw [if_neg c, if_neg c]; exact J3 S q
      · show (updN x.1 _ _ _).testBit q = true
        unfold updN
        by_cases c : g' = g
        · subst c
          rw [hx] at hy'
          cases hy'
          rw [if_pos rfl, bit_or]; exact Or.inr hq
        · by_cases c2 : aft T2.2 S0 y'.1 = aft T2.2 S0 y.1
          · rw [if_pos c2, bit_or, ← c2]; exact Or.inl (J4 g' y' (by omega) hy' q hq)
          · rw [if_neg c2]; exact J4 g' y' (by omega) hy' q hq
  · obtain ⟨fr', I', J1, J2, J3, J4⟩ := hh
    have hdt := frW_d fr' hd
    have hgt := frW_g fr' hg
    refine w_Do_followFirst_32 ⟨hdt.1, fun z ez => ⟨fun _ => ⟨rfl, fr', Or.inr ⟨rfl, x.1, x.2.1, x.2.2, f', I', J1, J2, J3, fun s q hs hq => ?_⟩⟩, fun q => ?_⟩⟩
    · obtain ⟨y, hy, hh⟩ := gk.2.2.1 s hs
      obtain ⟨g', hg'⟩ := List.mem_iff_getElem?.mp hy
      have e1 := hh (fun s => aft T1.2 X s) (fun j h1 h2 h3 => by unfold alk at h3; rw [Bool.and_eq_true] at h3; exact aft_al h3.1)
      have e2 := hh (fun s => aft T2.2 S0 s) (fun j h1 h2 h3 => by unfold alk at h3; rw [Bool.and_eq_true] at h3; exact aft_al h3.2)
      have := J4 g' y (List.getElem?_eq_some_iff.mp hg').1 hg' q (by rw [show aft T1.2 X y.1 = aft T1.2 X s from e1]; exact hq)
      rw [show aft T2.2 S0 y.1 = aft T2.2 S0 s from e2] at this
      exact this
    · rw [ez, hgt.1] at q; exact absurd (Int32.le_refl _) q
