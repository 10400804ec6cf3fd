/-! ===== the class counts words ===== -/
def pC (e b : Nat) : Prop := b = e ∨ (e + 7 ≤ b ∧ b ≤ e + 10)
def frC (e : Nat) (σ σ' : pm_H) : Prop := fr (pC e) σ σ' ∧ ∀ f, f ≠ 109 → pm_F σ' f e = pm_F σ f e
theorem frC_rf {e : Nat} {σ : pm_H} : frC e σ σ := ⟨fr.rf, fun _ _ => rfl⟩
theorem frC_tr {e : Nat} {σ σ1 σ2 : pm_H} (h : frC e σ σ1) (g : frC e σ1 σ2) : frC e σ σ2 := ⟨h.1.tr g.1, fun f hf => (g.2 f hf).trans (h.2 f hf)⟩
theorem frC_sF {e : Nat} {σ : pm_H} {v : Value} : frC e σ (pm_sF σ 109 e v) := ⟨fr_sF (Or.inl rfl), fun f hf => by rw [F_sF, if_neg (fun q => hf q.1)]⟩
theorem frC_sA {e i j : Nat} {σ : pm_H} {v : Value} (h : 7 ≤ i) (h2 : i ≤ 10) : frC e σ (pm_sA σ (e + i) j v) := ⟨fr_sA (Or.inr ⟨by omega, by omega⟩), fun _ _ => rfl⟩
theorem doS_st {P : Nat → Prop} {σ σ' : pm_H} {e : Nat} (h : doS σ e) (hf : fr P σ σ') (hp : ∀ f, f ≠ 104 → f ≠ 109 → f ≠ 110 → pm_F σ' f e = pm_F σ f e) (c1 : stS σ' (e + 1)) (c3 : stS σ' (e + 3)) : doS σ' e := by
  unfold doS
  simp only [hf.t, hf.l, hp 100 (by decide) (by decide) (by decide), hp 101 (by decide) (by decide) (by decide), hp 102 (by decide) (by decide) (by decide), hp 103 (by decide) (by decide) (by decide), hp 105 (by decide) (by decide) (by decide), hp 106 (by decide) (by decide) (by decide), hp 107 (by decide) (by decide) (by decide), hp 108 (by decide) (by decide) (by decide), hp 111 (by decide) (by decide) (by decide), hp 112 (by decide) (by decide) (by decide), hp 113 (by decide) (by decide) (by decide)]
  exact ⟨h.1, h.2.1, h.2.2.1, c1, c3⟩
theorem frC_d {e : Nat} {σ σ' : pm_H} (h : frC e σ σ') (hd : doS σ e) : doS σ' e :=
  doS_st hd h.1 (fun f _ h2 _ => h.2 f h2) (stS_fr hd.2.2.2.1 h.1 (by unfold pC; omega)) (stS_fr hd.2.2.2.2 h.1 (by unfold pC; omega))
theorem frC_g {e : Nat} {σ σ' : pm_H} {G : List (Nat × Nat)} (h : frC e σ σ') (hg : isG σ e G) : isG σ' e G :=
  ⟨by rw [h.2 104 (by decide)]; exact hg.1, fun i x hx => by rw [h.1.A (by unfold pC; omega), h.1.A (by unfold pC; omega)]; exact hg.2 i x hx⟩
theorem frC_t {e : Nat} {σ σ' : pm_H} {T : Tr} (h : frC e σ σ') (hs : isSt σ (e + 1) T) : isSt σ' (e + 1) T := isSt_fr hs h.1 (fun b hb => by unfold pSt at hb; unfold pC; omega)
theorem s_Do_takeNext {σ : pm_H} {e : Nat} {ns : List Nat} {E : Nat → Nat} (hd : doS σ e) (nd : ns.Nodup) (hb : ∀ S : Nat, S ∈ ns → S < 4096) (h1 : ∀ (i S : Nat), ns[i]? = some S → iv (pm_A σ (e + 10) i) = Int32.ofInt (S : Int)) (h2 : ∀ j, j < 4096 → jv (pm_A σ (e + 8) j) = Int64.ofNat (E j)) (h3 : ∀ j, j < 4096 → j ∉ ns → E j = 0) : cV 0 12 [.ref e, .int (Int32.ofInt (ns.length : Int))] σ (fun σ' => frC e σ σ' ∧ iv (pm_F σ' 109 e) = Int32.ofInt (ns.length : Int) ∧ (∀ (i S : Nat), ns[i]? = some S → iv (pm_A σ' (e + 9) i) = Int32.ofInt (S : Int) ∧ jv (pm_A σ' (e + 7) S) = Int64.ofNat (E S)) ∧ ∀ j, j < 4096 → jv (pm_A σ' (e + 8) j) = 0) := by
  have nl := nodup_len nd hb
  refine w_Do_takeNext_0 ?_
  refine lp (d := 0) (m := 12) (k := 2) (fun i => [.ref e, .int (Int32.ofInt (ns.length : Int)), .int (Int32.ofInt (i : Nat)), pm_U]) (fun i τ => frC e σ τ ∧ (∀ (i' S : Nat), i' < i → ns[i']? = some S → iv (pm_A τ (e + 9) i') = Int32.ofInt (S : Int) ∧ jv (pm_A τ (e + 7) S) = Int64.ofNat (E S)) ∧ (∀ j, j < 4096 → jv (pm_A τ (e + 8) j) = if j ∈ ns.take i then 0 else Int64.ofNat (E j)) ∧ ∀ j, pm_A τ (e + 10) j = pm_A σ (e + 10) j) ns.length (fun i hi τ hh next => ?_) (fun τ hh => ?_) 0 (Nat.zero_le _) σ ⟨frC_rf, fun i' S h => absurd h (by omega), fun j hj => by rw [h2 j hj]; simp, fun _ => rfl⟩
  · obtain ⟨f, i1, i2, i3⟩ := hh
    have hdt := frC_d f hd
    have hS := List.getElem?_eq_getElem hi
    generalize ns[i] = S at hS
    have S4 := hb S (List.mem_of_getElem? hS)
    have q6 : ¬ Int32.ofInt (ns.length : Int) ≤ Int32.ofInt (i : Nat) := by rw [oi_le (by omega)]; omega
    have vi' := vi (show i < 4096 by omega) (by omega)
    have wi' := vc (show i < 2000000 by omega)
    have vS := vi S4 (by omega)
    have wS := vc (show S < 2000000 by omega)
    have rS : iv (pm_A τ (e + 10) i) = Int32.ofInt (S : Int) := by rw [i3]; exact h1 i S hS
    have r8 : jv (pm_A τ (e + 8) S) = Int64.ofNat (E S) := by rw [i2 S S4, if_neg (nodup_at nd hS)]
    refine w_Do_takeNext_2 ⟨fun q => absurd q q6, fun _ => ?_⟩
    simp only [hdt.1, hdt.2.1.2.2.2.2.1, hdt.2.1.2.2.2.2.2.1, hdt.2.1.2.2.2.2.2.2.1, hdt.2.1.2.2.2.2.2.2.2.1, hdt.2.2.1.2.2.2.2.1, hdt.2.2.1.2.2.2.2.2.1, hdt.2.2.1.2.2.2.2.2.2.1, hdt.2.2.1.2.2.2.2.2.2.2.1, hdt.2.2.1.2.2.2.2.2.2.2.2.1, hdt.2.2.1.2.2.2.2.2.2.2.2.2.1, hdt.2.2.1.2.2.2.2.2.2.2.2.2.2.1, hdt.2.2.1.2.2.2.2.2.2.2.2.2.2.2.1, t_sA, l_sA, F_sA, A_sA, Nat.reduceEqDiff, Nat.left_eq_add, Nat.add_eq_left, Nat.one_ne_zero, false_and, if_false, vi', wi', rS, vS, wS, r8, isr_ref, rv_ref, true_and, forall_eq, oi_s]
    refine next _ ⟨frC_tr (frC_tr (frC_tr f (frC_sA (by omega) (by omega))) (frC_sA (by omega) (by omega))) (frC_sA (by omega) (by omega)), fun i' S' h4 h5 => ?_, fun j hj => ?_, fun j => ?_⟩
    · simp only [A_sA, Nat.reduceEqDiff, Nat.left_eq_add, Nat.add_eq_left, Nat.one_ne_zero, false_and, true_and, if_false]
      by_cases e1 : i' = i
      · subst e1
        rw [hS] at h5
        cases h5
        rw [if_pos rfl, if_pos rfl]; exact ⟨rfl, rfl⟩
      · have hi' : i' < i := by omega
        rw [if_neg e1]
        have o := i1 i' S' hi' h5
        refine ⟨o.1, ?_⟩
        by_cases e2 : S' = S
        · rw [if_pos e2, e2]; rfl
        · rw [if_neg e2]; exact o.2
    · simp only [A_sA, Nat.reduceEqDiff, Nat.left_eq_add, Nat.add_eq_left, Nat.one_ne_zero, false_and, true_and, if_false]
      by_cases e2 : j = S
      · rw [if_pos e2, if_pos ((mem_take_s hS).mpr (Or.inr e2))]; rfl
      · rw [if_neg e2, i2 j hj]
        by_cases c : j ∈ ns.take i
        · rw [if_pos c, if_pos ((mem_take_s hS).mpr (Or.inl c))]
        · rw [if_neg c, if_neg (fun q => ((mem_take_s hS).mp q).elim c e2)]
    · simp only [A_sA, Nat.reduceEqDiff, Nat.left_eq_add, Nat.add_eq_left, Nat.one_ne_zero, false_and, if_false]
      exact i3 j
  · obtain ⟨f, i1, i2, i3⟩ := hh
    have hdt := frC_d f hd
    refine w_Do_takeNext_2 ⟨fun _ => ⟨hdt.1, fun σ1 e1 => ?_⟩, fun q => absurd (Int32.le_refl _) q⟩
    subst e1
    refine ⟨rfl, frC_tr f frC_sF, by rw [F_sF, if_pos ⟨rfl, rfl⟩]; rfl, fun i S hS => i1 i S (List.getElem?_eq_some_iff.mp hS).1 hS, fun j hj => ?_⟩
    rw [A_sF, i2 j hj, List.take_length]
    by_cases c : j ∈ ns
    · rw [if_pos c]
    · rw [if_neg c, h3 j hj c]; rfl
def indA (rs : List Rl) (S j s : Nat) : Nat := if aft rs S s = j then 1 else 0
def f1 (rs : List Rl) (D : Nat → Nat) (j S : Nat) : Nat := D S * cnt (fun s => decide (aft rs S s = j)) 100
theorem ind_cnt (rs : List Rl) (S j : Nat) : sumN (indA rs S j) 100 = cnt (fun s => decide (aft rs S s = j)) 100 := by
  rw [cnt_sum]
  refine sumN_ext (fun s _ => ?_)
  unfold indA
  by_cases c : aft rs S s = j
  · rw [if_pos c, if_pos (decide_eq_true c)]
  · rw [if_neg c, if_neg (by rw [decide_eq_false c]; decide)]
/-- while longer words are counted: the new sets, the new counts -/
def cLI (σ : pm_H) (e : Nat) (x : List Nat × (Nat → Nat)) (τ : pm_H) : Prop := frC e σ τ ∧ (∀ j, j < 4096 → jv (pm_A τ (e + 8) j) = Int64.ofNat (x.2 j)) ∧ x.1.Nodup ∧ (∀ S : Nat, S ∈ x.1 ↔ S < 4096 ∧ x.2 S ≠ 0) ∧ x.2 0 = 0 ∧ (∀ (i S : Nat), x.1[i]? = some S → iv (pm_A τ (e + 10) i) = Int32.ofInt (S : Int)) ∧ (∀ j, pm_A τ (e + 7) j = pm_A σ (e + 7) j) ∧ (∀ j, pm_A τ (e + 9) j = pm_A σ (e + 9) j) ∧ pm_F τ 109 e = pm_F σ 109 e
theorem s_Do_countLonger {σ : pm_H} {e : Nat} {T : Tr} {G : List (Nat × Nat)} {al : Nat → Bool} {ls : List Nat} {D : Nat → Nat} (hd : doS σ e) (hs : isSt σ (e + 1) T) (hT : okTr T) (hg : isG σ e G) (gk : grpOk al 100 G) (hal : ∀ j, al j = true → alike T.2 (j - 1) j = true) (hc : iv (pm_F σ 109 e) = Int32.ofInt (ls.length : Int)) (hl : ∀ (i S : Nat), ls[i]? = some S → iv (pm_A σ (e + 9) i) = Int32.ofInt (S : Int) ∧ jv (pm_A σ (e + 7) S) = Int64.ofNat (D S)) (hz : ∀ j, j < 4096 → jv (pm_A σ (e + 8) j) = 0) (nd : ls.Nodup) (hls : ∀ S : Nat, S ∈ ls ↔ S < 4096 ∧ S ≠ 0 ∧ D S ≠ 0) (bd : ∀ j, j < 4096 → sumL (f1 T.2 D j) ls ≤ 10000000000000000) : cV 2 11 [.ref e] σ (fun σ' => frC e σ σ' ∧ ∃ ls' : List Nat, iv (pm_F σ' 109 e) = Int32.ofInt (ls'.length : Int) ∧ (∀ (i S : Nat), ls'[i]? = some S → iv (pm_A σ' (e + 9) i) = Int32.ofInt (S : Int) ∧ jv (pm_A σ' (e + 7) S) = Int64.ofNat (sumL (f1 T.2 D S) ls)) ∧ (∀ j, j < 4096 → jv (pm_A σ' (e + 8) j) = 0) ∧ ls'.Nodup ∧ ∀ S : Nat, S ∈ ls' ↔ S < 4096 ∧ S ≠ 0 ∧ sumL (f1 T.2 D S) ls ≠ 0) := by
  have ll := nodup_len nd (fun x hx => ((hls x).mp hx).1)
  have gl := gk.1
  refine w_Do_countLonger_0 ?_
  refine lp_up (fun i (x : List Nat × (Nat → Nat)) => [.ref e, .int (Int32.ofInt (x.1.length : Int)), .int (Int32.ofInt (i : Nat)), pm_U, pm_U]) (fun i x τ => cLI σ e x τ ∧ ∀ j, j < 4096 → j ≠ 0 → x.2 j = sumL (f1 T.2 D j) (ls.take i)) ls.length (fun i hi x τ hh next => ?_) (fun x τ hh => ?_) 0 (Nat.zero_le _) ([], fun _ => 0) σ ⟨⟨frC_rf, fun j hj => hz j hj, List.nodup_nil, fun S => by simp, rfl, fun i S h => by simp at h, fun _ => rfl, fun _ => rfl, rfl⟩, fun j _ _ => by simp [sumL]⟩
  · obtain ⟨hI, hE⟩ := hh
    have hdt := frC_d hI.1 hd
    have hSi := List.getElem?_eq_getElem hi
    generalize ls[i] = S at hSi
    have mS := (hls S).mp (List.mem_of_getElem? hSi)
    have q6 : ¬ Int32.ofInt (ls.length : Int) ≤ Int32.ofInt (i : Nat) := by rw [oi_le (by omega)]; omega
    have zc : iv (pm_F τ 109 e) = Int32.ofInt (ls.length : Int) := by rw [hI.2.2.2.2.2.2.2.2]; exact hc
    refine w_Do_countLonger_4 ⟨hdt.1, fun z ez => ⟨fun q => ?_, fun _ => ?_⟩⟩
    · rw [ez, zc] at q; exact absurd q q6
    refine lp_up (fun g (x : List Nat × (Nat → Nat)) => [.ref e, .int (Int32.ofInt (x.1.length : Int)), .int (Int32.ofInt (i : Nat)), .int (Int32.ofInt (g : Nat)), pm_U]) (fun g x τ => cLI σ e x τ ∧ ∀ j, j < 4096 → j ≠ 0 → x.2 j = sumL (f1 T.2 D j) (ls.take i) + D S * sumP (indA T.2 S j) (G.take g)) G.length (fun g hg' x τ hh next2 => ?_) (fun x τ hh => ?_) 0 (Nat.zero_le _) x τ ⟨hI, fun j h1 h2 => by rw [hE j h1 h2]; simp [sumP]⟩
    · obtain ⟨hI, hE⟩ := hh
      have hdt := frC_d hI.1 hd
      have hgt := frC_g hI.1 hg
      have hst := frC_t hI.1 hs
      have hx := List.getElem?_eq_getElem hg'
      generalize G[g] = y at hx
      obtain ⟨a, n⟩ := y
      have ga := gk.2.1 (a, n) (List.mem_of_getElem? hx)
      have ha : a < 100 := ga.1
      have hn1 : 1 ≤ n := ga.2.1
      have hn2 : n ≤ 100 := ga.2.2
      have rg := hgt.2 g (a, n) hx
      have r5 : iv (pm_A τ (e + 5) g) = Int32.ofInt (a : Int) := rg.1
      have r6 : iv (pm_A τ (e + 6) g) = Int32.ofInt (n : Int) := rg.2
      have q7 : ¬ Int32.ofInt (G.length : Int) ≤ Int32.ofInt (g : Nat) := by rw [oi_le (by omega)]; omega
      have vi' := vi (show i < 4096 by omega) (by omega)
      have wi' := vc (show i < 2000000 by omega)
      have vg := vi (show g < 100 by omega) (by omega)
      have wg := vc (show g < 2000000 by omega)
      have vS := vi mS.1 (by omega)
      have wS := vc (show S < 2000000 by omega)
      have r9 : iv (pm_A τ (e + 9) i) = Int32.ofInt (S : Int) := by rw [hI.2.2.2.2.2.2.2.1]; exact (hl i S hSi).1
      have alt : aft T.2 S a < 4096 := aftN_lt hT.2 12
      refine w_Do_countLonger_10 ⟨hdt.1, fun z ez => ⟨fun q => ?_, fun _ => ?_⟩⟩
      · rw [ez, hgt.1] at q; exact absurd q q7
      simp only [hdt.1, hdt.2.1.1, hdt.2.1.2.2.1, hdt.2.1.2.2.2.2.2.2.1, hdt.2.2.1.1, hdt.2.2.1.2.1, hdt.2.2.1.2.2.2.2.2.2.2.2.1, hdt.2.2.1.2.2.2.2.2.2.2.2.2.1, vi', wi', vg, wg, r5, r9, hst.1.1, isr_ref, rv_ref, true_and, forall_eq]
      refine (s_St_after hst mS.1 ha).use (by omega) ?_
      generalize er : aft T.2 S a = r at alt
      rw [i_0 (by omega), oi_s]
      have vr := vi alt (by omega)
      have wr := vc (show r < 2000000 by omega)
      have iS : ∀ j, indA T.2 S j a = if r = j then 1 else 0 := fun j => by unfold indA; rw [er]
      refine ⟨fun r0 => ?_, fun r0 => ?_⟩
      · refine next2 x τ ⟨hI, fun j h1 h2 => ?_⟩
        rw [hE j h1 h2, sumP_s hx, iS, if_neg (by omega)]; rfl
      have bE : x.2 r ≤ 10000000000000000 := by
        refine Nat.le_trans ?_ (bd r alt)
        refine Nat.le_trans ?_ (sumL_take (f1 T.2 D r) ls (i + 1))
        rw [hE r alt r0, sumL_s hSi]
        refine Nat.add_le_add_left ?_ _
        unfold f1
        refine Nat.mul_le_mul_left _ ?_
        rw [← ind_cnt]
        refine Nat.le_trans (sumP_take _ _ _) (Nat.le_of_eq ?_)
        refine (gk.2.2.2.1 _ (fun j h1 h2 h3 => ?_)).symm
        unfold indA
        rw [aft_al (hal j h3)]
      have R41 : ∀ (ns' : List Nat) (τ' : pm_H), frC e σ τ' → (∀ j, j < 4096 → jv (pm_A τ' (e + 8) j) = Int64.ofNat (x.2 j)) → ns'.Nodup → (∀ S : Nat, S ∈ ns' ↔ S < 4096 ∧ (x.2 S ≠ 0 ∨ S = r)) → (∀ (i S : Nat), ns'[i]? = some S → iv (pm_A τ' (e + 10) i) = Int32.ofInt (S : Int)) → (∀ j, pm_A τ' (e + 7) j = pm_A σ (e + 7) j) → (∀ j, pm_A τ' (e + 9) j = pm_A σ (e + 9) j) → pm_F τ' 109 e = pm_F σ 109 e → pm_R 2 11 41 [.ref e, .int (Int32.ofInt (ns'.length : Int)), .int (Int32.ofInt (i : Nat)), .int (Int32.ofInt (g : Nat)), .int (Int32.ofInt (r : Int))] [] τ' (fun o σ' => o = .inl none ∧ frC e σ σ' ∧ ∃ ls' : List Nat, iv (pm_F σ' 109 e) = Int32.ofInt (ls'.length : Int) ∧ (∀ (i S : Nat), ls'[i]? = some S → iv (pm_A σ' (e + 9) i) = Int32.ofInt (S : Int) ∧ jv (pm_A σ' (e + 7) S) = Int64.ofNat (sumL (f1 T.2 D S) ls)) ∧ (∀ j, j < 4096 → jv (pm_A σ' (e + 8) j) = 0) ∧ ls'.Nodup ∧ ∀ S : Nat, S ∈ ls' ↔ S < 4096 ∧ S ≠ 0 ∧ sumL (f1 T.2 D S) ls ≠ 0) := by
        intro ns' τ' c1 c2 c3 c4 c5 c6 c7 c8
        have hd' := frC_d c1 hd
        have hg2 := frC_g c1 hg
        have s6 : iv (pm_A τ' (e + 6) g) = Int32.ofInt (n : Int) := (hg2.2 g (a, n) hx).2
        have s9 : iv (pm_A τ' (e + 9) i) = Int32.ofInt (S : Int) := by rw [c7]; exact (hl i S hSi).1
        have s7 : jv (pm_A τ' (e + 7) S) = Int64.ofNat (D S) := by rw [c6]; exact (hl i S hSi).2
        refine w_Do_countLonger_41 ?_
        simp only [hd'.1, hd'.2.1.2.2.2.1, hd'.2.1.2.2.2.2.1, hd'.2.1.2.2.2.2.2.1, hd'.2.1.2.2.2.2.2.2.1, hd'.2.2.1.2.2.1, hd'.2.2.1.2.2.2.1, hd'.2.2.1.2.2.2.2.1, hd'.2.2.1.2.2.2.2.2.1, hd'.2.2.1.2.2.2.2.2.2.1, hd'.2.2.1.2.2.2.2.2.2.2.1, hd'.2.2.1.2.2.2.2.2.2.2.2.1, hd'.2.2.1.2.2.2.2.2.2.2.2.2.1, vi', wi', vg, wg, vS, wS, vr, wr, s6, s7, s9, c2 r alt, isr_ref, rv_ref, true_and, forall_eq, L_i32 n (by omega), L_mul, L_add, oi_s]
        refine next2 (ns', fun j => if j = r then x.2 r + D S * n else x.2 j) _ ⟨⟨frC_tr c1 (frC_sA (by omega) (by omega)), fun j hj => ?_, c3, fun S' => ?_, ?_, fun i' S' h' => ?_, fun j => ?_, fun j => ?_, ?_⟩, fun j h1 h2 => ?_⟩
        · rw [A_sA]
          by_cases c : j = r
          · rw [if_pos ⟨rfl, c⟩]
            show Int64.ofNat _ = Int64.ofNat (if j = r then _ else _)
            rw [if_pos c]
          · rw [if_neg (fun q => c q.2)]
            show _ = Int64.ofNat (if j = r then _ else _)
            rw [if_neg c]; exact c2 j hj
        · rw [c4 S']
          show _ ↔ _ ∧ (if S' = r then _ else _) ≠ 0
          by_cases c : S' = r
          · rw [if_pos c]
            have : D S * n ≠ 0 := Nat.mul_ne_zero mS.2.2 (by omega)
            constructor
            · rintro ⟨p, -⟩; exact ⟨p, by omega⟩
            · rintro ⟨p, -⟩; exact ⟨p, Or.inr c⟩
          · rw [if_neg c]
            constructor
            · rintro ⟨p, q | q⟩
              · exact ⟨p, q⟩
              · exact absurd q c
            · rintro ⟨p, q⟩; exact ⟨p, Or.inl q⟩
        · show (if 0 = r then _ else _) = 0
          rw [if_neg (by omega)]; exact hI.2.2.2.2.1
        · rw [A_sA, if_neg (by omega)]; exact c5 i' S' h'
        · rw [A_sA, if_neg (by omega)]; exact c6 j
        · rw [A_sA, if_neg (by omega)]; exact c7 j
        · rw [F_sA]; exact c8
        · show (if j = r then _ else _) = _
          rw [sumP_s hx, iS, Nat.mul_add, ← Nat.add_assoc, ← hE j h1 h2]
          by_cases c : j = r
          · rw [if_pos c, if_pos c.symm, c, Nat.mul_one]
          · rw [if_neg c, if_neg (fun q => c q.symm), Nat.mul_zero, Nat.mul_zero]; rfl
      simp only [hdt.1, hdt.2.1.2.2.2.2.2.1, hdt.2.2.1.2.2.2.2.2.2.1, hdt.2.2.1.2.2.2.2.2.2.2.1, vr, wr, hI.2.1 r alt, isr_ref, rv_ref, true_and, forall_eq]
      rw [lg0, L_z (by omega)]
      refine ⟨fun e0 => ?_, fun e0 => R41 x.1 τ hI.1 hI.2.1 hI.2.2.1 (fun S' => ?_) hI.2.2.2.2.2.1 hI.2.2.2.2.2.2.1 hI.2.2.2.2.2.2.2.1 hI.2.2.2.2.2.2.2.2⟩
      · have rn : r ∉ x.1 := fun q => ((hI.2.2.2.1 r).mp q).2 e0
        have nd' := nodup_app hI.2.2.1 rn
        have nl := nodup_len nd' (N := 4096) (fun y hy => by
          rcases List.mem_append.mp hy with q | q
          · exact ((hI.2.2.2.1 y).mp q).1
          · rw [List.mem_singleton.mp q]; exact alt)
        rw [List.length_append] at nl
        have nl' : x.1.length < 4096 := nl
        have vx := vi nl' (by omega)
        have wx := vc (show x.1.length < 2000000 by omega)
        simp only [hdt.1, hdt.2.1.2.2.2.2.2.2.2.1, hdt.2.2.1.2.2.2.2.2.2.2.2.2.2.1, hdt.2.2.1.2.2.2.2.2.2.2.2.2.2.2.1, vx, wx, isr_ref, rv_ref, true_and, forall_eq, oi_s]
        have := R41 (x.1 ++ [r]) (pm_sA τ (e + 10) x.1.length (.int (Int32.ofInt (r : Int)))) (frC_tr hI.1 (frC_sA (by omega) (by omega))) (fun j hj => by rw [A_sA, if_neg (by omega)]; exact hI.2.1 j hj) nd' (fun S' => ?_) (fun i' S' h' => ?_) (fun j => by rw [A_sA, if_neg (by omega)]; exact hI.2.2.2.2.2.2.1 j) (fun j => by rw [A_sA, if_neg (by omega)]; exact hI.2.2.2.2.2.2.2.1 j) (by rw [F_sA]; exact hI.2.2.2.2.2.2.2.2)
        · rw [List.length_append] at this
          exact this
        · rw [List.mem_append, List.mem_singleton, hI.2.2.2.1 S']
          constructor
          · rintro (⟨p, q⟩ | q)
            · exact ⟨p, Or.inl q⟩
            · exact ⟨by omega, Or.inr q⟩
          · rintro ⟨p, q | q⟩
            · exact Or.inl ⟨p, q⟩
            · exact Or.inr q
        · rw [A_sA]
          rcases getA h' with q | ⟨q, q2⟩
          · have := (List.getElem?_eq_some_iff.mp q).1
            rw [if_neg (by omega)]; exact hI.2.2.2.2.2.1 i' S' q
          · rw [if_pos ⟨rfl, q⟩, q2]; rfl
      · rw [hI.2.2.2.1 S']
        constructor
        · rintro ⟨p, q⟩; exact ⟨p, Or.inl q⟩
        · rintro ⟨p, q | q⟩
          · exact ⟨p, q⟩
          · exact ⟨p, by rw [q]; exact e0⟩
    · obtain ⟨hI, hE⟩ := hh
      have hdt := frC_d hI.1 hd
      have hgt := frC_g hI.1 hg
      refine w_Do_countLonger_10 ⟨hdt.1, fun z ez => ⟨fun _ => ?_, fun q => ?_⟩⟩
      · rw [oi_s]
        refine next x τ ⟨hI, fun j h1 h2 => ?_⟩
        rw [hE j h1 h2, sumL_s hSi, List.take_length]
        unfold f1
        rw [← ind_cnt, gk.2.2.2.1 (indA T.2 S j) (fun k h1 h2 h3 => by unfold indA; rw [aft_al (hal k h3)])]
      · rw [ez, hgt.1] at q; exact absurd (Int32.le_refl _) q
  · obtain ⟨hI, hE⟩ := hh
    have hdt := frC_d hI.1 hd
    have zc : iv (pm_F τ 109 e) = Int32.ofInt (ls.length : Int) := by rw [hI.2.2.2.2.2.2.2.2]; exact hc
    refine w_Do_countLonger_4 ⟨hdt.1, fun z ez => ⟨fun _ => ?_, fun q => ?_⟩⟩
    · refine ⟨hdt.1, (s_Do_takeNext hdt hI.2.2.1 (fun S hS => ((hI.2.2.2.1 S).mp hS).1) hI.2.2.2.2.2.1 hI.2.1 (fun j hj hn => ?_)).use (by omega) (fun σ' p => ?_)⟩
      · by_cases c : x.2 j = 0
        · exact c
        · exact absurd ((hI.2.2.2.1 j).mpr ⟨hj, c⟩) hn
      · rw [List.take_length] at hE
        have m0 : ∀ S : Nat, S ∈ x.1 ↔ S < 4096 ∧ S ≠ 0 ∧ sumL (f1 T.2 D S) ls ≠ 0 := fun S => by
          rw [hI.2.2.2.1 S]
          constructor
          · rintro ⟨p, q⟩
            have s0 : S ≠ 0 := fun s0 => by rw [s0] at q; exact q hI.2.2.2.2.1
            exact ⟨p, s0, by rw [← hE S p s0]; exact q⟩
          · rintro ⟨p, s0, q⟩
            exact ⟨p, by rw [hE S p s0]; exact q⟩
        refine ⟨rfl, frC_tr hI.1 p.1, x.1, p.2.1, fun i S hS => ?_, p.2.2.2, hI.2.2.1, m0⟩
        have mS := (m0 S).mp (List.mem_of_getElem? hS)
        rw [← hE S mS.1 mS.2.1]
        exact p.2.2.1 i S hS
    · rw [ez, zc] at q; exact absurd (Int32.le_refl _) q
/-- the sum over the sets with a count is the sum over all -/
theorem sumL_cw {rs : List Rl} {n S' : Nat} {ls : List Nat} (nd : ls.Nodup) (hls : ∀ S : Nat, S ∈ ls ↔ S < 4096 ∧ S ≠ 0 ∧ cw rs n S ≠ 0) : sumL (f1 rs (cw rs n) S') ls = cw rs (n + 1) S' := by
  rw [sumL_N nd (N := 4096) (fun x hx => ((hls x).mp hx).1)]
  show _ = sumN (fun S => if S = 0 then 0 else cw rs n S * cnt (fun s => decide (aft rs S s = S')) 100) 4096
  refine sumN_ext (fun S hS => ?_)
  by_cases c : S ∈ ls
  · rw [if_pos c, if_neg ((hls S).mp c).2.1]; rfl
  · rw [if_neg c]
    by_cases e : S = 0
    · rw [if_pos e]
    · rw [if_neg e]
      have : cw rs n S = 0 := by
        by_cases q : cw rs n S = 0
        · exact q
        · exact absurd ((hls S).mpr ⟨hS, e, q⟩) c
      rw [this, Nat.zero_mul]
theorem sumL_dcnt {T : Tr} {n : Nat} {ls : List Nat} (nd : ls.Nodup) (hls : ∀ S : Nat, S ∈ ls ↔ S < 4096 ∧ S ≠ 0 ∧ cw T.2 n S ≠ 0) : sumL (fun S => if S &&& T.1 ≠ 0 then cw T.2 n S else 0) ls = dcnt T n := by
  rw [sumL_N nd (N := 4096) (fun x hx => ((hls x).mp hx).1)]
  refine sumN_ext (fun S hS => ?_)
  by_cases c : S ∈ ls
  · rw [if_pos c]
  · rw [if_neg c]
    by_cases e : S &&& T.1 ≠ 0
    · rw [if_pos e]
      by_cases q : cw T.2 n S = 0
      · exact q.symm
      · refine absurd ((hls S).mpr ⟨hS, fun s0 => e ?_, q⟩) c
        rw [s0, Nat.zero_and]
    · rw [if_neg e]
theorem s_Do_countWords {σ : pm_H} {e a n : Nat} {T : Tr} {π : Nat → Nat} (hd : isDo σ e) (ht : isTr σ a T π) (hT : okTr T) (hn : n ≤ 8) (ha : a + 122 ≤ e) : pm_C 3 10 [.ref e, .ref a, .int (Int32.ofInt (n : Int))] σ (fun o σ' => o = .inl (some (.long (Int64.ofNat (dcnt T n)))) ∧ isDo σ' e ∧ fr (pDo e) σ σ') := by
  obtain ⟨hd, hz⟩ := hd
  refine w_Do_countWords_0 ?_
  simp only [hd.1, hd.2.1.1, hd.2.2.2.1.1, isr_ref, rv_ref, true_and, forall_eq]
  refine (s_St_load hd.2.2.2.1 ht hT (by omega)).use (by omega) (fun σ1 p1 => ?_)
  have f1' : fr (pDo e) σ σ1 := p1.2.mono (fun b hb => by unfold pSt at hb; unfold pDo; omega)
  have hd1 : doS σ1 e := doS_st hd p1.2 (fun f _ _ _ => p1.2.F (by unfold pSt; omega)) p1.1.1 (stS_fr hd.2.2.2.2 p1.2 (by unfold pSt; omega))
  simp only [hd1.1, hd1.2.1.1, isr_ref, rv_ref, true_and, forall_eq]
  refine (s_Do_findGroups hd1 p1.1 p1.1 hT hT (Or.inl rfl) (Or.inl rfl)).use (by omega) (fun σ2 p2 => ?_)
  obtain ⟨⟨G, gk, hg⟩, hd2, f2⟩ := p2
  have f2' : fr (pDo e) σ σ2 := f1'.tr (f2.mono (fun b hb => by unfold pG at hb; unfold pDo; omega))
  have hs2 := isSt_fr p1.1 f2 (fun b hb => by unfold pSt at hb; unfold pG; omega)
  have hal : ∀ j, alk T T j = true → alike T.2 (j - 1) j = true := fun j h => by unfold alk at h; rw [Bool.and_eq_true] at h; exact h.1
  have v1 : vp_in (1 : Int32) 4096 := by rw [vp_in_iff]; decide
  have v0 : vp_in (0 : Int32) 4096 := by rw [vp_in_iff]; decide
  have w1 : (1 : Int32).toNatClampNeg = 1 := by decide
  simp only [hd2.1, hd2.2.1.2.2.2.2.1, hd2.2.1.2.2.2.2.2.2.1, hd2.2.2.1.2.2.2.2.1, hd2.2.2.1.2.2.2.2.2.1, hd2.2.2.1.2.2.2.2.2.2.2.2.1, hd2.2.2.1.2.2.2.2.2.2.2.2.2.1, t_sA, l_sA, F_sA, v0, v1, c00, w1, isr_ref, rv_ref, true_and, forall_eq]
  have hz2 : ∀ j, j < 4096 → jv (pm_A σ2 (e + 8) j) = 0 := fun j hj => by rw [f2.A (by unfold pG; omega), p1.2.A (by unfold pSt; omega)]; exact hz j hj
  have f3 : frC e σ2 (pm_sF (pm_sA (pm_sA σ2 (e + 7) 1 (.long ((1 : Int64)))) (e + 9) 0 (.int ((1 : Int32)))) 109 e (.int ((1 : Int32)))) := frC_tr (frC_tr (frC_sA (by omega) (by omega)) (frC_sA (by omega) (by omega))) frC_sF
  refine lp_up (fun i (_ : List Nat) => [.ref e, pm_U, .int (Int32.ofInt (n : Int)), .int (Int32.ofInt (i : Nat)), pm_U, pm_U]) (fun i ls τ => frC e σ2 τ ∧ iv (pm_F τ 109 e) = Int32.ofInt (ls.length : Int) ∧ (∀ (k S : Nat), ls[k]? = some S → iv (pm_A τ (e + 9) k) = Int32.ofInt (S : Int) ∧ jv (pm_A τ (e + 7) S) = Int64.ofNat (cw T.2 i S)) ∧ (∀ j, j < 4096 → jv (pm_A τ (e + 8) j) = 0) ∧ ls.Nodup ∧ ∀ S : Nat, S ∈ ls ↔ S < 4096 ∧ S ≠ 0 ∧ cw T.2 i S ≠ 0) n (fun i hi ls τ hh next => ?_) (fun ls τ hh => ?_) 0 (Nat.zero_le _) [1] _ ⟨f3, by rw [F_sF, if_pos ⟨rfl, rfl⟩]; rfl, fun k S hk => ?_, fun j hj => ?_, by simp, fun S => ?_⟩
  · obtain ⟨j1, j2, j3, j4, j5, j6⟩ := hh
    have hdt := frC_d j1 hd2
    refine w_Do_countWords_25 ⟨fun q => ?_, fun _ => ⟨hdt.1, (s_Do_countLonger hdt (frC_t j1 hs2) hT (frC_g j1 hg) gk hal j2 j3 j4 j5 j6 (fun j hj => ?_)).use (by omega) (fun τ' p => ?_)⟩⟩
    · rw [oi_le (by omega)] at q; omega
    · rw [sumL_cw j5 j6]; exact cw_le hj (by omega)
    · obtain ⟨p1, ls', p2, p3, p4, p5, p6⟩ := p
      rw [oi_s]
      refine next ls' τ' ⟨frC_tr j1 p1, p2, fun k S hk => ?_, p4, p5, fun S => ?_⟩
      · rw [← sumL_cw j5 j6]; exact p3 k S hk
      · rw [← sumL_cw j5 j6]; exact p6 S
  · obtain ⟨j1, j2, j3, j4, j5, j6⟩ := hh
    have hdt := frC_d j1 hd2
    have hst := frC_t j1 hs2
    have ll := nodup_len j5 (fun x hx => ((j6 x).mp hx).1)
    refine w_Do_countWords_25 ⟨fun _ => ?_, fun q => absurd (Int32.le_refl _) q⟩
    refine lp0 (fun i => [.ref e, pm_U, pm_U, .long (Int64.ofNat (sumL (fun S => if S &&& T.1 ≠ 0 then cw T.2 n S else 0) (ls.take i))), pm_U, .int (Int32.ofInt (i : Nat))]) ls.length (fun i hi next => ?_) ?_ 0 (Nat.zero_le _)
    · have hSi := List.getElem?_eq_getElem hi
      generalize ls[i] = S at hSi
      have mS := (j6 S).mp (List.mem_of_getElem? hSi)
      have q6 : ¬ Int32.ofInt (ls.length : Int) ≤ Int32.ofInt (i : Nat) := by rw [oi_le (by omega)]; omega
      have vi' := vi (show i < 4096 by omega) (by omega)
      have wi' := vc (show i < 2000000 by omega)
      have vS := vi mS.1 (by omega)
      have wS := vc (show S < 2000000 by omega)
      have r9 := (j3 i S hSi).1
      have r7 := (j3 i S hSi).2
      refine w_Do_countWords_36 ⟨hdt.1, fun z ez => ⟨fun q => ?_, fun _ => ?_⟩⟩
      · rw [ez, j2] at q; exact absurd q q6
      simp only [hdt.1, hdt.2.1.1, hdt.2.1.2.2.2.2.1, hdt.2.1.2.2.2.2.2.2.1, hdt.2.2.1.2.2.2.2.1, hdt.2.2.1.2.2.2.2.2.1, hdt.2.2.1.2.2.2.2.2.2.2.2.1, hdt.2.2.1.2.2.2.2.2.2.2.2.2.1, vi', wi', r9, hst.1.1, isr_ref, rv_ref, true_and, forall_eq]
      refine gD (s_St_isAccepting hst mS.1) (by omega) (fun c => ?_) (fun c => ?_)
      · rw [oi_s]
        rw [sumL_s hSi, if_neg c] at next; exact next
      · simp only [hdt.1, hdt.2.1.2.2.2.2.1, hdt.2.1.2.2.2.2.2.2.1, hdt.2.2.1.2.2.2.2.1, hdt.2.2.1.2.2.2.2.2.1, hdt.2.2.1.2.2.2.2.2.2.2.2.1, hdt.2.2.1.2.2.2.2.2.2.2.2.2.1, vi', wi', vS, wS, r9, r7, L_add, isr_ref, rv_ref, true_and, forall_eq, oi_s]
        rw [sumL_s hSi, if_pos c] at next; exact next
    · refine w_Do_countWords_36 ⟨hdt.1, fun z ez => ⟨fun _ => ?_, fun q => ?_⟩⟩
      · rw [List.take_length, sumL_dcnt j5 j6]
        exact ⟨rfl, ⟨hdt, j4⟩, f2'.tr (j1.1.mono (fun b hb => by unfold pC at hb; unfold pDo; omega))⟩
      · rw [ez, j2] at q; exact absurd (Int32.le_refl _) q
  · simp only [A_sF, A_sA, Nat.reduceEqDiff, Nat.left_eq_add, Nat.add_eq_left, Nat.one_ne_zero, false_and, true_and, if_false]
    cases k with
    | zero => simp at hk; subst hk; exact ⟨rfl, rfl⟩
    | succ k => simp at hk
  · simp only [A_sF, A_sA, Nat.reduceEqDiff, Nat.left_eq_add, Nat.add_eq_left, Nat.one_ne_zero, false_and, if_false]
    exact hz2 j hj
  · show S ∈ [1] ↔ S < 4096 ∧ S ≠ 0 ∧ (if S = 1 then 1 else 0) ≠ 0
    rw [List.mem_singleton]
    constructor
    · intro h; subst h; exact ⟨by omega, by omega, by decide⟩
    · rintro ⟨_, _, h⟩
      by_cases c : S = 1
      · exact c
      · rw [if_neg c] at h; exact absurd rfl h
