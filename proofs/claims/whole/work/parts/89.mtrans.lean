/-! ===== the model: outputs ===== -/
def mRes (σ : pm_H) (m : Nat) (l : List Nat) : Prop := iv (pm_F σ 1220 m) = Int32.ofInt l.length ∧ l.length ≤ 60 ∧ ∀ (i s : Nat), l[i]? = some s → iv (pm_A σ (m + 13) i) = Int32.ofInt (s : Int)
def X4 (m : Nat) (σ σ' : pm_H) : Prop := frX m (fun f => f = 1200 ∨ f = 1220) (fun i => i = 13 ∨ (16 ≤ i ∧ i ≤ 18)) (fun _ => False) σ σ'
theorem X3.X4 {m : Nat} {σ σ' : pm_H} (h : X3 m σ σ') : X4 m σ σ' := frX.mono h (fun _ q => q.elim) (fun _ q => Or.inr q) (fun _ q => q)
theorem X4.mS {m : Nat} {σ σ' : pm_H} (h : X4 m σ σ') (hm : mS σ m) : mS σ' m := frX.mS h hm (by rintro _ (rfl | rfl) <;> decide)
theorem s_M_trans_95 {σ τ0 : pm_H} {m : Nat} {x : Option (List Nat)} {Q : pm_O → pm_H → Prop} (hm : mS τ0 m) (hf : X3 m σ τ0) (hx : mEn τ0 m 0 x) (hl : ∀ r, x = some r → r.length ≤ 60) (hQ0 : x = none → ∀ σ', X4 m σ σ' → iv (pm_F σ' 1200 m) = 2 → iv (pm_F σ' 1220 m) = iv (pm_F σ 1220 m) → (∀ j, pm_A σ' (m + 13) j = pm_A σ (m + 13) j) → Q (.inl (some (.int 0))) σ') (hQ1 : ∀ r, x = some r → ∀ σ', X4 m σ σ' → iv (pm_F σ' 1200 m) = 0 → mRes σ' m r → Q (.inl (some (.int (Int32.ofInt (r.length : Int))))) σ') {d : Nat} {x1 x2 : Int32} : pm_R (d + 1) 209 47 [.ref m, .int x1, .int x2, .int (Int32.ofInt (-1)), pm_U] [] τ0 Q := by
  have v0 : vp_in (0 : Int32) 132 := vi (n := 0) (N := 132) (by omega) (by omega)
  refine w_M_transduce_47 ⟨fun _ => ?_, fun z => absurd (by decide) z⟩
  simp only [hm.1, hm.f17, hm.t17, hm.l17, isr_ref, rv_ref, v0, i32_c0, true_and, forall_eq]
  cases x with
  | none =>
    rw [hx.1 rfl]
    refine ⟨fun z => absurd z (by decide), fun _ => ?_⟩
    refine w_M_transduce_95 ?_
    simp only [hm.1, F_sF, iv_int, t_sF, true_and, forall_eq, and_self, if_true]
    refine ⟨fun z => absurd z (by decide), fun _ => ?_⟩
    refine hQ0 rfl _ (hf.X4.tr (frX_sF.mono (fun f q => Or.inl q) (fun _ q => q.elim) (fun _ q => q))) ?_ ?_ (fun j => ?_)
    · rw [F_sF, if_pos ⟨rfl, rfl⟩]; rfl
    · rw [F_sF, if_neg (by omega), hf.F (fun q => q)]
    · rw [A_sF, hf.A (by omega) (by omega)]
  | some r =>
    obtain ⟨b1, b2⟩ := hx.2 r rfl
    have hr := hl r rfl
    rw [b1]
    have p0 : (0 : Int32) ≤ Int32.ofInt (r.length : Int) := by rw [oi_lle ⟨by omega, by decide⟩]; omega
    refine ⟨fun _ => ?_, fun z => absurd p0 z⟩
    refine w_M_transduce_95 ?_
    simp only [hm.1, hm.f17, hm.t17, hm.l17, F_sF, A_sF, l_sF, iv_int, t_sF, isr_ref, rv_ref, v0, i32_c0, b1, true_and, forall_eq, and_self, if_true, Nat.reduceEqDiff, false_and, if_false, true_implies, not_true_eq_false, false_implies, and_true]
    generalize hτ : pm_sF (pm_sF τ0 1200 m (.int 0)) 1220 m (.int (Int32.ofInt (r.length : Int))) = τ
    have hf1 : X4 m σ τ := by
      subst hτ
      exact (hf.X4.tr (frX_sF.mono (fun f q => Or.inl q) (fun _ q => q.elim) (fun _ q => q))).tr (frX_sF.mono (fun f q => Or.inr q) (fun _ q => q.elim) (fun _ q => q))
    have hmτ : mS τ m := by subst hτ; exact mS_sF (mS_sF hm (by decide)) (by decide)
    have F0 : iv (pm_F τ 1200 m) = 0 := by subst hτ; rw [F_sF, if_neg (by omega), F_sF, if_pos ⟨rfl, rfl⟩]; rfl
    have F1 : iv (pm_F τ 1220 m) = Int32.ofInt (r.length : Int) := by subst hτ; rw [F_sF, if_pos ⟨rfl, rfl⟩]; rfl
    have A0 : ∀ (k s : Nat), r[k]? = some s → iv (pm_A τ (m + 16) k) = Int32.ofInt (s : Int) := fun k s hk => by
      have := b2 k s hk
      rw [Nat.mul_zero, Nat.zero_add] at this
      subst hτ; exact this
    clear hτ
    refine lp (d := d + 1) (m := 209) (k := 109) (fun k => [.ref m, pm_U, pm_U, .int (Int32.ofInt (k : Nat)), pm_U]) (fun k τ1 => X4 m σ τ1 ∧ mS τ1 m ∧ iv (pm_F τ1 1200 m) = 0 ∧ iv (pm_F τ1 1220 m) = Int32.ofInt (r.length : Int) ∧ (∀ (k s : Nat), r[k]? = some s → iv (pm_A τ1 (m + 16) k) = Int32.ofInt (s : Int)) ∧ ∀ (k' s : Nat), k' < k → r[k']? = some s → iv (pm_A τ1 (m + 13) k') = Int32.ofInt (s : Int)) r.length ?_ ?_ 0 (Nat.zero_le _) τ ⟨hf1, hmτ, F0, F1, A0, fun k' s hk => absurd hk (Nat.not_lt_zero _)⟩
    · rintro k hk τ1 ⟨i1, i2, i3, i4, i5, i6⟩ next
      have hk' := List.getElem?_eq_getElem hk
      generalize r[k] = s at hk'
      have q6 : ¬ Int32.ofInt (r.length : Int) ≤ Int32.ofInt (k : Nat) := by rw [oi_le (by omega)]; omega
      have vk := vi (show k < 60 by omega) (by omega)
      have wk := vc (show k < 2000000 by omega)
      have vr := vi (show k < 7920 by omega) (by omega)
      refine w_M_transduce_109 ?_
      simp only [i2.1, i2.f13, i2.t13, i2.l13, i2.f16, i2.t16, i2.l16, i4, q6, not_false_eq_true, false_implies, true_implies, isr_ref, rv_ref, vk, wk, vr, i5 k s hk', true_and, forall_eq, oi_s]
      refine next _ ⟨i1.tr ((frX_sA (by omega) (by omega)).mono (fun _ q => q.elim) (fun _ q => Or.inl q) (fun _ q => q)), mS_sA i2, i3, i4, fun k' s' h' => ?_, fun k' s' h1 h' => ?_⟩
      · rw [A_sA, if_neg (by omega)]; exact i5 k' s' h'
      · rw [A_sA]
        by_cases e : k' = k
        · subst e; rw [hk'] at h'; cases h'; rw [if_pos ⟨rfl, rfl⟩]; rfl
        · rw [if_neg (by omega)]; exact i6 k' s' (by omega) h'
    · rintro τ1 ⟨i1, i2, i3, i4, i5, i6⟩
      have q6 : Int32.ofInt (r.length : Int) ≤ Int32.ofInt (r.length : Int) := Int32.le_refl _
      refine w_M_transduce_109 ?_
      simp only [i2.1, i4, q6, not_true_eq_false, false_implies, true_implies, and_true, true_and, forall_eq]
      exact hQ1 r rfl τ1 i1 i3 ⟨i4, hr, fun k s hk => i6 k s (List.getElem?_eq_some_iff.mp hk).1 hk⟩
theorem s_M_trans_c {σ : pm_H} {m sl : Nat} {T : Tr} {l : List Nat} {last : Bool} {Q : pm_O → pm_H → Prop} (hm : mS σ m) (h : mTr σ m sl T) (hT : okTr T) (hsl : sl < 4) (hw : mWo σ m l) (hlw : ∀ s, s ∈ l → s < 100) (hQ0 : bestW T last l 0 = none → ∀ σ', X4 m σ σ' → iv (pm_F σ' 1200 m) = 2 → iv (pm_F σ' 1220 m) = iv (pm_F σ 1220 m) → (∀ j, pm_A σ' (m + 13) j = pm_A σ (m + 13) j) → Q (.inl (some (.int 0))) σ') (hQ1 : ∀ r, bestW T last l 0 = some r → ∀ σ', X4 m σ σ' → iv (pm_F σ' 1200 m) = 0 → mRes σ' m r → Q (.inl (some (.int (Int32.ofInt (r.length : Int))))) σ') : pm_R 4 209 15 [.ref m, .int (Int32.ofInt (sl : Int)), .int (bI last), .int ((0 : Int32)), pm_U] [] σ Q := by
  have hl10 := hw.2.1
  have hl40 := h.2.2.1
  have vs := vi (show sl < 13 by omega) (by omega)
  have ws := vc (show sl < 2000000 by omega)
  refine lp (d := 4) (m := 209) (k := 15) (fun k => [.ref m, .int (Int32.ofInt (sl : Int)), .int (bI last), .int (Int32.ofInt (k : Nat)), pm_U]) (fun k τ => X3 m σ τ ∧ ∀ q, q < k → mEn τ m (12 * l.length + q) (if T.1.testBit q then some [] else none)) 12 ?_ ?_ 0 (Nat.zero_le _) σ ⟨frX.rf, fun q hq => absurd hq (Nat.not_lt_zero _)⟩
  · rintro k hk τ ⟨i1, i2⟩ next
    have hm' := i1.mS hm
    have hw' := mWo_X hw i1 (fun q => q) (by omega)
    have h' := frX.T i1 h hT (fun q => q)
    have vk := vi (show 12 * l.length + k < 132 by omega) (by omega)
    have wk := vc (show 12 * l.length + k < 2000000 by omega)
    have step : ∀ v x, (v = (.int x : Value)) → mEn (pm_sA τ (m + 17) (12 * l.length + k) v) m (12 * l.length + k) (if T.1.testBit k then some [] else none) → pm_R 4 209 15 [.ref m, .int (Int32.ofInt (sl : Int)), .int (bI last), .int (Int32.ofInt ((k + 1 : Nat) : Int)), pm_U] [] (pm_sA τ (m + 17) (12 * l.length + k) v) Q := fun v x _ hv => by
      refine next _ ⟨i1.tr (X3_sA (by omega) (by omega)), fun q hq => ?_⟩
      by_cases e : q = k
      · subst e; exact hv
      · exact mEn_sA (i2 q (by omega)) (fun l' e' => by split at e' <;> cases e'; simp) (by omega)
    refine w_M_transduce_15 ⟨fun qq => ?_, fun _ => ?_⟩
    · rw [i32_12 (by omega)] at qq; omega
    · simp only [hm'.1, hm'.f17, hm'.t17, hm'.l17, hm'.f1, hm'.t1, hm'.l1, isr_ref, rv_ref, hw'.1, vs, ws, h'.1, st_has1 hT.1 hk, oi_row12, vk, wk, true_and, forall_eq, oi_s]
      refine ⟨fun e => step _ _ rfl ?_, fun e => step _ _ rfl ?_⟩
      · rw [if_pos e]
        refine ⟨(fun z => by cases z), fun l' z => ?_⟩
        cases z
        exact ⟨by rw [A_sA, if_pos ⟨rfl, rfl⟩]; rfl, fun k s hk => by simp at hk⟩
      · rw [if_neg e]
        exact ⟨fun _ => by rw [A_sA, if_pos ⟨rfl, rfl⟩]; rfl, fun l' z => by cases z⟩
  · rintro τ ⟨i1, i2⟩
    have hm' := i1.mS hm
    have hw' := mWo_X hw i1 (fun q => q) (by omega)
    refine w_M_transduce_15 ⟨fun _ => ?_, fun qq => absurd (Int32.le_refl _) qq⟩
    simp only [hm'.1, hw'.1, true_and, forall_eq]
    have e0 : Int32.ofInt (l.length : Int) - 1 = Int32.ofInt (dn l.length) := by rw [oi_subl]; rfl
    rw [e0]
    refine lpd (d := 4) (m := 209) (k := 47) (fun i => [.ref m, .int (Int32.ofInt (sl : Int)), .int (bI last), .int (Int32.ofInt (dn i)), pm_U]) (fun i τ => i ≤ l.length ∧ X3 m σ τ ∧ mRow τ m i (bestW T last (l.drop i))) ?_ ?_ l.length τ ⟨Nat.le_refl _, i1, ?_⟩
    · rintro i τ1 ⟨j0, j1, j2⟩ next
      have hr := List.getElem?_eq_getElem (show i < l.length by omega)
      generalize l[i] = s at hr
      have q6 : ¬ Int32.ofInt (i : Int) < 0 := by rw [oi_ltl ⟨by omega, by decide⟩]; omega
      have hdn : Int32.ofInt (i : Int) + (-1) = Int32.ofInt (dn i) := by rw [← dn_s, dn_m1]
      have oB := bestW_ok hT last (l.drop (i + 1))
      have hn : (l.drop (i + 1)).length < 10 := by rw [List.length_drop]; omega
      have xB : ∀ q, okX (bestW T last (l.drop (i + 1)) q) := fun q l' h' => by have := (oB q l' h').1; omega
      have eb : bestW T last (l.drop i) = stepB T.2 last s (bestW T last (l.drop (i + 1))) := by rw [drop_cons hr]; rfl
      rw [eb] at next
      generalize bestW T last (l.drop (i + 1)) = B at *
      generalize (l.drop (i + 1)).length = n at *
      rw [dn_s]
      refine w_M_transduce_47 ⟨fun z => absurd z q6, fun _ => ?_⟩
      refine lp (d := 4) (m := 209) (k := 51) (fun k => [.ref m, .int (Int32.ofInt (sl : Int)), .int (bI last), .int (Int32.ofInt (i : Int)), .int (Int32.ofInt (k : Nat))]) (fun k τ => X3 m σ τ ∧ mRow τ m (i + 1) B ∧ ∀ q, q < k → mEn τ m (12 * i + q) none) 12 ?_ ?_ 0 (Nat.zero_le _) τ1 ⟨j1, j2, fun q hq => absurd hq (Nat.not_lt_zero _)⟩
      · rintro k hk τ2 ⟨k1, k2, k3⟩ next2
        have hm2 := k1.mS hm
        have vk := vi (show 12 * i + k < 132 by omega) (by omega)
        have wk := vc (show 12 * i + k < 2000000 by omega)
        refine w_M_transduce_51 ⟨fun qq => ?_, fun _ => ?_⟩
        · rw [i32_12 (by omega)] at qq; omega
        · simp only [hm2.1, hm2.f17, hm2.t17, hm2.l17, isr_ref, rv_ref, oi_row12, vk, wk, true_and, forall_eq, oi_s]
          refine next2 _ ⟨k1.tr (X3_sA (by omega) (by omega)), fun q hq => mEn_sA (k2 q hq) (xB q) (by omega), fun q hq => ?_⟩
          by_cases e : q = k
          · subst e; exact ⟨fun _ => by rw [A_sA, if_pos ⟨rfl, rfl⟩]; rfl, fun l' z => by cases z⟩
          · exact mEn_sA (k3 q (by omega)) (fun l' z => by cases z) (by omega)
      · rintro τ2 ⟨k1, k2, k3⟩
        refine w_M_transduce_51 ⟨fun _ => ?_, fun qq => absurd (Int32.le_refl _) qq⟩
        refine lp (d := 4) (m := 209) (k := 67) (fun k => [.ref m, .int (Int32.ofInt (sl : Int)), .int (bI last), .int (Int32.ofInt (i : Int)), .int (Int32.ofInt (k : Nat))]) (fun k τ => X3 m σ τ ∧ mRow τ m (i + 1) B ∧ mRow τ m i ((T.2.take k).foldl (addB B s last) (fun _ => none))) T.2.length ?_ ?_ 0 (Nat.zero_le _) τ2 ⟨k1, k2, fun q hq => k3 q hq⟩
        · rintro k hk τ3 ⟨l1, l2, l3⟩ next3
          have hm3 := l1.mS hm
          have hw3 := mWo_X hw l1 (fun q => q) (by omega)
          have h3 := frX.T l1 h hT (fun q => q)
          have hrk := List.getElem?_eq_getElem hk
          generalize T.2[k] = r at hrk
          have ok := hT.at hrk
          have q7 : ¬ Int32.ofInt (T.2.length : Int) ≤ Int32.ofInt (k : Nat) := by rw [oi_le (by omega)]; omega
          have oE : okB (n + 1) ((T.2.take k).foldl (addB B s last) (fun _ => none)) := foldB_ok oB _ (fun r hr => hT.2 r (mem_take hr)) _ (fun q l hl => by cases hl)
          refine w_M_transduce_67 ?_
          simp only [hm3.1, hm3.f2, hm3.t2, hm3.l2, isr_ref, rv_ref, vs, ws, h3.2.1, q7, not_false_eq_true, false_implies, true_implies, oi_row, true_and, forall_eq]
          refine (s_M_tries hm3 (h3.2.2.2 k r hrk) (by omega) ok hw3 hr (hlw s (List.mem_of_getElem? hr)) l2 l3 oB oE hn).use (by omega) (fun σ' ⟨r1, r2, r3⟩ => ?_)
          rw [oi_s]
          refine next3 σ' ⟨l1.tr r3, r1, ?_⟩
          rw [foldl_take hrk]; exact r2
        · rintro τ3 ⟨l1, l2, l3⟩
          have hm3 := l1.mS hm
          have h3 := frX.T l1 h hT (fun q => q)
          have q7 : Int32.ofInt (T.2.length : Int) ≤ Int32.ofInt (T.2.length : Int) := Int32.le_refl _
          rw [take_len] at l3
          refine w_M_transduce_67 ?_
          simp only [hm3.1, hm3.f2, hm3.t2, hm3.l2, isr_ref, rv_ref, vs, ws, h3.2.1, q7, not_true_eq_false, false_implies, true_implies, true_and, and_true, forall_eq, hdn]
          exact next τ3 ⟨by omega, l1, l3⟩
    · rintro τ1 ⟨j0, j1, j2⟩
      rw [List.drop_zero] at j2
      have oB := bestW_ok hT last l
      exact s_M_trans_95 (j1.mS hm) j1 (j2 0 (by omega)) (fun r hr => by have := (oB 0 r hr).1; omega) hQ0 hQ1
    · rw [List.drop_length]; exact i2
