/-! ===== the model: a rule is tried ===== -/
def mRow (σ : pm_H) (m i : Nat) (E : Nat → Option (List Nat)) : Prop := ∀ q, q < 12 → mEn σ m (12 * i + q) (E q)
def okX (x : Option (List Nat)) : Prop := ∀ l, x = some l → l.length ≤ 60
theorem mEn_sA {σ : pm_H} {m ix a j : Nat} {v : Value} {x : Option (List Nat)} (h : mEn σ m ix x) (hx : okX x) (hd : (a ≠ m + 16 ∧ a ≠ m + 17) ∨ (a = m + 17 ∧ j ≠ ix) ∨ (a = m + 16 ∧ (j < 60 * ix ∨ 60 * ix + 60 ≤ j))) : mEn (pm_sA σ a j v) m ix x := by
  refine ⟨fun e => ?_, fun l e => ⟨?_, fun k s hk => ?_⟩⟩
  · rw [A_sA, if_neg (by omega)]; exact h.1 e
  · rw [A_sA, if_neg (by omega)]; exact (h.2 l e).1
  · have := (List.getElem?_eq_some_iff.mp hk).1
    have := hx l e
    rw [A_sA, if_neg (by omega)]; exact (h.2 l e).2 k s hk
def X3 (m : Nat) (σ σ' : pm_H) : Prop := frX m (fun _ => False) (fun i => 16 ≤ i ∧ i ≤ 18) (fun _ => False) σ σ'
theorem X3_sA {m i k : Nat} {v : Value} {σ : pm_H} (h1 : 16 ≤ i) (h2 : i ≤ 18) : X3 m σ (pm_sA σ (m + i) k v) := (frX_sA (by omega) (by omega)).mono (fun _ q => q) (fun _ q => by omega) (fun _ q => q)
theorem X3.mS {m : Nat} {σ σ' : pm_H} (h : X3 m σ σ') (hm : mS σ m) : mS σ' m := frX.mS h hm (fun _ q => q.elim)
theorem X3.Ru {m j : Nat} {σ σ' : pm_H} {r : Rl} (h : X3 m σ σ') (hr : mRu σ m j r) (hl : (rTs r).length ≤ 6) : mRu σ' m j r := by
  have e := h.2.2.2.2.2 (j / 40) (fun q => q)
  exact mRu_eq hr hl (e.2.2 j (by omega) (by omega))
theorem mTri_app {σ : pm_H} {m : Nat} {c : List Nat} {s : Nat} (h : mTri σ m c) : mTri (pm_sA σ (m + 18) c.length (.int (Int32.ofInt (s : Int)))) m (c ++ [s]) := by
  intro k t hk
  rw [A_sA]
  rcases getElem?_app1 hk with q | ⟨rfl, rfl⟩
  · have := (List.getElem?_eq_some_iff.mp q).1
    rw [if_neg (by omega)]; exact h k t q
  · rw [if_pos ⟨rfl, rfl⟩]; rfl
theorem s_M_tries_96 {σ τ0 : pm_H} {m ix : Nat} {c : List Nat} {Q : pm_O → pm_H → Prop} (hm : mS τ0 m) (hc : mTri τ0 m c) (hl : c.length ≤ 60) (hix : ix < 132) (hf : X3 m σ τ0) (hs : iv (pm_A τ0 (m + 17) ix) = Int32.ofInt (c.length : Int)) (hQ : ∀ τ, X3 m σ τ → mEn τ m ix (some c) → (∀ ix' x, ix' ≠ ix → okX x → mEn τ0 m ix' x → mEn τ m ix' x) → Q (.inl none) τ) {d : Nat} : pm_R (d + 1) 208 96 [.ref m, pm_U, pm_U, pm_U, pm_U, .int (Int32.ofInt (ix : Int)), .int (Int32.ofInt (c.length : Int)), .int ((0 : Int32))] [] τ0 Q := by
  refine lp (d := d + 1) (m := 208) (k := 96) (fun k => [.ref m, pm_U, pm_U, pm_U, pm_U, .int (Int32.ofInt (ix : Int)), .int (Int32.ofInt (c.length : Int)), .int (Int32.ofInt (k : Nat))]) (fun k τ => X3 m σ τ ∧ X3 m τ0 τ ∧ mTri τ m c ∧ iv (pm_A τ (m + 17) ix) = Int32.ofInt (c.length : Int) ∧ (∀ k' s, k' < k → c[k']? = some s → iv (pm_A τ (m + 16) (60 * ix + k')) = Int32.ofInt (s : Int)) ∧ ∀ ix' x, ix' ≠ ix → okX x → mEn τ0 m ix' x → mEn τ m ix' x) c.length ?_ ?_ 0 (Nat.zero_le _) τ0 ⟨hf, frX.rf, hc, hs, fun k' s hk => absurd hk (Nat.not_lt_zero _), fun _ _ _ _ h => h⟩
  · rintro k hk τ ⟨i1, i2, i3, i4, i5, i6⟩ next
    have hm' := i2.mS hm
    have hr := List.getElem?_eq_getElem hk
    generalize c[k] = s at hr
    have q6 : ¬ Int32.ofInt (c.length : Int) ≤ Int32.ofInt (k : Nat) := by rw [oi_le (by omega)]; omega
    have vk := vi (show k < 60 by omega) (by omega)
    have wk := vc (show k < 2000000 by omega)
    have vr := vi (show 60 * ix + k < 7920 by omega) (by omega)
    have wr := vc (show 60 * ix + k < 2000000 by omega)
    refine w_M_tries_96 ⟨fun q => absurd q q6, fun _ => ?_⟩
    simp only [hm'.1, hm'.f16, hm'.t16, hm'.l16, hm'.f18, hm'.t18, hm'.l18, isr_ref, rv_ref, oi_row60, vk, wk, vr, wr, i3 k s hr, true_and, forall_eq, oi_s]
    refine next _ ⟨i1.tr (X3_sA (by omega) (by omega)), i2.tr (X3_sA (by omega) (by omega)), fun k' s' h' => ?_, ?_, fun k' s' hk' h' => ?_, fun ix' x h1 h2 h3 => ?_⟩
    · rw [A_sA, if_neg (by omega)]; exact i3 k' s' h'
    · rw [A_sA, if_neg (by omega)]; exact i4
    · rw [A_sA]
      by_cases e : k' = k
      · subst e; rw [hr] at h'; cases h'; rw [if_pos ⟨rfl, rfl⟩]; rfl
      · rw [if_neg (by omega)]; exact i5 k' s' (by omega) h'
    · exact mEn_sA (i6 ix' x h1 h2 h3) h2 (by omega)
  · rintro τ ⟨i1, i2, i3, i4, i5, i6⟩
    refine w_M_tries_96 ⟨fun _ => hQ τ i1 ⟨(fun e => by cases e), fun l e => ?_⟩ i6, fun q => absurd (Int32.le_refl _) q⟩
    cases e
    exact ⟨i4, fun k s hk => i5 k s (List.getElem?_eq_some_iff.mp hk).1 hk⟩
theorem s_M_tries {σ : pm_H} {m j i s n : Nat} {r : Rl} {l : List Nat} {B E : Nat → Option (List Nat)} {last : Bool} (hm : mS σ m) (hr : mRu σ m j r) (hj : j < 520) (ok : okR r) (hw : mWo σ m l) (hi : l[i]? = some s) (hs : s < 100) (hB : mRow σ m (i + 1) B) (hE : mRow σ m i E) (oB : okB n B) (oE : okB (n + 1) E) (hn : n < 10) : cV 3 208 [.ref m, .int (Int32.ofInt (j : Int)), .int (Int32.ofInt (i : Int)), .int (bI last)] σ (fun σ' => mRow σ' m (i + 1) B ∧ mRow σ' m i (addB B s last E r) ∧ X3 m σ σ') := by
  have hl10 := hw.2.1
  have hil := (List.getElem?_eq_some_iff.mp hi).1
  have xB : ∀ q, okX (B q) := fun q l h => by have := (oB q l h).1; omega
  have xE : ∀ q, okX (E q) := fun q l h => by have := (oE q l h).1; omega
  have vj := vi hj (by omega)
  have wj := vc (show j < 2000000 by omega)
  have ht := ok.2.1
  have hf := ok.1
  have vi' := vi (show i < 10 by omega) (by omega)
  have wi := vc (show i < 2000000 by omega)
  have va := vi (show 12 * (i + 1) + rT r < 132 by omega) (by omega)
  have wa := vc (show 12 * (i + 1) + rT r < 2000000 by omega)
  have hbt := hB _ ht
  refine w_M_tries_0 ?_
  simp only [hm.1, hm.f4, hm.t4, hm.l4, hm.f3, hm.t3, hm.l3, hm.f17, hm.t17, hm.l17, hm.f12, hm.t12, hm.l12, isr_ref, rv_ref, vj, wj, hr.1, hr.2.1, oi_s, oi_row12, va, wa, vi', wi, hw.2.2 i s hi, true_and, forall_eq]
  cases h0 : B (rT r) with
  | none =>
    rw [h0] at hbt
    rw [hbt.1 rfl, addB_n h0]
    exact ⟨fun _ => ⟨hB, hE, frX.rf⟩, fun z => absurd (by decide) z⟩
  | some l0 =>
    rw [h0] at hbt
    obtain ⟨s1, s2⟩ := hbt.2 l0 rfl
    have ol := oB _ _ h0
    rw [s1]
    refine ⟨fun z => ?_, fun _ => ?_⟩
    · rw [oi_ltl ⟨by omega, by decide⟩] at z; omega
    refine (s_M_enables hm hr hj ok.2.2.2 hs).use (by omega) ⟨fun e => ?_, fun e => ?_⟩
    · rw [addB_e (bI_0.mp e)]
      exact ⟨hB, hE, frX.rf⟩
    have he := bI_1.mp e
    have hc := cand_ok oB ok he h0
    have ho := outW_ok ok he
    have hlo : (outW r s).length = (rTs r).length := by unfold outW; rw [List.length_map]
    have hl6 := ok.2.2.2.1
    refine lp (d := 3) (m := 208) (k := 38) (fun k => [.ref m, .int (Int32.ofInt (j : Int)), .int (Int32.ofInt (i : Int)), .int (bI last), .int (Int32.ofInt ((12 * (i + 1) + rT r : Nat) : Int)), .int (Int32.ofInt ((12 * i + rF r : Nat) : Int)), .int (Int32.ofInt (k : Nat)), .int (Int32.ofInt (k : Nat))]) (fun k τ => mTri τ m ((outW r s).take k) ∧ X3 m σ τ ∧ ∀ ix x, okX x → mEn σ m ix x → mEn τ m ix x) (rTs r).length ?_ ?_ 0 (Nat.zero_le _) σ ⟨fun k s hk => by simp at hk, frX.rf, fun _ _ _ h => h⟩
    · rintro k hk τ ⟨i1, i2, i3⟩ next
      have hm' := i2.mS hm
      have hr' := i2.Ru hr hl6
      have hw' := mWo_X hw i2 (fun q => q) (by omega)
      have hk' := List.getElem?_eq_getElem hk
      generalize (rTs r)[k] = t at hk'
      have hv := en_val he hk'
      have hok : (outW r s)[k]? = some (val t s).toNat := by unfold outW; rw [List.getElem?_map, hk']; rfl
      have q6 : ¬ Int32.ofInt ((rTs r).length : Int) ≤ Int32.ofInt (k : Nat) := by rw [oi_le (by omega)]; omega
      have vk := vi (show k < 60 by omega) (by omega)
      have wk := vc (show k < 2000000 by omega)
      have ev : Int32.ofInt (val t s) = Int32.ofInt (((val t s).toNat : Nat) : Int) := by congr 1; omega
      refine w_M_tries_38 ?_
      simp only [hm'.1, hm'.f7, hm'.t7, hm'.l7, hm'.f18, hm'.f12, hm'.t12, hm'.l12, isr_ref, rv_ref, vj, wj, hr'.2.2.2.2.1, q6, not_false_eq_true, false_implies, true_implies, vi', wi, hw'.2.2 i s hi, true_and, forall_eq]
      refine (s_M_value hm' hr' hj hl6 hk').use (by omega) ?_
      simp only [hm'.t18, hm'.l18, vk, wk, true_and, forall_eq, oi_s, ev]
      refine next _ ⟨?_, i2.tr (X3_sA (by omega) (by omega)), fun ix x h1 h2 => mEn_sA (i3 ix x h1 h2) h1 (by omega)⟩
      have := mTri_app (s := (val t s).toNat) i1
      rw [List.length_take, Nat.min_eq_left (by omega)] at this
      rw [List.take_add_one, hok, Option.toList_some]
      exact this
    · rintro τ ⟨i1, i2, i3⟩
      have hm' := i2.mS hm
      have hr' := i2.Ru hr hl6
      have q6 : Int32.ofInt ((rTs r).length : Int) ≤ Int32.ofInt ((rTs r).length : Int) := Int32.le_refl _
      refine w_M_tries_38 ?_
      simp only [hm'.1, hm'.f7, hm'.t7, hm'.l7, isr_ref, rv_ref, vj, wj, hr'.2.2.2.2.1, q6, not_true_eq_false, false_implies, true_implies, true_and, and_true, forall_eq]
      rw [← hlo, List.take_length] at i1
      rw [← hlo]
      refine lp (d := 3) (m := 208) (k := 61) (fun k => [.ref m, pm_U, pm_U, .int (bI last), .int (Int32.ofInt ((12 * (i + 1) + rT r : Nat) : Int)), .int (Int32.ofInt ((12 * i + rF r : Nat) : Int)), .int (Int32.ofInt (((outW r s).length + k : Nat) : Int)), .int (Int32.ofInt (k : Nat))]) (fun k τ => mTri τ m (outW r s ++ l0.take k) ∧ X3 m σ τ ∧ ∀ ix x, okX x → mEn σ m ix x → mEn τ m ix x) l0.length ?_ ?_ 0 (Nat.zero_le _) τ ⟨by simpa using i1, i2, i3⟩
      · rintro k hk τ1 ⟨j1, j2, j3⟩ next
        have hm1 := j2.mS hm
        have hk' := List.getElem?_eq_getElem hk
        generalize l0[k] = t at hk'
        obtain ⟨y1, y2⟩ := (j3 _ _ (h0 ▸ xB (rT r)) hbt).2 l0 rfl
        have q6 : ¬ Int32.ofInt (l0.length : Int) ≤ Int32.ofInt (k : Nat) := by rw [oi_le (by omega)]; omega
        have hlen : (outW r s).length + l0.length ≤ 60 := by have := hc.1; rw [List.length_append] at this; omega
        have vk := vi (show (outW r s).length + k < 60 by omega) (by omega)
        have wk := vc (show (outW r s).length + k < 2000000 by omega)
        have vr := vi (show 60 * (12 * (i + 1) + rT r) + k < 7920 by omega) (by omega)
        have wr := vc (show 60 * (12 * (i + 1) + rT r) + k < 2000000 by omega)
        refine w_M_tries_61 ?_
        simp only [hm1.1, hm1.f17, hm1.t17, hm1.l17, hm1.f18, hm1.t18, hm1.l18, hm1.f16, hm1.t16, hm1.l16, isr_ref, rv_ref, va, wa, y1, q6, not_false_eq_true, false_implies, true_implies, oi_row60, vr, wr, y2 k t hk', vk, wk, true_and, forall_eq, oi_s]
        refine next _ ⟨?_, j2.tr (X3_sA (by omega) (by omega)), fun ix x h1 h2 => mEn_sA (j3 ix x h1 h2) h1 (by omega)⟩
        have := mTri_app (s := t) j1
        rw [List.length_append, List.length_take, Nat.min_eq_left (by omega)] at this
        rw [List.take_add_one, hk', Option.toList_some, ← List.append_assoc]
        exact this
      · rintro τ1 ⟨j1, j2, j3⟩
        have hm1 := j2.mS hm
        obtain ⟨y1, y2⟩ := (j3 _ _ (h0 ▸ xB (rT r)) hbt).2 l0 rfl
        have q6 : Int32.ofInt (l0.length : Int) ≤ Int32.ofInt (l0.length : Int) := Int32.le_refl _
        rw [List.take_length] at j1
        have hlen : (outW r s).length + l0.length = (outW r s ++ l0).length := by rw [List.length_append]
        have hb1 : mRow τ1 m (i + 1) B := fun q hq => j3 _ _ (xB q) (hB q hq)
        have he1 : mRow τ1 m i E := fun q hq => j3 _ _ (xE q) (hE q hq)
        refine w_M_tries_61 ?_
        simp only [hm1.1, hm1.f17, hm1.t17, hm1.l17, isr_ref, rv_ref, va, wa, y1, q6, not_true_eq_false, false_implies, true_implies, true_and, and_true, forall_eq]
        rw [hlen]
        have hcl : (outW r s ++ l0).length ≤ 60 := by have := hc.1; omega
        refine (s_M_isBetter hm1 j1 (he1 _ hf) (by omega) hcl hc.2 (fun b hb => ⟨xE _ b hb, (oE _ b hb).2⟩)).use (by omega) ⟨fun e5 => ?_, fun e5 => ?_⟩
        · cases h1 : E (rF r) with
          | none => rw [h1] at e5; exact absurd (show (1 : Int32) = 0 from e5) (by decide)
          | some b =>
            rw [h1] at e5
            rw [addB_b h0 he h1, show better last (outW r s ++ l0) b = false from bI_0.mp e5]
            exact ⟨hb1, he1, j2⟩
        · have hadd : addB B s last E r = fun q => if q = rF r then some (outW r s ++ l0) else E q := by
            cases h1 : E (rF r) with
            | none => exact addB_s h0 he h1
            | some b =>
              rw [h1] at e5
              rw [addB_b h0 he h1, show better last (outW r s ++ l0) b = true from bI_1.mp e5]; rfl
          have vx := vi (show 12 * i + rF r < 132 by omega) (by omega)
          have wx := vc (show 12 * i + rF r < 2000000 by omega)
          simp only [hm1.1, hm1.f17, hm1.t17, hm1.l17, isr_ref, rv_ref, vx, wx, true_and, forall_eq]
          refine s_M_tries_96 (σ := σ) (mS_sA hm1) (fun k t hk => by rw [A_sA, if_neg (by omega)]; exact j1 k t hk) hcl (by omega) (j2.tr (X3_sA (by omega) (by omega))) (by rw [A_sA, if_pos ⟨rfl, rfl⟩]; rfl) (fun τ2 t1 t2 t3 => ⟨rfl, fun q hq => ?_, ?_, t1⟩)
          · exact t3 _ _ (by omega) (xB q) (mEn_sA (hb1 q hq) (xB q) (by omega))
          · rw [hadd]
            intro q hq
            dsimp only
            by_cases e : q = rF r
            · rw [if_pos e, e]; exact t2
            · rw [if_neg e]; exact t3 _ _ (by omega) (xE q) (mEn_sA (he1 q hq) (xE q) (by omega))
