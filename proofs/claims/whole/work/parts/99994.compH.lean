/-! ===== compose: the search of the model ===== -/
def chF (m : Nat) (σ σ' : pm_H) : Prop := frX m (fun f => f = 1240 ∨ f = 1241) (fun i => (1 ≤ i ∧ i ≤ 9) ∨ (30 ≤ i ∧ i ≤ 33)) (fun s => s = 4) σ σ'
theorem chF_mS {m : Nat} {σ σ' : pm_H} (h : chF m σ σ') (hm : mS σ m) : mS σ' m := frX.mS h hm (fun f hf => by rcases hf with e | e <;> (rw [e]; decide))
def chK (m D : Nat) (σ σ' : pm_H) : Prop := (∀ i, i < D → pm_A σ' (m + 32) i = pm_A σ (m + 32) i) ∧ ∀ i, i < 100 * (D + 1) → pm_A σ' (m + 33) i = pm_A σ (m + 33) i
theorem chK_rf {m D : Nat} {σ : pm_H} : chK m D σ σ := ⟨fun _ _ => rfl, fun _ _ => rfl⟩
theorem chK_tr {m D D' : Nat} {σ σ1 σ2 : pm_H} (h : chK m D σ σ1) (g : chK m D' σ1 σ2) (hD : D ≤ D') : chK m D σ σ2 :=
  ⟨fun i hi => (g.1 i (by omega)).trans (h.1 i hi), fun i hi => (g.2 i (by omega)).trans (h.2 i hi)⟩
theorem mcC_k {m sb : Nat} {σ σ' : pm_H} {B : Tr} {zs : List (Nat × Rl)} (h : mcC σ m sb B zs) (k : ∀ i, i < zs.length → pm_A σ' (m + 32) i = pm_A σ (m + 32) i) : mcC σ' m sb B zs := fun i c t hi => by
  rw [k i (List.getElem?_eq_some_iff.mp hi).1]; exact h i c t hi
theorem mxI_A {m i k S : Nat} {v : Value} {σ : pm_H} {st : CS} (h : mxI σ m S st) (hS : S < 4096) (hi : 32 ≤ i) (hi' : i ≤ 34) : mxI (pm_sA σ (m + i) k v) m S st :=
  ⟨h.1, mpP_X h.2.1 (frX_sA (m := m) (k := k) (v := v) (show 10 ≤ i by omega) hi') id ⟨by omega, by omega⟩, (frX_sA (m := m) (k := k) (v := v) (show 10 ≤ i by omega) hi').T h.2.2.1 ⟨hS, h.2.2.2⟩ id, h.2.2.2⟩
theorem mxI_X {m S : Nat} {Fs As Sl : Nat → Prop} {σ σ' : pm_H} {st : CS} (h : mxI σ m S st) (hS : S < 4096) (f : frX m Fs As Sl σ σ') (h1 : ¬ Fs 1240 ∧ ¬ Fs 1241) (h2 : ¬ As 30 ∧ ¬ As 31) (h3 : ¬ Sl 4) : mxI σ' m S st :=
  ⟨by rw [f.F h1.2]; exact h.1, mpP_X h.2.1 f h1.1 h2, f.T h.2.2.1 ⟨hS, h.2.2.2⟩ h3, h.2.2.2⟩
theorem s_M_chooses_o {σ : pm_H} {m : Nat} {x1 x2 x3 x4 x5 : Int32} (hm : mS σ m) (h : iv (pm_F σ 1241 m) = 1) : cV 1 237 [.ref m, .int x1, .int x2, .int x3, .int x4, .int x5] σ (fun σ' => σ' = σ) := by
  refine w_M_chooses_0 ⟨hm.1, fun z ez => ⟨fun q => ?_, fun _ => ⟨rfl, rfl⟩⟩⟩
  rw [ez, h] at q; exact absurd q (by decide)
def exM (m S D : Nat) (σ : pm_H) (o : Option CS) (σ' : pm_H) : Prop := mxS σ' m S o ∧ chF m σ σ' ∧ chK m D σ σ'
theorem s_M_chooses {m sa sb i n S : Nat} {r : Rl} {A B : Tr} (hA : okTr A) (hr : A.2[i]? = some r) (hsa : sa < 4) (hB : okTr B) (hsb : sb < 4) (hS : S < 4096) (hn : n < 12) : ∀ (cs : List Nat) (zs : List (Nat × Rl)) (q : Nat) (g F : Nat → Bool) (st : CS) (σ : pm_H), mS σ m → mTr σ m sa A → mTr σ m sb B → mxI σ m S st → (∀ k, k ≤ (rTs r).length → cF m B.2 r σ k) → mcC σ m sb B zs → (∀ s, s < 100 → iv (pm_A σ (m + 33) (100 * zs.length + s)) = bI (F s)) → (∀ s, s < 100 → F s = true → g s = true) → (∀ s, s < 100 → g s = true → opn B.2 (en r) cs q s = true → F s = true) → (∀ s, s < 100 → g s = true → en r s = true) → zs.map Prod.fst ++ cs = rTs r → okZ zs → q < 12 → cV (3 + cs.length) 237 [.ref m, .int (Int32.ofInt (n : Int)), .int (Int32.ofInt ((40 * sa + i : Nat) : Int)), .int (Int32.ofInt (sb : Int)), .int (Int32.ofInt (zs.length : Int)), .int (Int32.ofInt (q : Int))] σ (exM m S zs.length σ (ext B.2 r n cs zs q g st)) := by
  have ok := hA.at hr
  have l6 := ok.2.2.2.1
  intro cs
  induction cs with
  | nil =>
    intro zs q g F st σ hm ha hb hi hE hch hF hFg hgF hge hz hZ hq
    have zl := fst_len hz
    rw [List.append_nil] at hz
    replace zl : zs.length = (rTs r).length := zl
    have la := ha.2.2.1
    have hi' := (List.getElem?_eq_some_iff.mp hr).1
    have vR := vi (show 40 * sa + i < 520 by omega) (by omega)
    have wR := vc (show 40 * sa + i < 2000000 by omega)
    have r0 := ha.2.2.2 i r hr
    refine w_M_chooses_0 ?_
    simp only [hm.1, hi.1, hm.f7, hm.t7, hm.l7, isr_ref, rv_ref, vR, wR, r0.2.2.2.2.1, zl, not_true_eq_false, false_implies, true_implies, and_true, true_and, forall_eq]
    rw [zl] at hF
    have hFe : ∀ s, s < 100 → F s = g s := fun s hs => by
      cases e : g s with
      | true => exact hgF s hs e (hge s hs e)
      | false =>
        cases e2 : F s with
        | true => rw [hFg s hs e2] at e; cases e
        | false => rfl
    refine (s_M_joins hm ha hA hr hsa hb hB hsb hi hS hz hZ hch hF hFe hn hq).use (by omega) (fun σ' p => ⟨p.1, frX.mono p.2 (fun _ q => q) (fun i q => by omega) (fun _ q => q), fun i _ => p.2.A (by omega) (by omega), fun i _ => p.2.A (by omega) (by omega)⟩)
  | cons c cs ih =>
    intro zs q g F st σ hm ha hb hi hE hch hF hFg hgF hge hz hZ hq
    have zl := fst_len hz
    rw [List.length_cons] at zl
    obtain ⟨hc1, hc2⟩ := fst_at hz
    have okc := ok.2.2.2.2 c (List.mem_of_getElem? hc1)
    have la := ha.2.2.1
    have lb := hb.2.2.1
    have hi' := (List.getElem?_eq_some_iff.mp hr).1
    have vR := vi (show 40 * sa + i < 520 by omega) (by omega)
    have wR := vc (show 40 * sa + i < 2000000 by omega)
    have vs := vi (show sb < 13 by omega) (by omega)
    have ws := vc (show sb < 2000000 by omega)
    have r0 := ha.2.2.2 i r hr
    generalize hD : zs.length = D at *
    have q6 : ¬ Int32.ofInt (D : Int) = Int32.ofInt ((rTs r).length : Int) := by rw [oi_eq (by omega)]; omega
    have vD := vi (show D < 6 by omega) (by omega)
    have wD := vc (show D < 2000000 by omega)
    have hE1 := hE (D + 1) (by omega)
    unfold cF at hE1
    rw [hc2] at hE1
    rw [show 3 + (c :: cs).length = (3 + cs.length) + 1 from rfl, ext_c]
    refine w_M_chooses_0 ?_
    simp only [hm.1, hi.1, hm.f7, hm.t7, hm.l7, isr_ref, rv_ref, vR, wR, r0.2.2.2.2.1, q6, not_false_eq_true, not_true_eq_false, false_implies, true_implies, and_true, true_and, forall_eq]
    refine lp (fun j => [.ref m, .int (Int32.ofInt (n : Int)), .int (Int32.ofInt ((40 * sa + i : Nat) : Int)), .int (Int32.ofInt (sb : Int)), .int (Int32.ofInt (D : Int)), .int (Int32.ofInt (q : Int)), .int (Int32.ofInt (j : Nat)), pm_U, pm_U, pm_U, pm_U]) (fun j τ => exM m S D σ ((B.2.take j).foldl (extF B.2 r n c cs zs q g) (some st)) τ) B.2.length (fun j hj τ hh next => ?_) (fun τ hh => ?_) 0 (Nat.zero_le _) σ ⟨hi, frX.rf, chK_rf⟩
    · obtain ⟨hs, f, hk⟩ := hh
      have mt := chF_mS f hm
      have bt := frX.T f hb hB (by omega)
      have at_ := frX.T f ha hA (by omega)
      have rk := at_.2.2.2 i r hr
      have q7 : ¬ Int32.ofInt (B.2.length : Int) ≤ Int32.ofInt (j : Nat) := by rw [oi_le (by omega)]; omega
      have ht := List.getElem?_eq_getElem hj
      generalize B.2[j] = t at ht
      have okt := hB.at ht
      have tt := bt.2.2.2 j t ht
      have es := fold_s (extF B.2 r n c cs zs q g) (some st) ht
      have vJ := vi (show 40 * sb + j < 520 by omega) (by omega)
      have wJ := vc (show 40 * sb + j < 2000000 by omega)
      generalize ho : (B.2.take j).foldl (extF B.2 r n c cs zs q g) (some st) = o at hs es
      have ft2 := okt.1
      refine w_M_chooses_18 ?_
      simp only [mt.1, mt.f2, mt.t2, mt.l2, mt.f3, mt.t3, mt.l3, isr_ref, rv_ref, vs, ws, bt.2.1, q7, oi_row, vJ, wJ, tt.1, not_false_eq_true, false_implies, true_implies, true_and, forall_eq, oi_s]
      rw [oi_eq (by omega)]
      refine ⟨fun eq => ?_, fun ne => next τ ⟨?_, f, hk⟩⟩
      rotate_left
      · cases o with
        | none => rw [es]; exact hs
        | some s1 =>
          have es' : (B.2.take (j + 1)).foldl (extF B.2 r n c cs zs q g) (some st) = some s1 := by
            rw [es]; exact if_neg (fun h => ne (by rw [h.1]))
          rw [es']; exact hs
      have eq' : rF t = q := by omega
      have toT := okt.2.1
      -- which symbols may follow
      have loop : ∀ (Q : pm_O → pm_H → Prop), (∀ τ2, frX m (fun _ => False) (fun i => i = 33) (fun _ => False) τ τ2 → (∀ x, x < 100 * (D + 1) → pm_A τ2 (m + 33) x = pm_A τ (m + 33) x) → (∀ s, s < 100 → iv (pm_A τ2 (m + 33) (100 * (D + 1) + s)) = bI (F s && cE B.2 (en r) cs (rT t) s && tk c t s)) → pm_R (3 + cs.length + 1) 237 41 [.ref m, .int (Int32.ofInt (n : Int)), .int (Int32.ofInt ((40 * sa + i : Nat) : Int)), .int (Int32.ofInt (sb : Int)), .int (Int32.ofInt (D : Int)), .int (Int32.ofInt (q : Int)), .int (Int32.ofInt (j : Nat)), .int (Int32.ofInt ((40 * sb + j : Nat) : Int)), .int (bI (hits (fun s => F s && cE B.2 (en r) cs (rT t) s && tk c t s))), .int (Int32.ofInt ((100 : Nat) : Int)), pm_U] [] τ2 Q) → pm_R (3 + cs.length + 1) 237 41 [.ref m, .int (Int32.ofInt (n : Int)), .int (Int32.ofInt ((40 * sa + i : Nat) : Int)), .int (Int32.ofInt (sb : Int)), .int (Int32.ofInt (D : Int)), .int (Int32.ofInt (q : Int)), .int (Int32.ofInt (j : Nat)), .int (Int32.ofInt ((40 * sb + j : Nat) : Int)), .int ((0 : Int32)), .int ((0 : Int32)), pm_U] [] τ Q := by
        intro Q done
        refine lp (fun s => [.ref m, .int (Int32.ofInt (n : Int)), .int (Int32.ofInt ((40 * sa + i : Nat) : Int)), .int (Int32.ofInt (sb : Int)), .int (Int32.ofInt (D : Int)), .int (Int32.ofInt (q : Int)), .int (Int32.ofInt (j : Nat)), .int (Int32.ofInt ((40 * sb + j : Nat) : Int)), .int (bI ((List.range s).any (fun s => F s && cE B.2 (en r) cs (rT t) s && tk c t s))), .int (Int32.ofInt (s : Nat)), pm_U]) (fun s τ2 => frX m (fun _ => False) (fun i => i = 33) (fun _ => False) τ τ2 ∧ (∀ x, x < 100 * (D + 1) → pm_A τ2 (m + 33) x = pm_A τ (m + 33) x) ∧ ∀ s', s' < s → iv (pm_A τ2 (m + 33) (100 * (D + 1) + s')) = bI (F s' && cE B.2 (en r) cs (rT t) s' && tk c t s')) 100 (fun s hs τ2 hh next2 => ?_) (fun τ2 hh => done τ2 hh.1 hh.2.1 hh.2.2) 0 (Nat.zero_le _) τ ⟨frX.rf, fun _ _ => rfl, fun s' hs' => absurd hs' (Nat.not_lt_zero _)⟩
        obtain ⟨j1, j2, j3⟩ := hh
        have m2 := frX.mS j1 mt (fun _ q => q.elim)
        have rk2 := (frX.T j1 at_ hA id).2.2.2 i r hr
        have tt2 := (frX.T j1 bt hB id).2.2.2 j t ht
        have vf := vi (show 100 * D + s < 700 by omega) (by omega)
        have wf := vc (show 100 * D + s < 2000000 by omega)
        have vg := vi (show 100 * (D + 1) + s < 700 by omega) (by omega)
        have wg := vc (show 100 * (D + 1) + s < 2000000 by omega)
        have af : iv (pm_A τ2 (m + 33) (100 * D + s)) = bI (F s) := by
          rw [j2 _ (by omega), hk.2 _ (by omega)]; exact hF s hs
        have key : ∀ xs : Int32, xs = bI (F s && cE B.2 (en r) cs (rT t) s && tk c t s) → pm_R (3 + cs.length + 1) 237 78 [.ref m, .int (Int32.ofInt (n : Int)), .int (Int32.ofInt ((40 * sa + i : Nat) : Int)), .int (Int32.ofInt (sb : Int)), .int (Int32.ofInt (D : Int)), .int (Int32.ofInt (q : Int)), .int (Int32.ofInt (j : Nat)), .int (Int32.ofInt ((40 * sb + j : Nat) : Int)), .int (bI ((List.range s).any (fun s => F s && cE B.2 (en r) cs (rT t) s && tk c t s))), .int (Int32.ofInt (s : Nat)), pm_U] [.int xs] τ2 Q := by
          intro xs hx
          subst hx
          refine w_M_chooses_78 ?_
          simp only [m2.1, m2.f33, m2.t33, m2.l33, isr_ref, rv_ref, oi_s, oi_100, vg, wg, vp_nb, true_and, forall_eq]
          have nx : pm_R (3 + cs.length + 1) 237 41 [.ref m, .int (Int32.ofInt (n : Int)), .int (Int32.ofInt ((40 * sa + i : Nat) : Int)), .int (Int32.ofInt (sb : Int)), .int (Int32.ofInt (D : Int)), .int (Int32.ofInt (q : Int)), .int (Int32.ofInt (j : Nat)), .int (Int32.ofInt ((40 * sb + j : Nat) : Int)), .int (bI ((List.range (s + 1)).any (fun s => F s && cE B.2 (en r) cs (rT t) s && tk c t s))), .int (Int32.ofInt ((s + 1 : Nat) : Int)), pm_U] [] (pm_sA τ2 (m + 33) (100 * (D + 1) + s) (.int (bI (F s && cE B.2 (en r) cs (rT t) s && tk c t s)))) Q := by
            refine next2 _ ⟨frX.tr j1 (frX_sA (by omega) (by omega)), fun x hx => by rw [A_sA, if_neg (by omega)]; exact j2 x hx, fun s' hs' => ?_⟩
            rw [A_sA]
            by_cases cs' : s' = s
            · rw [if_pos ⟨rfl, by rw [cs']⟩, cs']; rfl
            · rw [if_neg (by omega)]; exact j3 s' (by omega)
          rw [any_range_s] at nx
          generalize (F s && cE B.2 (en r) cs (rT t) s && tk c t s) = b1 at *
          generalize (List.range s).any (fun s => F s && cE B.2 (en r) cs (rT t) s && tk c t s) = b0 at *
          cases b0
          · cases b1
            · exact ⟨fun _ => ⟨fun _ => nx, fun q => absurd rfl q⟩, fun q => absurd rfl q⟩
            · exact ⟨fun _ => ⟨fun q => absurd q (by decide), fun _ => nx⟩, fun q => absurd rfl q⟩
          · exact ⟨fun q => absurd q (by decide), fun _ => nx⟩
        have vT := vi (show 100 * (12 * (D + 1) + rT t) + s < 8400 by omega) (by omega)
        have wT := vc (show 100 * (12 * (D + 1) + rT t) + s < 2000000 by omega)
        have cTo : iv (pm_A τ2 (m + 34) (100 * (12 * (D + 1) + rT t) + s)) = bI (cE B.2 (en r) cs (rT t) s) := by
          rw [j1.A (by omega) (by omega), f.A (by omega) (by omega)]; exact hE1 (rT t) s toT hs
        refine w_M_chooses_41 ⟨fun q => ?_, fun _ => ?_⟩
        · rw [i32_100 (by omega)] at q; omega
        simp only [m2.1, m2.f33, m2.t33, m2.l33, m2.f34, m2.t34, m2.l34, m2.f4, m2.t4, m2.l4, isr_ref, rv_ref, oi_s, oi_100, vf, wf, af, vJ, wJ, tt2.2.1, true_and, forall_eq]
        rw [bI_0, Bool.not_eq_false]
        refine ⟨fun e => key 0 (by rw [e]; rfl), fun e => ?_⟩
        refine s_M_endAt.use (by omega) ?_
        simp only [m2.t34, m2.l34, vT, wT, cTo, true_and, forall_eq]
        rw [bI_0, Bool.not_eq_false]
        refine ⟨fun e2 => key 0 (by rw [e2, Bool.and_false]; rfl), fun e2 => ?_⟩
        have er := hge s hs (hFg s hs e)
        have ev := en_val er hc1
        refine ⟨m2.1, (s_M_value m2 rk2 (by omega) l6 hc1).use (by omega) ?_⟩
        obtain ⟨v, hv⟩ : ∃ v : Nat, val c s = (v : Int) := ⟨(val c s).toNat, by omega⟩
        have htk : tk c t s = en t v := by
          unfold tk
          rw [hv, decide_eq_true (by omega), Bool.true_and]; rfl
        rw [hv]
        refine ⟨m2.1, gI (s_M_enables m2 tt2 (by omega) okt.2.2.2 (show v < 100 by omega)) (by omega) (fun e3 => key 0 ?_) (fun e3 => key 1 ?_)⟩
        · rw [htk, e3, Bool.and_false]; rfl
        · rw [htk, e3, e, e2]; rfl
      refine loop _ (fun τ2 j1 j2 j3 => ?_)
      clear loop
      have m2 := frX.mS j1 mt (fun _ q => q.elim)
      have tt2 := (frX.T j1 bt hB id).2.2.2 j t ht
      have heq : hits (fun s => F s && cE B.2 (en r) cs (rT t) s && tk c t s) = hits (fun s => g s && tk c t s && opn B.2 (en r) cs (rT t) s) := by
        rw [Bool.eq_iff_iff, hits_iff, hits_iff]
        constructor
        · intro ⟨s, hs1, hs2⟩
          rw [Bool.and_eq_true, Bool.and_eq_true] at hs2
          have hg := hFg s hs1 hs2.1.1
          refine ⟨s, hs1, ?_⟩
          rw [hg, hs2.2, ← cE_opn cs (hge s hs1 hg), hs2.1.2]; rfl
        · intro ⟨s, hs1, hs2⟩
          rw [Bool.and_eq_true, Bool.and_eq_true] at hs2
          have he := hge s hs1 hs2.1.1
          refine ⟨s, hs1, ?_⟩
          have hop : opn B.2 (en r) (c :: cs) q s = true := by
            refine List.any_eq_true.mpr ⟨t, List.mem_of_getElem? ht, ?_⟩
            rw [decide_eq_true eq', hs2.1.2, hs2.2]; rfl
          rw [hgF s hs1 hs2.1.1 hop, cE_opn cs he, hs2.2, hs2.1.2]; rfl
      generalize hF' : (fun s => F s && cE B.2 (en r) cs (rT t) s && tk c t s) = F' at *
      have j3' : ∀ s, s < 100 → iv (pm_A τ2 (m + 33) (100 * (D + 1) + s)) = bI (F' s) := fun s hs => by rw [← hF']; exact j3 s hs
      refine w_M_chooses_41 ⟨fun _ => ?_, fun q => absurd (by decide) q⟩
      simp only [m2.1, m2.f32, m2.t32, m2.l32, isr_ref, rv_ref, vD, wD, true_and, forall_eq, oi_s]
      have f3 : frX m (fun _ => False) (fun i => i = 32) (fun _ => False) τ2 (pm_sA τ2 (m + 32) D (.int (Int32.ofInt ((40 * sb + j : Nat) : Int)))) := frX_sA (by omega) (by omega)
      have k3 : ∀ x, x ≠ D → pm_A (pm_sA τ2 (m + 32) D (.int (Int32.ofInt ((40 * sb + j : Nat) : Int)))) (m + 32) x = pm_A τ2 (m + 32) x := fun x hx => by rw [A_sA, if_neg (fun q => hx q.2)]
      have a3 : iv (pm_A (pm_sA τ2 (m + 32) D (.int (Int32.ofInt ((40 * sb + j : Nat) : Int)))) (m + 32) D) = Int32.ofInt ((40 * sb + j : Nat) : Int) := by rw [A_sA, if_pos ⟨rfl, rfl⟩]; rfl
      generalize pm_sA τ2 (m + 32) D (.int (Int32.ofInt ((40 * sb + j : Nat) : Int))) = τ3 at *
      have m3 := frX.mS f3 m2 (fun _ q => q.elim)
      have tt3 := (frX.T f3 (frX.T j1 bt hB id) hB id).2.2.2 j t ht
      have f23 : chF m τ τ3 := frX.tr (frX.mono j1 (fun _ q => q.elim) (fun i q => by omega) (fun _ q => q.elim)) (frX.mono f3 (fun _ q => q.elim) (fun i q => by omega) (fun _ q => q.elim))
      have k23 : chK m D τ τ3 := ⟨fun x hx => by rw [k3 x (by omega), j1.A (by omega) (by omega)], fun x hx => by rw [f3.A (by omega) (by omega)]; exact j2 x hx⟩
      have fs3 : chF m σ τ3 := frX.tr f f23
      have ks3 := chK_tr hk k23 (Nat.le_refl _)
      rw [bI_0, Bool.not_eq_false]
      cases o with
      | none =>
        have o3 : iv (pm_F τ3 1241 m) = 1 := by rw [f3.F id, j1.F id]; exact hs
        refine ⟨fun _ => next τ3 ⟨by rw [es]; exact o3, fs3, ks3⟩, fun _ => ?_⟩
        simp only [m3.1, m3.f4, m3.t4, m3.l4, isr_ref, rv_ref, vJ, wJ, tt3.2.1, true_and, forall_eq]
        refine (s_M_chooses_o m3 o3).use (by omega) (fun τ4 e4 => ?_)
        rw [e4]
        exact next τ3 ⟨by rw [es]; exact o3, fs3, ks3⟩
      | some s1 =>
        replace es : (B.2.take (j + 1)).foldl (extF B.2 r n c cs zs q g) (some st) = if rF t = q ∧ hits (fun s => g s && tk c t s && opn B.2 (en r) cs (rT t) s) = true then ext B.2 r n cs (zs ++ [(c, t)]) (rT t) (fun s => g s && tk c t s) s1 else some s1 := es
        have i3 : mxI τ3 m S s1 := mxI_X (mxI_X hs hS j1 ⟨id, id⟩ ⟨by omega, by omega⟩ id) hS f3 ⟨id, id⟩ ⟨by omega, by omega⟩ id
        refine ⟨fun e => next τ3 ⟨?_, fs3, ks3⟩, fun e => ?_⟩
        · rw [es, if_neg (fun h => by rw [← heq, e] at h; exact absurd h.2 (by decide))]; exact i3
        have hit := e
        rw [heq] at hit
        obtain ⟨s, hs1, hs2⟩ := hits_iff.mp hit
        rw [Bool.and_eq_true, Bool.and_eq_true] at hs2
        simp only [m3.1, m3.f4, m3.t4, m3.l4, isr_ref, rv_ref, vJ, wJ, tt3.2.1, true_and, forall_eq]
        have el : (zs ++ [(c, t)]).length = D + 1 := by rw [List.length_append, hD]; rfl
        have ch3 : mcC τ3 m sb B (zs ++ [(c, t)]) := fun i' c' t' h' => by
          by_cases ci : i' = D
          · subst ci
            rw [← hD, List.getElem?_append_right (Nat.le_refl _), Nat.sub_self] at h'
            cases h'
            exact ⟨j, a3, ht⟩
          · have li := (List.getElem?_eq_some_iff.mp h').1
            rw [el] at li
            rw [List.getElem?_append_left (by omega)] at h'
            obtain ⟨j', jj1, jj2⟩ := hch i' c' t' h'
            refine ⟨j', ?_, jj2⟩
            rw [ks3.1 i' (by omega)]; exact jj1
        have hrec := ih (zs ++ [(c, t)]) (rT t) (fun s => g s && tk c t s) F' s1 τ3 m3 (frX.T fs3 ha hA (by omega)) (frX.T fs3 hb hB (by omega)) i3 (fun k hk q' s' hq' hs' => by rw [fs3.A (by omega) (by omega)]; exact hE k hk q' s' hq' hs') ch3 (fun s' hs' => by rw [el, f3.A (by omega) (by omega)]; exact j3' s' hs') (fun s' hs' h' => by
          rw [← hF'] at h'
          rw [Bool.and_eq_true, Bool.and_eq_true] at h'
          show (g s' && tk c t s') = true
          rw [hFg s' hs' h'.1.1, h'.2]; rfl) (fun s' hs' h' ho' => by
          replace h' : (g s' && tk c t s') = true := h'
          rw [Bool.and_eq_true] at h'
          rw [← hF']
          show (F s' && cE B.2 (en r) cs (rT t) s' && tk c t s') = true
          have hop : opn B.2 (en r) (c :: cs) q s' = true := by
            refine List.any_eq_true.mpr ⟨t, List.mem_of_getElem? ht, ?_⟩
            rw [decide_eq_true eq', h'.2, ho']; rfl
          rw [hgF s' hs' h'.1 hop, cE_opn cs (hge s' hs' h'.1), ho', h'.2]; rfl) (fun s' hs' h' => by
          replace h' : (g s' && tk c t s') = true := h'
          rw [Bool.and_eq_true] at h'
          exact hge s' hs' h'.1) (fst_app hz) (okZ_app hZ okc okt hs1 hs2.1.2) okt.2.1
        rw [el] at hrec
        refine hrec.use (Nat.le_refl _) (fun τ5 p => next τ5 ⟨?_, frX.tr fs3 p.2.1, chK_tr ks3 p.2.2 (by omega)⟩)
        rw [es, if_pos ⟨eq', hit⟩]; exact p.1
    · obtain ⟨hs, f, hk⟩ := hh
      have mt := chF_mS f hm
      have bt := frX.T f hb hB (by omega)
      rw [List.take_length] at hs
      refine w_M_chooses_18 ?_
      simp only [mt.1, mt.f2, mt.t2, mt.l2, isr_ref, rv_ref, vs, ws, bt.2.1, true_and, forall_eq]
      exact ⟨fun _ => ⟨hs, f, hk⟩, fun q => absurd (Int32.le_refl _) q⟩
