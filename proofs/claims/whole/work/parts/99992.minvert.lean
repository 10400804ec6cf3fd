/-! ===== the model inverts ===== -/
theorem tv_neg {t : Nat} (h1 : 901 ≤ t) (h2 : t ≤ 1099) : -(tv t) = tv (2000 - t) := by
  unfold tv
  rw [if_neg (by omega), if_neg (by omega)]; omega
theorem i_m1ne : ¬ (1 : Int32) = 0 := by decide
theorem s_M_inv_68 {σ τ0 : pm_H} {m sl : Nat} {T : Tr} {Q : pm_O → pm_H → Prop} {tg : Nat} (hm : mS σ m) (ht : mTr σ m sl T) (hT : okTr T) (hsl : sl < 4) (hi : ∀ r, r ∈ T.2 → isInv r = true) (h0 : frM m (fun s => s = 4) σ τ0) (t0 : mTr τ0 m 4 (T.1, []))
    (hQ : ∀ τ, frM m (fun s => s = 4) σ τ → mTr τ m 4 (T.1, invs T.2) → pm_R 39 239 68 [.ref m, .int (Int32.ofInt (sl : Int)), .int (Int32.ofInt (tg : Int)), .int (Int32.ofInt (T.2.length : Int)), pm_U, pm_U, pm_U] [] τ Q) : pm_R 39 239 68 [.ref m, .int (Int32.ofInt (sl : Int)), .int (Int32.ofInt (tg : Int)), .int ((0 : Int32)), pm_U, pm_U, pm_U] [] τ0 Q := by
  have l40 := ht.2.2.1
  have vs := vi (show sl < 13 by omega) (by omega)
  have ws := vc (show sl < 2000000 by omega)
  refine lp (fun i => [.ref m, .int (Int32.ofInt (sl : Int)), .int (Int32.ofInt (tg : Int)), .int (Int32.ofInt (i : Nat)), pm_U, pm_U, pm_U]) (fun i τ => frM m (fun s => s = 4) σ τ ∧ mTr τ m 4 (T.1, invs (T.2.take i))) T.2.length (fun i hi' τ hh next => ?_) (fun τ hh => ?_) 0 (Nat.zero_le _) τ0 ⟨h0, t0⟩
  · obtain ⟨f, t4⟩ := hh
    have mt := f.mS hm
    have tt := f.mTr ht hT (by omega)
    have hr := List.getElem?_eq_getElem hi'
    generalize T.2[i] = r at hr
    have ok := hT.at hr
    have rk := tt.2.2.2 i r hr
    obtain ⟨t, et, ht100⟩ := isInv_iff.mp (hi r (List.mem_of_getElem? hr))
    have okt : okT t := ok.2.2.2.2 t (by rw [et]; simp)
    unfold okT at okt
    have q6 : ¬ Int32.ofInt (T.2.length : Int) ≤ Int32.ofInt (i : Nat) := by rw [oi_le (by omega)]; omega
    have ll := invs_len T.2 i
    have okI := invs_ok hT hi i
    have vr := vi (show 40 * sl + i < 520 by omega) (by omega)
    have wr := vc (show 40 * sl + i < 2000000 by omega)
    have es := invs_s hr
    refine w_M_invert_68 ?_
    simp only [mt.1, mt.f2, mt.t2, mt.l2, isr_ref, rv_ref, vs, ws, tt.2.1, q6, not_false_eq_true, false_implies, true_implies, oi_row, true_and, forall_eq, oi_s]
    refine (s_M_enabledMany mt rk (by omega) ok.2.2.2).use (by omega) ?_
    have ce : Int32.ofInt ((cnt (en r) 100 : Nat) : Int) = 0 ↔ ever r = false := by
      rw [← cnt_pos, z_eq0 (nrg (by have := cnt_le (en r) 100; omega)), n_le0 (by have := cnt_le (en r) 100; omega)]; omega
    rw [ce]
    refine ⟨fun e => ?_, fun e => ?_⟩
    · rw [e, if_neg (by decide)] at es
      exact next τ ⟨f, by rw [es]; exact t4⟩
    rw [Bool.not_eq_false] at e
    rw [e, if_pos rfl] at es
    simp only [mt.1, mt.f3, mt.t3, mt.l3, mt.f4, mt.t4, mt.l4, isr_ref, rv_ref, vr, wr, rk.1, rk.2.1, true_and, forall_eq]
    generalize hX : invs (T.2.take i) = X at *
    have nl : X.length < 40 := by omega
    have e4 : (4 : Int32) = Int32.ofInt ((4 : Nat) : Int) := rfl
    rw [e4]
    refine (s_M_opens (x := rF r) (y := rT r) mt t4 okI (by omega) nl).use (by omega) (fun τ1 p1 => ?_)
    dsimp only at p1
    have m1 := p1.2.mS mt
    have okI1 : okTr (T.1, X ++ [((rF r, rT r, 0, 0, []) : Rl)]) := ⟨hT.1, fun y hy => by
      rcases List.mem_append.mp hy with q | q
      · exact okI.2 y q
      · rw [List.mem_singleton.mp q]
        exact ⟨ok.1, ok.2.1, okG_0, by show 0 ≤ 6; omega, fun u hu => by cases hu⟩⟩
    have hk : (X ++ [((rF r, rT r, 0, 0, []) : Rl)])[X.length]? = some (rF r, rT r, 0, 0, []) := by simp
    have ru1 := p1.1.2.2.2 X.length _ hk
    have t1 := frM.mTr p1.2 tt hT (by omega)
    have rk1 := t1.2.2.2 i r hr
    refine lp_up (fun s (_ : Int64 × Int64) => [.ref m, .int (Int32.ofInt (sl : Int)), .int (Int32.ofInt (tg : Int)), .int (Int32.ofInt (i : Nat)), .int (Int32.ofInt ((40 * sl + i : Nat) : Int)), .int (Int32.ofInt ((40 * 4 + X.length : Nat) : Int)), .int (Int32.ofInt (s : Nat))]) (fun s x τ' => mRu τ' m (40 * 4 + X.length) (rG (rF r, rT r, 0, 0, []) x.1 x.2) ∧ frR m (40 * 4 + X.length) τ1 τ' ∧ okG x.2 ∧ ∀ u, u < 100 → sy x.1 x.2 u = (List.range s).any (fun v => en r v && decide (val t v = (u : Int)))) 100 (fun s hs x τ' hh next2 => ?_) (fun x τ' hh => ?_) 0 (Nat.zero_le _) (0, 0) τ1 ⟨ru1, frR.rf, okG_0, fun u hu => by rw [(sy_z okG_0).mp ⟨rfl, rfl⟩ u hu]; simp⟩
    · obtain ⟨j1, j2, j3, j4⟩ := hh
      have mt' := j2.mS m1
      have rk' : mRu τ' m (40 * sl + i) r := mRu_eq rk1 ok.2.2.2.1 (j2.2 _ (by omega))
      refine w_M_invert_99 ⟨fun q => ?_, fun _ => ⟨mt'.1, gI (s_M_enables mt' rk' (by omega) ok.2.2.2 hs) (by omega) (fun e => ?_) (fun e => ?_)⟩⟩
      · rw [i32_100 (by omega)] at q; omega
      · rw [oi_s]
        refine next2 x τ' ⟨j1, j2, j3, fun u hu => ?_⟩
        rw [j4 u hu, any_range_s, e, Bool.false_and, Bool.or_false]
      · have ev := en_val e (k := 0) (t := t) (by rw [et]; rfl)
        refine ⟨mt'.1, (s_M_value (k := 0) mt' rk' (by omega) ok.2.2.2.1 (by rw [et]; rfl)).use (by omega) ?_⟩
        obtain ⟨v, hv⟩ : ∃ v : Nat, val t s = (v : Int) := ⟨(val t s).toNat, by omega⟩
        rw [hv] at ev ⊢
        refine ⟨mt'.1, (s_M_adds mt' j1 (by omega) (show v < 100 by omega)).use (by omega) (fun τ2 p2 => ?_)⟩
        rw [oi_s]
        refine next2 (addLo x.1 v, addHi x.2 v) τ2 ⟨p2.1, j2.tr p2.2, okG_add j3 (by omega), fun u hu => ?_⟩
        rw [sy_add (by omega) hu, j4 u hu, any_range_s, e, Bool.true_and, hv]
        congr 1
        rw [decide_eq_decide]; omega
    · obtain ⟨j1, j2, j3, j4⟩ := hh
      have mt' := j2.mS m1
      have rk' : mRu τ' m (40 * sl + i) r := mRu_eq rk1 ok.2.2.2.1 (j2.2 _ (by omega))
      have tk : iv (pm_A τ' (m + 8) (6 * (40 * sl + i))) = Int32.ofInt (tv t) := (rk'.2.2.2.2.2 0 t (by rw [et]; rfl)).1
      have v6 := vi (show 6 * (40 * sl + i) < 3120 by omega) (by omega)
      have w6 := vc (show 6 * (40 * sl + i) < 2000000 by omega)
      have o6 : (6 : Int32) * Int32.ofInt ((40 * sl + i : Nat) : Int) = Int32.ofInt ((6 * (40 * sl + i) : Nat) : Int) := oi_lmul _ 6
      refine w_M_invert_99 ⟨fun _ => ?_, fun q => absurd (Int32.le_refl _) q⟩
      simp only [mt'.1, mt'.f8, mt'.t8, mt'.l8, isr_ref, rv_ref, o6, v6, w6, tk, true_and, forall_eq, oi_negs]
      refine (s_M_addsTerm (t := 2000 - t) (b := true) mt' j1 (by omega) (show 0 < 6 by decide) (tv_neg (by omega) (by omega)) (decide_eq_true (show 100 ≤ 2000 - t by omega)).symm).use (by omega) (fun τ2 p2 => ?_)
      have bits := mk_eq (p := outR r) j3 (fun s hs => by rw [j4 s hs, outR_1 et]; rfl)
      have er : rApp (rG (rF r, rT r, 0, 0, []) x.1 x.2) (2000 - t) = rInv r := by
        unfold rInv
        rw [bits.1, bits.2, et]
        rfl
      have t5 := mTr_upd p1.1 okI1 (k := X.length) (by simp) (j2.tr p2.2) p2.1
      rw [er] at t5
      dsimp only at t5
      rw [mid_set rfl] at t5
      rw [oi_s]
      refine next τ2 ⟨f.tr (p1.2.tr ((j2.tr p2.2).M (by omega) (by omega))), by rw [es]; exact t5⟩
  · obtain ⟨f, t4⟩ := hh
    rw [List.take_length] at t4
    exact hQ τ f t4
def firstBad (rs : List Rl) (k : Nat) : Prop := (∃ r, rs[k]? = some r ∧ isInv r = false) ∧ ∀ (j : Nat) (r : Rl), j < k → rs[j]? = some r → isInv r = true
theorem bad_ex {rs : List Rl} (h : ¬ ∀ r, r ∈ rs → isInv r = true) : ∃ k, firstBad rs k := by
  have : ∃ (k : Nat) (r : Rl), rs[k]? = some r ∧ isInv r = false := by
    apply Classical.byContradiction
    intro n
    refine h (fun r hr => ?_)
    obtain ⟨k, hk⟩ := List.mem_iff_getElem?.mp hr
    cases e : isInv r with
    | true => rfl
    | false => exact absurd ⟨k, r, hk, e⟩ n
  obtain ⟨k, r, hk, e⟩ := this
  obtain ⟨n, h1, h2, h3⟩ := least (p := fun k => match rs[k]? with | some r => !isInv r | none => false) k (by simp only [hk, e]; rfl)
  have hn : n < rs.length := by
    have := (List.getElem?_eq_some_iff.mp hk).1; omega
  have gn := List.getElem?_eq_getElem hn
  refine ⟨n, ⟨rs[n], gn, ?_⟩, fun j r hj hr => ?_⟩
  · replace h2 : (match rs[n]? with | some r => !isInv r | none => false) = true := h2
    rw [gn] at h2
    exact (Bool.not_eq_true' _).mp h2
  · have := h3 j hj
    replace this : (match rs[j]? with | some r => !isInv r | none => false) = false := this
    rw [hr] at this
    replace this : (!isInv r) = false := this
    cases q : isInv r with
    | true => rfl
    | false => rw [q] at this; cases this
theorem isInv_len {r : Rl} (h : (rTs r).length ≠ 1) : isInv r = false := by
  cases e : isInv r with
  | false => rfl
  | true => obtain ⟨t, h1, _⟩ := isInv_iff.mp e
            rw [h1] at h; exact absurd rfl h
theorem len_1 {r : Rl} (h : (rTs r).length = 1) : ∃ t, rTs r = [t] := List.length_eq_one_iff.mp h
theorem isInv_t {r : Rl} {t : Nat} (h : rTs r = [t]) : isInv r = decide (100 ≤ t) := by
  unfold isInv; rw [h]
/-- the model looks at the terms -/
theorem s_M_inv_18 {σ τ0 : pm_H} {m sl : Nat} {T : Tr} {Q : pm_O → pm_H → Prop} {tg : Nat} (hm : mS σ m) (ht : mTr σ m sl T) (hT : okTr T) (hsl : sl < 4) (h0 : frT m (fun _ => False) (fun _ => False) σ τ0) (z0 : iv (pm_F τ0 1200 m) = 0)
    (hQ : ∀ τ, frT m (fun _ => False) (fun _ => False) σ τ → iv (pm_F τ 1200 m) = (if T.2.all isInv then 0 else 2) → pm_R 39 239 18 [.ref m, .int (Int32.ofInt (sl : Int)), .int (Int32.ofInt (tg : Int)), .int (Int32.ofInt (T.2.length : Int)), pm_U, pm_U, pm_U] [] τ Q) : pm_R 39 239 18 [.ref m, .int (Int32.ofInt (sl : Int)), .int (Int32.ofInt (tg : Int)), .int ((0 : Int32)), pm_U, pm_U, pm_U] [] τ0 Q := by
  have l40 := ht.2.2.1
  have vs := vi (show sl < 13 by omega) (by omega)
  have ws := vc (show sl < 2000000 by omega)
  refine lp (fun i => [.ref m, .int (Int32.ofInt (sl : Int)), .int (Int32.ofInt (tg : Int)), .int (Int32.ofInt (i : Nat)), pm_U, pm_U, pm_U]) (fun i τ => frT m (fun _ => False) (fun _ => False) σ τ ∧ iv (pm_F τ 1200 m) = (if (T.2.take i).all isInv then 0 else 2)) T.2.length (fun i hi' τ hh next => ?_) (fun τ hh => ?_) 0 (Nat.zero_le _) τ0 ⟨h0, by simp [z0]⟩
  · obtain ⟨f, z⟩ := hh
    have mt := f.mS hm
    have tt := frX.T f ht hT id
    have hr := List.getElem?_eq_getElem hi'
    generalize T.2[i] = r at hr
    have ok := hT.at hr
    have l6 := ok.2.2.2.1
    have rk := tt.2.2.2 i r hr
    have q6 : ¬ Int32.ofInt (T.2.length : Int) ≤ Int32.ofInt (i : Nat) := by rw [oi_le (by omega)]; omega
    have vr := vi (show 40 * sl + i < 520 by omega) (by omega)
    have wr := vc (show 40 * sl + i < 2000000 by omega)
    have v6 := vi (show 6 * (40 * sl + i) < 3120 by omega) (by omega)
    have w6 := vc (show 6 * (40 * sl + i) < 2000000 by omega)
    have o6 : (6 : Int32) * Int32.ofInt ((40 * sl + i : Nat) : Int) = Int32.ofInt ((6 * (40 * sl + i) : Nat) : Int) := oi_lmul _ 6
    have all_s : (T.2.take (i + 1)).all isInv = ((T.2.take i).all isInv && isInv r) := by
      rw [List.take_add_one, hr]; simp
    have bad : isInv r = false → pm_R 39 239 18 [.ref m, .int (Int32.ofInt (sl : Int)), .int (Int32.ofInt (tg : Int)), .int (Int32.ofInt ((i + 1 : Nat) : Int)), pm_U, pm_U, pm_U] [] (pm_sF τ 1200 m (.int ((2 : Int32)))) Q := by
      intro e
      refine next _ ⟨frX.tr f frX_sF, ?_⟩
      rw [F_sF, if_pos ⟨rfl, rfl⟩, all_s, e, Bool.and_false]; rfl
    refine w_M_invert_18 ?_
    simp only [mt.1, mt.f2, mt.t2, mt.l2, mt.f7, mt.t7, mt.l7, isr_ref, rv_ref, vs, ws, tt.2.1, q6, not_false_eq_true, false_implies, true_implies, oi_row, vr, wr, rk.2.2.2.2.1, true_and, forall_eq, oi_s]
    rw [z_eq1 (nrg (by omega))]
    refine ⟨fun e => ?_, fun e => bad (isInv_len (by omega))⟩
    obtain ⟨t, et⟩ := len_1 (show (rTs r).length = 1 by omega)
    have ei := isInv_t et
    have tk : iv (pm_A τ (m + 9) (6 * (40 * sl + i))) = bI (isInv r) := by
      rw [ei]; exact (rk.2.2.2.2.2 0 t (by rw [et]; rfl)).2
    simp only [mt.1, mt.f9, mt.t9, mt.l9, isr_ref, rv_ref, o6, v6, w6, tk, bI_0, true_and, forall_eq]
    refine ⟨fun c => bad c, fun c => next τ ⟨f, ?_⟩⟩
    rw [Bool.not_eq_false] at c
    rw [all_s, c, Bool.and_true]; exact z
  · obtain ⟨f, z⟩ := hh
    rw [List.take_length] at z
    exact hQ τ f z
