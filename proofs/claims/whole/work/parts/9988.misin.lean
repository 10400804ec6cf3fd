/-! ===== the model: domains dwin one another ===== -/
theorem i32_d4096 {a : Nat} (ha : a < 100000) : Int32.ofInt (a : Int) / 4096 = Int32.ofInt ((a / 4096 : Nat) : Int) := by
  have := pk_div (a := a) (d := 4096) (by omega) (by omega) (by omega)
  rw [oi_nI, oi_nI, ← this]
  rfl
theorem oi_l4096 (p : Nat) : (4096 : Int32) * Int32.ofInt (p : Int) = Int32.ofInt ((4096 * p : Nat) : Int) := oi_lmul (p : Int) 4096
theorem nb_0 : vp_nar .boolean (0 : Int32) = 0 := vp_nb false
theorem nb_1 : vp_nar .boolean (1 : Int32) = 1 := vp_nb true
def XI (m : Nat) (σ σ' : pm_H) : Prop := frX m (fun f => f = 1234) (fun i => i = 19 ∨ i = 26 ∨ i = 29) (fun _ => False) σ σ'
theorem XI_tr {m : Nat} {σ σ1 σ2 : pm_H} (h : XI m σ σ1) (g : XI m σ1 σ2) : XI m σ σ2 := frX.tr h g
theorem XI_mS {m : Nat} {σ σ' : pm_H} (h : XI m σ σ') (hm : mS σ m) : mS σ' m := frX.mS h hm (fun f hf => by rw [hf]; decide)
theorem XI_sA {m i k : Nat} {v : Value} {σ : pm_H} (hi : i = 26 ∨ i = 29) : XI m σ (pm_sA σ (m + i) k v) := (frX_sA (by omega) (by omega)).mono (fun _ h => h.elim) (fun j h => by omega) (fun _ h => h)
theorem XI_sF {m : Nat} {v : Value} {σ : pm_H} : XI m σ (pm_sF σ 1234 m v) := frX_sF.mono (fun _ h => h) (fun _ h => h.elim) (fun _ h => h)
theorem mSt_sF {σ : pm_H} {m f a sd : Nat} {v : Value} {rs : List Rl} (h : mSt σ m sd rs) : mSt (pm_sF σ f a v) m sd rs := h
/-- the queue of pairs -/
def QI (m : Nat) (T1 T2 : Tr) (σ : pm_H) (ql : List Nat) (τ : pm_H) : Prop := XI m σ τ ∧ mSt τ m 0 T1.2 ∧ mSt τ m 1 T2.2 ∧ (∀ j, j < 49152 → iv (pm_A τ (m + 29) j) = bI (decide (j ∈ ql))) ∧ iv (pm_F τ 1234 m) = Int32.ofInt (ql.length : Int) ∧ (∀ (k j : Nat), ql[k]? = some j → iv (pm_A τ (m + 26) k) = Int32.ofInt (j : Int)) ∧ ql.Nodup ∧ (∀ j, j ∈ ql → j < 49152 ∧ dpr T1.2 T2.2 (j / 4096) (j % 4096)) ∧ 1 ∈ ql
def QP (T1 T2 : Tr) (ql : List Nat) (i : Nat) : Prop := ∀ (k j : Nat), k < i → ql[k]? = some j → (T1.1.testBit (j / 4096) = true → j % 4096 &&& T2.1 ≠ 0) ∧ ∀ s q, s < 100 → (tg T1.2 (j / 4096) s).testBit q = true → 4096 * q + aft T2.2 (j % 4096) s ∈ ql
theorem getE {α : Type} {l : List α} {x y : α} {k : Nat} (h : l[k]? = some y) : (l ++ [x])[k]? = some y := by
  rw [List.getElem?_append_left (List.getElem?_eq_some_iff.mp h).1]; exact h
theorem QP_app {T1 T2 : Tr} {ql : List Nat} {i x : Nat} (h : QP T1 T2 ql i) (hi : i ≤ ql.length) : QP T1 T2 (ql ++ [x]) i := fun k j hk hj => by
  have hj' : ql[k]? = some j := by rw [List.getElem?_append_left (by omega)] at hj; exact hj
  obtain ⟨a, b⟩ := h k j hk hj'
  exact ⟨a, fun s q hs ht => List.mem_append_left _ (b s q hs ht)⟩
theorem s_M_isIn {σ : pm_H} {m s1 s2 : Nat} {T1 T2 : Tr} (hm : mS σ m) (h1 : mTr σ m s1 T1) (h2 : mTr σ m s2 T2) (k1 : okTr T1) (k2 : okTr T2) (hs1 : s1 < 4) (hs2 : s2 < 4) : cIP 4 230 [.ref m, .int (Int32.ofInt (s1 : Int)), .int (Int32.ofInt (s2 : Int))] σ (bI (wiB T1 T2)) (fun σ' => XI m σ σ') := by
  have v1 := vi (show s1 < 13 by omega) (by omega)
  have w1 := vc (show s1 < 2000000 by omega)
  have v2 := vi (show s2 < 13 by omega) (by omega)
  have w2 := vc (show s2 < 2000000 by omega)
  refine w_M_isIn_0 ⟨hm.1, (s_M_steps (sd := 0) hm h1 k1 hs1 (by omega)).use (by omega) (fun σ1 p1 => ?_)⟩
  have x1 : XI m σ σ1 := frX.mono p1.2.1 (fun _ h => h.elim) (fun i h => Or.inl h) (fun _ h => h)
  have m1 := XI_mS x1 hm
  refine ⟨m1.1, (s_M_steps (sd := 1) m1 (frX.T x1 h2 k2 id) k2 hs2 (by omega)).use (by omega) (fun σ2 p2 => ?_)⟩
  have x2 : XI m σ σ2 := XI_tr x1 (frX.mono p2.2.1 (fun _ h => h.elim) (fun i h => Or.inl h) (fun _ h => h))
  have t1 : mSt σ2 m 0 T1.2 := p2.2.2 _ 0 (by omega) (by omega) p1.1
  -- nothing is seen
  refine lp (fun k => [.ref m, .int (Int32.ofInt (s1 : Int)), .int (Int32.ofInt (s2 : Int)), .int (Int32.ofInt (k : Nat)), pm_U, pm_U, pm_U, pm_U, pm_U, pm_U]) (fun k τ => XI m σ τ ∧ mSt τ m 0 T1.2 ∧ mSt τ m 1 T2.2 ∧ ∀ j, j < k → iv (pm_A τ (m + 29) j) = 0) 49152 (fun k hk τ hh next => ?_) (fun τ hh => ?_) 0 (Nat.zero_le _) σ2 ⟨x2, t1, p2.1, fun j hj => absurd hj (by omega)⟩
  · obtain ⟨i1, i2, i3, i4⟩ := hh
    have mt := XI_mS i1 hm
    have vk := vi hk (by omega)
    have wk := vc (show k < 2000000 by omega)
    refine w_M_isIn_10 ⟨fun q => ?_, fun _ => ?_⟩
    · rw [i32_49152 (by omega)] at q; omega
    simp only [mt.1, mt.f29, mt.t29, mt.l29, isr_ref, rv_ref, vk, wk, nb_0, true_and, forall_eq, oi_s]
    refine next _ ⟨XI_tr i1 (XI_sA (by omega)), mSt_sA i2 (by omega), mSt_sA i3 (by omega), fun j hj => ?_⟩
    rw [A_sA]
    by_cases c : j = k
    · rw [if_pos ⟨rfl, c⟩]; rfl
    · rw [if_neg (fun q => c q.2)]; exact i4 j (by omega)
  obtain ⟨i1, i2, i3, i4⟩ := hh
  have mt := XI_mS i1 hm
  have b0 : vp_in (0 : Int32) 49152 := by rw [vp_in_iff]; decide
  have b1 : vp_in (1 : Int32) 49152 := by rw [vp_in_iff]; decide
  have c1 : (1 : Int32).toNatClampNeg = 1 := by decide
  refine w_M_isIn_10 ⟨fun _ => ?_, fun q => absurd (Int32.le_refl _) q⟩
  have nF : (1234 : Nat) ∉ mTab.map (fun e => e.1) := by decide
  have mt1 := mS_sA (a := m + 26) (j := 0) (v := .int ((1 : Int32))) mt
  have mt2 := mS_sF (a := m) (v := .int ((1 : Int32))) mt1 nF
  simp only [mt.1, mt.f26, mt.t26, mt.l26, mt1.1, mt2.1, mt2.f29, mt2.t29, mt2.l29, isr_ref, rv_ref, b0, b1, c00, c1, nb_1, true_and, forall_eq]
  have base : QI m T1 T2 σ [1] (pm_sA (pm_sF (pm_sA τ (m + 26) 0 (.int ((1 : Int32)))) 1234 m (.int ((1 : Int32)))) (m + 29) 1 (.int ((1 : Int32)))) := by
    refine ⟨XI_tr (XI_tr (XI_tr i1 (XI_sA (by omega))) XI_sF) (XI_sA (by omega)), mSt_sA (mSt_sF (mSt_sA i2 (by omega))) (by omega), mSt_sA (mSt_sF (mSt_sA i3 (by omega))) (by omega), fun j hj => ?_, ?_, fun k j hk => ?_, by simp, fun j hj => ?_, by simp⟩
    · simp only [A_sA, A_sF, Nat.reduceEqDiff, Nat.left_eq_add, Nat.add_eq_left, Nat.one_ne_zero, false_and, true_and, if_false]
      by_cases c : j = 1
      · rw [if_pos c, c]; rfl
      · rw [if_neg c, i4 j hj, decide_eq_false (by simp; exact c)]; rfl
    · simp only [F_sA, F_sF, and_true, if_true]; rfl
    · simp only [A_sA, A_sF, Nat.reduceEqDiff, Nat.left_eq_add, Nat.add_eq_left, Nat.one_ne_zero, false_and, true_and, if_false]
      cases k with
      | zero => simp at hk; subst hk; rfl
      | succ k => simp at hk
    · rw [List.mem_singleton] at hj
      subst hj
      exact ⟨by omega, dpr_0⟩
  suffices key : ∀ σ6, QI m T1 T2 σ [1] σ6 → pm_R 4 230 35 [.ref m, .int (Int32.ofInt (s1 : Int)), .int (Int32.ofInt (s2 : Int)), .int ((0 : Int32)), pm_U, pm_U, pm_U, pm_U, pm_U, pm_U] [] σ6 (fun o σ' => o = .inl (some (.int (bI (wiB T1 T2)))) ∧ XI m σ σ') from key _ base
  clear base
  intro σ6 base
  have qlen : ∀ {ql : List Nat} {τ : pm_H}, QI m T1 T2 σ ql τ → ql.length ≤ 49152 := fun h => nodup_len h.2.2.2.2.2.2.1 (fun x hx => (h.2.2.2.2.2.2.2.1 x hx).1)
  have fin : ∀ (ql : List Nat) (τ : pm_H), QI m T1 T2 σ ql τ → QP T1 T2 ql ql.length → dwin T1 T2 := fun ql τ hq hp => by
    have cl : ∀ j, j ∈ ql → (T1.1.testBit (j / 4096) = true → j % 4096 &&& T2.1 ≠ 0) ∧ ∀ s q, s < 100 → (tg T1.2 (j / 4096) s).testBit q = true → 4096 * q + aft T2.2 (j % 4096) s ∈ ql := fun j hj => by
      obtain ⟨k, hk⟩ := List.mem_iff_getElem?.mp hj
      exact hp k j (List.getElem?_eq_some_iff.mp hk).1 hk
    intro q S hpr hf
    have := hpr (fun q S => S < 4096 ∧ 4096 * q + S ∈ ql) ⟨by omega, hq.2.2.2.2.2.2.2.2⟩ (fun p S s q c hp hS hs hq' ht => by
      refine ⟨aftN_lt k2.2 12, ?_⟩
      have := (cl _ c.2).2 s q hs
      rw [show (4096 * p + S) / 4096 = p by omega, show (4096 * p + S) % 4096 = S by omega] at this
      exact this ht)
    have g := (cl _ this.2).1
    rw [show (4096 * q + S) / 4096 = q by omega, show (4096 * q + S) % 4096 = S by omega] at g
    exact g hf
  refine lp_up (fun i (_ : List Nat) => [.ref m, .int (Int32.ofInt (s1 : Int)), .int (Int32.ofInt (s2 : Int)), .int (Int32.ofInt (i : Nat)), pm_U, pm_U, pm_U, pm_U, pm_U, pm_U]) (fun i ql τ => QI m T1 T2 σ ql τ ∧ QP T1 T2 ql i ∧ i ≤ ql.length) 49152 (fun i hi ql τ hh next => ?_) (fun ql τ hh => ?_) 0 (Nat.zero_le _) [1] σ6 ⟨base, fun k j h => absurd h (by omega), Nat.zero_le _⟩
  · obtain ⟨hQ, hP, hle⟩ := hh
    have ql49 := qlen hQ
    have mt := XI_mS hQ.1 hm
    have vI := vi hi (by omega)
    have wI := vc (show i < 2000000 by omega)
    refine w_M_isIn_35 ⟨mt.1, fun z ez => ?_⟩
    rw [hQ.2.2.2.2.1] at ez
    subst ez
    rw [oi_le (by omega)]
    refine ⟨fun q => ⟨rfl, ?_, hQ.1⟩, fun q => ?_⟩
    · have : i = ql.length := by omega
      rw [this] at hP
      rw [wiB_t (fin ql τ hQ hP)]; rfl
    have hk : i < ql.length := by omega
    have hj := List.getElem?_eq_getElem hk
    generalize ql[i] = j at hj
    have mj := hQ.2.2.2.2.2.2.2.1 j (List.mem_of_getElem? hj)
    have ht1 := frX.T hQ.1 h1 k1 id
    have ht2 := frX.T hQ.1 h2 k2 id
    have p12 : j / 4096 < 12 := by omega
    have S4 : j % 4096 < 4096 := by omega
    have r4 : Int32.ofInt (j : Int) - Int32.ofInt ((j / 4096 : Nat) : Int) * 4096 = Int32.ofInt ((j % 4096 : Nat) : Int) := by
      rw [← i32_d4096 (show j < 100000 by omega)]; exact i32_r4096 (by omega)
    simp only [mt.1, mt.f1, mt.t1, mt.l1, mt.f26, mt.t26, mt.l26, isr_ref, rv_ref, vI, wI, v1, w1, v2, w2, hQ.2.2.2.2.2.1 i j hj, ht1.1, ht2.1, i32_d4096 (show j < 100000 by omega), r4, i32_n4096, not_false_eq_true, st_has1 k1.1 p12, i_andN, true_and, forall_eq]
    rw [i_0 (by have := and_lt4 (b := T2.1) S4; omega)]
    have go : (T1.1.testBit (j / 4096) = true → j % 4096 &&& T2.1 ≠ 0) → pm_R 4 230 74 [.ref m, .int (Int32.ofInt (s1 : Int)), .int (Int32.ofInt (s2 : Int)), .int (Int32.ofInt (i : Nat)), .int (Int32.ofInt ((j / 4096 : Nat) : Int)), .int (Int32.ofInt ((j % 4096 : Nat) : Int)), .int ((0 : Int32)), pm_U, pm_U, pm_U] [] τ (fun o σ' => o = .inl (some (.int (bI (wiB T1 T2)))) ∧ XI m σ σ') := by
      intro good
      refine lp_up (fun s (_ : List Nat) => [.ref m, .int (Int32.ofInt (s1 : Int)), .int (Int32.ofInt (s2 : Int)), .int (Int32.ofInt (i : Nat)), .int (Int32.ofInt ((j / 4096 : Nat) : Int)), .int (Int32.ofInt ((j % 4096 : Nat) : Int)), .int (Int32.ofInt (s : Nat)), pm_U, pm_U, pm_U]) (fun s ql τ => QI m T1 T2 σ ql τ ∧ QP T1 T2 ql i ∧ ql[i]? = some j ∧ ∀ s' q, s' < s → (tg T1.2 (j / 4096) s').testBit q = true → 4096 * q + aft T2.2 (j % 4096) s' ∈ ql) 100 (fun s hs ql τ hh next2 => ?_) (fun ql τ hh => ?_) 0 (Nat.zero_le _) ql τ ⟨hQ, hP, hj, fun s' q h => absurd h (by omega)⟩
      · obtain ⟨hQ, hP, hj, hd⟩ := hh
        have mt := XI_mS hQ.1 hm
        have tl : tg T1.2 (j / 4096) s < 4096 := tg_lt k1.2
        have rt := hQ.2.1 (j / 4096) s p12 hs
        rw [Nat.mul_zero, Nat.zero_add] at rt
        have vt := vi (show 100 * (j / 4096) + s < 2400 by omega) (by omega)
        have wt := vc (show 100 * (j / 4096) + s < 2000000 by omega)
        refine w_M_isIn_74 ⟨fun q => ?_, fun _ => ?_⟩
        · rw [i32_100 (by omega)] at q; omega
        simp only [mt.1, mt.f19, mt.t19, mt.l19, isr_ref, rv_ref, oi_l100, oi_addN, vt, wt, rt, true_and, forall_eq, oi_s]
        rw [i_0 (by omega)]
        refine ⟨fun t0 => next2 ql τ ⟨hQ, hP, hj, fun s' q h ht => ?_⟩, fun t0 => (s_M_after (sd := 1) mt hQ.2.2.1 (by omega) S4 hs).use (by omega) ?_⟩
        · by_cases c : s' = s
          · rw [c, t0, Nat.zero_testBit] at ht; cases ht
          · exact hd s' q (by omega) ht
        have al : aft T2.2 (j % 4096) s < 4096 := aftN_lt k2.2 12
        refine lp_up (fun q (_ : List Nat) => [.ref m, .int (Int32.ofInt (s1 : Int)), .int (Int32.ofInt (s2 : Int)), .int (Int32.ofInt (i : Nat)), .int (Int32.ofInt ((j / 4096 : Nat) : Int)), .int (Int32.ofInt ((j % 4096 : Nat) : Int)), .int (Int32.ofInt (s : Nat)), .int (Int32.ofInt ((tg T1.2 (j / 4096) s : Nat) : Int)), .int (Int32.ofInt ((aft T2.2 (j % 4096) s : Nat) : Int)), .int (Int32.ofInt (q : Nat))]) (fun q ql τ => QI m T1 T2 σ ql τ ∧ QP T1 T2 ql i ∧ ql[i]? = some j ∧ (∀ s' q, s' < s → (tg T1.2 (j / 4096) s').testBit q = true → 4096 * q + aft T2.2 (j % 4096) s' ∈ ql) ∧ ∀ q', q' < q → (tg T1.2 (j / 4096) s).testBit q' = true → 4096 * q' + aft T2.2 (j % 4096) s ∈ ql) 12 (fun q hq ql τ hh next3 => ?_) (fun ql τ hh => ?_) 0 (Nat.zero_le _) ql τ ⟨hQ, hP, hj, hd, fun q' h => absurd h (by omega)⟩
        · obtain ⟨hQ, hP, hj, hd, hd2⟩ := hh
          have mt := XI_mS hQ.1 hm
          refine w_M_isIn_97 ⟨fun z => ?_, fun _ => ?_⟩
          · rw [i32_12 (by omega)] at z; omega
          rw [st_has (by omega) hq, bI_0, oi_s]
          refine ⟨fun b0 => next3 ql τ ⟨hQ, hP, hj, hd, fun q' h ht => ?_⟩, fun b0 => ?_⟩
          · by_cases c : q' = q
            · rw [c, b0] at ht; cases ht
            · exact hd2 q' (by omega) ht
          rw [Bool.not_eq_false] at b0
          have xl : 4096 * q + aft T2.2 (j % 4096) s < 49152 := by omega
          have prx : dpr T1.2 T2.2 q (aft T2.2 (j % 4096) s) := dpr_s mj.2 p12 S4 hs hq b0
          generalize hx : 4096 * q + aft T2.2 (j % 4096) s = y at xl
          have ey1 : y / 4096 = q := by omega
          have ey2 : y % 4096 = aft T2.2 (j % 4096) s := by omega
          have vy := vi xl (by omega)
          have wy := vc (show y < 2000000 by omega)
          simp only [mt.1, mt.f29, mt.t29, mt.l29, isr_ref, rv_ref, oi_l4096, oi_addN, hx, vy, wy, hQ.2.2.2.1 y xl, bI_0, decide_eq_false_iff_not, Decidable.not_not, true_and, forall_eq]
          refine ⟨fun hy => ?_, fun hy => next3 ql τ ⟨hQ, hP, hj, hd, fun q' h ht => ?_⟩⟩
          · have nd' := nodup_app hQ.2.2.2.2.2.2.1 hy
            have nl := nodup_len nd' (N := 49152) (fun z hz => by
              rcases List.mem_append.mp hz with c | c
              · exact (hQ.2.2.2.2.2.2.2.1 z c).1
              · rw [List.mem_singleton.mp c]; exact xl)
            rw [List.length_append] at nl
            have nl' : ql.length < 49152 := nl
            have vL := vi nl' (by omega)
            have wL := vc (show ql.length < 2000000 by omega)
            have hle : i ≤ ql.length := Nat.le_of_lt (List.getElem?_eq_some_iff.mp hj).1
            simp only [mt.1, mt.f26, mt.t26, mt.l26, t_sA, l_sA, F_sA, hQ.2.2.2.2.1, isr_ref, rv_ref, vL, wL, nb_1, true_and, forall_eq, oi_s]
            refine next3 (ql ++ [y]) _ ⟨⟨XI_tr (XI_tr (XI_tr hQ.1 (XI_sA (by omega))) (XI_sA (by omega))) XI_sF, mSt_sF (mSt_sA (mSt_sA hQ.2.1 (by omega)) (by omega)), mSt_sF (mSt_sA (mSt_sA hQ.2.2.1 (by omega)) (by omega)), fun z hz => ?_, ?_, fun k z hk => ?_, nd', fun z hz => ?_, List.mem_append_left _ hQ.2.2.2.2.2.2.2.2⟩, QP_app hP hle, getE hj, fun s' q' h ht => List.mem_append_left _ (hd s' q' h ht), fun q' h ht => ?_⟩
            · simp only [A_sA, A_sF, Nat.reduceEqDiff, Nat.left_eq_add, Nat.add_eq_left, Nat.one_ne_zero, false_and, true_and, if_false]
              by_cases c : z = y
              · rw [if_pos c, decide_eq_true (by rw [c]; simp)]; rfl
              · rw [if_neg c, hQ.2.2.2.1 z hz]
                congr 1
                rw [decide_eq_decide, List.mem_append, List.mem_singleton]
                exact ⟨fun a => Or.inl a, fun a => a.elim id (fun a => absurd a c)⟩
            · simp only [F_sF, and_true, if_true, List.length_append]; rfl
            · simp only [A_sA, A_sF, Nat.reduceEqDiff, Nat.left_eq_add, Nat.add_eq_left, Nat.one_ne_zero, false_and, true_and, if_false]
              rcases getA hk with c | ⟨c, c2⟩
              · have := (List.getElem?_eq_some_iff.mp c).1
                rw [if_neg (by omega)]; exact hQ.2.2.2.2.2.1 k z c
              · rw [if_pos c, c2]; rfl
            · rcases List.mem_append.mp hz with c | c
              · exact hQ.2.2.2.2.2.2.2.1 z c
              · rw [List.mem_singleton.mp c, ey1, ey2]; exact ⟨xl, prx⟩
            · by_cases c : q' = q
              · rw [c, hx]; simp
              · exact List.mem_append_left _ (hd2 q' (by omega) ht)
          · by_cases c : q' = q
            · rw [c, hx]; exact hy
            · exact hd2 q' (by omega) ht
        · obtain ⟨hQ, hP, hj, hd, hd2⟩ := hh
          refine w_M_isIn_97 ⟨fun _ => ?_, fun z => absurd (Int32.le_refl _) z⟩
          rw [oi_s]
          refine next2 ql τ ⟨hQ, hP, hj, fun s' q h ht => ?_⟩
          by_cases c : s' = s
          · rw [c] at ht ⊢; exact hd2 q (bit_12 tl ht) ht
          · exact hd s' q (by omega) ht
      · obtain ⟨hQ, hP, hj, hd⟩ := hh
        refine w_M_isIn_74 ⟨fun _ => ?_, fun z => absurd (Int32.le_refl _) z⟩
        rw [oi_s]
        refine next ql τ ⟨hQ, fun k j' hk hj' => ?_, (List.getElem?_eq_some_iff.mp hj).1⟩
        by_cases c : k = i
        · rw [c, hj] at hj'
          cases hj'
          exact ⟨good, fun s q hs ht => hd s q hs ht⟩
        · exact hP k j' (by omega) hj'
    refine ⟨fun hb => ⟨fun s0 => ⟨rfl, ?_, hQ.1⟩, fun s0 => go (fun _ => s0)⟩, fun hb => go (fun q => absurd q hb)⟩
    rw [wiB_f (fun w => w (j / 4096) (j % 4096) mj.2 hb s0)]; rfl
  · obtain ⟨hQ, hP, hle⟩ := hh
    have ql49 := qlen hQ
    have mt := XI_mS hQ.1 hm
    refine w_M_isIn_35 ⟨mt.1, fun z ez => ?_⟩
    rw [hQ.2.2.2.2.1] at ez
    subst ez
    have : 49152 = ql.length := by omega
    rw [this] at hP
    refine ⟨fun _ => ⟨rfl, by rw [wiB_t (fin ql τ hQ hP)]; rfl, hQ.1⟩, fun q => ?_⟩
    rw [oi_le (by omega)] at q
    omega
