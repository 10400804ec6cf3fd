/-! ===== addRange, addTerm ===== -/
theorem oi_sub1 (z : Int) : Int32.ofInt z - 1 = Int32.ofInt (z - 1) := oi_subl z 1
theorem g_in {z : Int} {n d : Nat} {σ : pm_H} {A B : pm_H → Prop} {X : Nat → pm_H → Prop} (hz : rg z) (hn : n < 1000000) (h0 : ¬ (0 ≤ z ∧ z < n) → A σ) (h1 : 0 ≤ z ∧ z < n → B σ) : pm_C d 163 [.int (Int32.ofInt z), .int ((0 : Int32)), .int (Int32.ofInt (n : Int) - 1)] σ (pm_kI (fun r σ1 => ((r = 0 → A σ1) ∧ (¬ r = 0 → B σ1))) X) := by
  rw [oi_sub1]
  exact gD (s_M_in (a := 0) hz (by omega) (by omega)) (by omega) (fun n => h0 (by omega)) (fun n => h1 (by omega))
theorem set_ok {T : Tr} {k : Nat} {r' : Rl} (hT : okTr T) (hr : okR r') : okTr (T.1, T.2.set k r') := ⟨hT.1, fun r h => by
  rcases List.mem_or_eq_of_mem_set h with h | h
  · exact hT.2 r h
  · rw [h]; exact hr⟩
theorem J_addRange {x m N0 L : Nat} {A : AS} (hA : okA A) {z1 z2 z3 z4 : Int} (r1 : rg z1) (r2 : rg z2) (r3 : rg z3) (r4 : rg z4) : ∃ k v A', okA A' ∧ (∀ σ, isB σ x N0 A → isL σ x N0 L → pm_C 39 251 [.ref x, .int (Int32.ofInt z1), .int (Int32.ofInt z2), .int (Int32.ofInt z3), .int (Int32.ofInt z4), .ref L] σ (bOut x N0 1 6 σ k v A' L)) ∧ ∀ σ, isM σ m A → pm_C 39 182 [.ref m, .int (Int32.ofInt z1), .int (Int32.ofInt z2), .int (Int32.ofInt z3), .int (Int32.ofInt z4)] σ (mOut m σ k v A') := by
  by_cases hv : (0 ≤ z1 ∧ z1 < 4) ∧ (0 ≤ z3 ∧ z3 ≤ z4 ∧ z4 < 100)
  · obtain ⟨sl, rfl⟩ : ∃ n : Nat, z1 = n := ⟨z1.toNat, by omega⟩
    obtain ⟨a, rfl⟩ : ∃ n : Nat, z3 = n := ⟨z3.toNat, by omega⟩
    obtain ⟨b, rfl⟩ : ∃ n : Nat, z4 = n := ⟨z4.toNat, by omega⟩
    have hsl : sl < 4 := by omega
    have hT := hA.1 sl hsl
    generalize eT : aS A sl = T at hT
    have v4 := vi (show sl < 4 from hsl) (by omega)
    have v13 := vi (show sl < 13 by omega) (by omega)
    have ws := vc (show sl < 2000000 by omega)
    by_cases hr2 : 0 ≤ z2 ∧ z2 < T.2.length
    · obtain ⟨k, rfl⟩ : ∃ n : Nat, z2 = n := ⟨z2.toNat, by omega⟩
      have hk : k < T.2.length := by omega
      have hr := List.getElem?_eq_getElem hk
      generalize T.2[k] = r at hr
      have ok := hT.at hr
      let lo' := rLo r ||| mB (Int32.ofInt (a : Int)) (Int32.ofInt (b : Int))
      let hi' := rHi r ||| mB (Int32.ofInt (a : Int) - 64) (Int32.ofInt (b : Int) - 64)
      have gh : okG hi' := okG_or ok.2.2.1 (okG_mB (by omega) (by omega))
      refine ⟨0, (Int32.ofInt ((cnt (sy lo' hi') 100 : Nat) : Int)).toInt64, chg A sl (T.1, T.2.set k (rG r lo' hi')), okA_chg hA hsl (set_ok hT (okR_G ok gh)), fun σ h hL => ?_, fun σ h => ?_⟩
      · refine w_L_addRange_0 ⟨h.1.1, w_B_addRange_0 (q_slot r1 (fun _ => q_symbols r3 r4 (fun _ => ⟨h.1.1, q_rule h r2 hsl (fun _ => ?_) (fun n => absurd (by rw [eT]; exact hr2) n)⟩) (fun n => absurd hv.2 n)) (fun n => absurd hv.1 n))⟩
        obtain ⟨π, ht⟩ := h.2.1 sl hsl
        rw [eT] at ht
        simp only [h.1.1, h.1.2.1.1, h.1.2.2.1, h.1.2.2.2.1, h.1.2.2.2.2 sl hsl, h.1.2.1.2.2.1, h.2.2.2.1.1.1, isr_ref, rv_ref, v4, ws, true_and, forall_eq]
        refine (s_Hi_save h.2.2.2.1 ht hT (by omega) hsl).use (by omega) (fun σ1 p1 => ?_)
        have ht1 := isTr_fr ht p1.2 (fun b hb => by unfold pTr at hb; unfold pHi; omega)
        have ra := ht1.at hr
        have l40 := ht.2.2.2.2.1
        have hπ := (ht1.2.1.1 k (by omega)).1
        simp only [ht1.1.1, ht1.1.2.1, ht1.1.2.2.1, ht1.1.2.2.2.1, ra.1, ra.2.1, ra.2.2.1, ra.2.2.2.1.1, ra.2.2.2.1.2.1, ra.2.2.2.1.2.2.2.1, isr_ref, rv_ref, true_and, forall_eq]
        refine (s_include ra.2.2.2.g).use (by omega) (fun σ3 e3 => ?_)
        have g3 := isRu_guard ra.2.2.2 lo' hi'
        have e3' : σ3 = uSy σ1 (x + 2 + 122 * sl + 2 + 3 * π k + 1) lo' hi' := e3
        rw [← e3'] at g3
        have t3 := isTr_upd ht1 hk g3.2 g3.1
        have g := isB_chg h hsl (by rw [eT]; exact p1.1) p1.2 (g3.2.mono (fun c hc => by unfold pRu at hc; unfold pTr; omega)) ⟨π, t3⟩
        refine ⟨g3.1.1.2.2.2.1, (s_Sy_size g3.1.g gh).use (by omega) ?_⟩
        exact L_ok2 hL g.1 g.2
      · have hm := h.1
        have ht := h.2.1 sl hsl
        rw [eT] at ht
        have l40 := ht.2.2.1
        refine w_M_addRange_0 (gD (s_M_isSlot r1) (by omega) (fun n => absurd hv.1 n) (fun _ => gD (s_M_isRange r3 r4) (by omega) (fun n => absurd hv.2 n) (fun _ => ?_)))
        simp only [hm.1, hm.f2, hm.t2, hm.l2, isr_ref, rv_ref, v13, ws, ht.2.1, true_and, forall_eq]
        refine g_in r2 (by omega) (fun n => absurd hr2 n) (fun _ => thr0e hm (fun m1 f1 y1 => ⟨m1.1, ?_⟩))
        have h1 := isM_scr h hA f1 (fun _ q => Or.inl q) (fun _ q => q.elim) (fun _ q => q.elim)
        have ht1 := h1.2.1 sl hsl
        rw [eT] at ht1
        refine (s_M_keeps m1 h1.2.2.1 hA.2.1 ht1 hT hsl).use (by omega) (fun σ2 p2 => ?_)
        have m2 := p2.2.mS m1 (fun f hf => by rw [hf]; decide)
        have ht2 := p2.2.T ht1 hT (by omega)
        have y2 : iv (pm_F σ2 1200 m) = 0 := by rw [p2.2.F (by decide)]; exact y1
        have ru2 := ht2.2.2.2 k r hr
        refine lp_up (fun i (_ : Int64 × Int64) => [.ref m, .int (Int32.ofInt (sl : Int)), .int (Int32.ofInt (k : Int)), pm_U, .int (Int32.ofInt (b : Int)), .int (Int32.ofInt ((a + i : Nat) : Int))]) (fun i x τ => addG m (40 * sl + k) r a (a + i) σ2 x τ) (b + 1 - a) (fun i hi x τ hg next => ?_) (fun x τ hg => ?_) 0 (Nat.zero_le _) (rLo r, rHi r) σ2 (addG_0 ru2 ok.2.2.1)
        · refine w_M_addRange_34 ⟨fun e => ?_, fun e => ?_⟩
          · rw [oi_lt (by omega)] at e; omega
          · rw [oi_row]
            refine addG_s hg m2 (by omega) (by omega) (by omega) (fun τ' g' => ?_)
            rw [oi_s]; exact next _ τ' g'
        · have mt := hg.2.1.mS m2
          have e := rng_eq (a := a) (b := b) (lo := rLo r) (hi := rHi r) (by omega) (by omega) ok.2.2.1 hg.2.2.1 (fun t ht => by rw [hg.2.2.2 t ht]; congr 1; rw [decide_eq_decide]; omega)
          have tt := mTr_upd ht2 hT hk hg.2.1 hg.1
          have rk := hg.1
          rw [e.1, e.2] at tt rk
          refine w_M_addRange_34 ⟨fun _ => ⟨mt.1, ?_⟩, fun q => ?_⟩
          · rw [oi_row]
            refine (s_M_guardMany mt rk (by omega)).use (by omega) ?_
            have fM : frM m (fun s => s = sl) σ2 τ := hg.2.1.M (by omega) (by omega)
            have g := isM_chg h hA hsl (frX.mono f1 (fun _ q => q) (fun _ q => q.elim) (fun _ q => q.elim)) (As0 := fun _ => False) (fun _ q => q.elim) (by rw [eT]; exact p2.1) p2.2 fM.X (fun _ q => q.elim) (fun i q => by omega) (fun _ q => q) tt
            exact ⟨⟨_, rfl, fun _ => rfl⟩, by rw [fM.X.F id]; exact y2, g.1, g.2⟩
          · rw [oi_lt (by omega)] at q; omega
    · refine ⟨2, 0, A, hA, fun σ h hL => ?_, fun σ h => ?_⟩
      · exact w_L_addRange_0 ⟨h.1.1, w_B_addRange_0 (q_slot r1 (fun _ => q_symbols r3 r4 (fun _ => ⟨h.1.1, q_rule h r2 hsl (fun n => absurd (by rw [eT] at n; exact n) hr2) (fun n => k_L_addRange_15 (L_thr i2_ne h))⟩) (fun n => absurd hv.2 n)) (fun n => absurd hv.1 n))⟩
      · have hm := h.1
        have ht := h.2.1 sl hsl
        rw [eT] at ht
        have l40 := ht.2.2.1
        refine w_M_addRange_0 (gD (s_M_isSlot r1) (by omega) (fun n => absurd hv.1 n) (fun _ => gD (s_M_isRange r3 r4) (by omega) (fun n => absurd hv.2 n) (fun _ => ?_)))
        simp only [hm.1, hm.f2, hm.t2, hm.l2, isr_ref, rv_ref, v13, ws, ht.2.1, true_and, forall_eq]
        exact g_in r2 (by omega) (fun _ => thrKe hm i2_ne (fun m1 f1 y1 => mOut_e i2_ne h hA f1 y1)) (fun n => absurd n hr2)
  · refine ⟨1, 0, A, hA, fun σ h hL => ?_, fun σ h => ?_⟩
    · have ex := k_L_addRange_12 (d := 38) (L_thr (x := x) (N0 := N0) (L := L) i1_ne h)
      exact w_L_addRange_0 ⟨h.1.1, w_B_addRange_0 (q_slot r1 (fun s1 => q_symbols r3 r4 (fun s2 => absurd ⟨s1, s2⟩ hv) (fun n => ex)) (fun n => ex))⟩
    · exact w_M_addRange_0 (gD (s_M_isSlot r1) (by omega) (fun n => thrK h.1 i1_ne (fun σ1 m1 f1 y1 => mOut_e i1_ne h hA f1 y1)) (fun s1 => gD (s_M_isRange r3 r4) (by omega) (fun n => thrK h.1 i1_ne (fun σ1 m1 f1 y1 => mOut_e i1_ne h hA f1 y1)) (fun s2 => absurd ⟨s1, s2⟩ hv)))
theorem tv_off {z : Int} (h : -99 ≤ z ∧ z < 100) : tv (1000 + z).toNat = z ∧ okT (1000 + z).toNat ∧ 100 ≤ (1000 + z).toNat := by
  unfold tv okT
  refine ⟨?_, by omega, by omega⟩
  rw [if_neg (by omega)]; omega
theorem tv_con {z : Int} (h : 0 ≤ z ∧ z < 100) : tv z.toNat = z ∧ okT z.toNat ∧ z.toNat < 100 := by
  unfold tv okT
  refine ⟨?_, by omega, by omega⟩
  rw [if_pos (by omega)]; omega
theorem okR_app {r : Rl} {t : Nat} (h : okR r) (hl : (rTs r).length < 6) (ht : okT t) : okR (rApp r t) := by
  refine ⟨h.1, h.2.1, h.2.2.1, ?_, fun u hu => ?_⟩
  · show (rTs r ++ [t]).length ≤ 6
    rw [List.length_append]; exact hl
  · rcases List.mem_append.mp hu with q | q
    · exact h.2.2.2.2 u q
    · rw [List.mem_singleton.mp q]; exact ht
theorem i_m99 : (-99 : Int32) = Int32.ofInt (-99) := by decide
theorem J_addTerm {x m N0 L : Nat} {A : AS} (hA : okA A) {z1 z2 z4 : Int} {b : Bool} (r1 : rg z1) (r2 : rg z2) (r4 : rg z4) : ∃ k v A', okA A' ∧ (∀ σ, isB σ x N0 A → isL σ x N0 L → pm_C 39 252 [.ref x, .int (Int32.ofInt z1), .int (Int32.ofInt z2), .int (bI b), .int (Int32.ofInt z4), .ref L] σ (bOut x N0 1 6 σ k v A' L)) ∧ ∀ σ, isM σ m A → pm_C 39 184 [.ref m, .int (Int32.ofInt z1), .int (Int32.ofInt z2), .int (bI b), .int (Int32.ofInt z4)] σ (mOut m σ k v A') := by
  -- the least value
  let le : Int := if b then -99 else 0
  have hle : rg le := by show rg (if b then -99 else 0); cases b <;> exact ⟨by decide, by decide⟩
  have bB : ∀ {x0 : Nat} {y1 y2 y4 : Int32} {σ : pm_H} {Q : pm_O → pm_H → Prop}, pm_R 38 120 7 [.ref x0, .int y1, .int y2, .int (bI b), .int y4, pm_U, pm_U, pm_U] [.int (Int32.ofInt le)] σ Q → (bI b = 0 → pm_R 38 120 7 [.ref x0, .int y1, .int y2, .int (bI b), .int y4, pm_U, pm_U, pm_U] [.int ((0 : Int32))] σ Q) ∧ (¬ bI b = 0 → pm_R 38 120 7 [.ref x0, .int y1, .int y2, .int (bI b), .int y4, pm_U, pm_U, pm_U] [.int (((-99) : Int32))] σ Q) := by
    intro x0 y1 y2 y4 σ Q hh
    refine ⟨fun e => ?_, fun e => ?_⟩
    · rw [bI_0] at e
      have : le = 0 := by show (if b then (-99 : Int) else 0) = 0; rw [e]; rfl
      rw [this] at hh; exact hh
    · rw [bI_1] at e
      have : le = -99 := by show (if b then (-99 : Int) else 0) = -99; rw [e]; rfl
      rw [this] at hh; rw [i_m99]; exact hh
  have bM : ∀ {y1 y2 y4 : Int32} {σ : pm_H} {Q : pm_O → pm_H → Prop}, pm_R 39 184 10 [.ref m, .int y1, .int y2, .int (bI b), .int y4] [.int (Int32.ofInt le), .int y4, .ref m] σ Q → (bI b = 0 → pm_R 39 184 10 [.ref m, .int y1, .int y2, .int (bI b), .int y4] [.int ((0 : Int32)), .int y4, .ref m] σ Q) ∧ (¬ bI b = 0 → pm_R 39 184 10 [.ref m, .int y1, .int y2, .int (bI b), .int y4] [.int (((-99) : Int32)), .int y4, .ref m] σ Q) := by
    intro y1 y2 y4 σ Q hh
    refine ⟨fun e => ?_, fun e => ?_⟩
    · rw [bI_0] at e
      have : le = 0 := by show (if b then (-99 : Int) else 0) = 0; rw [e]; rfl
      rw [this] at hh; exact hh
    · rw [bI_1] at e
      have : le = -99 := by show (if b then (-99 : Int) else 0) = -99; rw [e]; rfl
      rw [this] at hh; rw [i_m99]; exact hh
  by_cases hv : (0 ≤ z1 ∧ z1 < 4) ∧ (le ≤ z4 ∧ z4 < 100)
  · obtain ⟨sl, rfl⟩ : ∃ n : Nat, z1 = n := ⟨z1.toNat, by omega⟩
    have hsl : sl < 4 := by omega
    have hT := hA.1 sl hsl
    generalize eT : aS A sl = T at hT
    have v4 := vi (show sl < 4 from hsl) (by omega)
    have v13 := vi (show sl < 13 by omega) (by omega)
    have ws := vc (show sl < 2000000 by omega)
    have nlt : ¬ Int32.ofInt z4 < Int32.ofInt le := by rw [oi_lt ⟨r4, hle⟩]; omega
    have n100 : Int32.ofInt z4 < 100 := (z_lt100 r4).mpr hv.2.2
    by_cases hr2 : 0 ≤ z2 ∧ z2 < T.2.length
    · obtain ⟨k, rfl⟩ : ∃ n : Nat, z2 = n := ⟨z2.toNat, by omega⟩
      have hk : k < T.2.length := by omega
      have hr := List.getElem?_eq_getElem hk
      generalize T.2[k] = r at hr
      have ok := hT.at hr
      have l6 := ok.2.2.2.1
      by_cases hf : (rTs r).length < 6
      · obtain ⟨t, ht1, ht2, ht3, ht4⟩ : ∃ t : Nat, okT t ∧ (if b then (1000 : Int) + z4 else z4) = (t : Int) ∧ z4 = tv t ∧ b = decide (100 ≤ t) := by
          cases b with
          | true =>
            have hz : (-99 : Int) ≤ z4 ∧ z4 < 100 := hv.2
            have := tv_off (z := z4) hv.2
            exact ⟨_, this.2.1, by show (1000 : Int) + z4 = _; omega, this.1.symm, (decide_eq_true this.2.2).symm⟩
          | false =>
            have hz : (0 : Int) ≤ z4 ∧ z4 < 100 := hv.2
            have := tv_con (z := z4) hv.2
            exact ⟨_, this.2.1, by show z4 = _; omega, this.1.symm, (decide_eq_false (by omega)).symm⟩
        have t5 : t < 100000 := by unfold okT at ht1; omega
        refine ⟨0, (Int32.ofInt (((rTs r).length + 1 : Nat) : Int)).toInt64, chg A sl (T.1, T.2.set k (rApp r t)), okA_chg hA hsl (set_ok hT (okR_app ok hf ht1)), fun σ h hL => ?_, fun σ h => ?_⟩
        · refine w_L_addTerm_0 ⟨h.1.1, w_B_addTerm_0 (q_slot r1 (fun _ => bB (w_B_addTerm_7 ?_)) (fun n => absurd hv.1 n))⟩
          obtain ⟨π, ht⟩ := h.2.1 sl hsl
          rw [eT] at ht
          have l40 := ht.2.2.2.2.1
          simp only [nlt, n100, not_true_eq_false, not_false_eq_true, false_implies, true_implies, true_and, and_true]
          refine ⟨h.1.1, q_rule h r2 hsl (fun _ => ?_) (fun n => absurd (by rw [eT]; exact hr2) n)⟩
          have ra := ht.at hr
          have hπ := (ht.2.1.1 k (by omega)).1
          have q6 : Int32.ofInt ((rTs r).length : Int) < 6 := (z_lt6 (nrg (by omega))).mpr (by omega)
          simp only [h.1.1, h.1.2.1.1, h.1.2.2.1, h.1.2.2.2.1, h.1.2.2.2.2 sl hsl, h.1.2.1.2.2.1, h.2.2.2.1.1.1, isr_ref, rv_ref, v4, ws, ht.1.1, ht.1.2.1, ht.1.2.2.1, ht.1.2.2.2.1, ra.1, ra.2.1, ra.2.2.1, ra.2.2.2.1.1, ra.2.2.2.2.2.2.1, iv_int, q6, not_true_eq_false, false_implies, true_implies, true_and, and_true, forall_eq]
          refine (s_Hi_save h.2.2.2.1 ht hT (by omega) hsl).use (by omega) (fun σ1 p1 => ?_)
          have ht1' := isTr_fr ht p1.2 (fun b hb => by unfold pTr at hb; unfold pHi; omega)
          have ra1 := ht1'.at hr
          have eg : (bI b = 0 → Int32.ofInt z4 = Int32.ofInt (t : Int)) ∧ (¬ bI b = 0 → (1000 : Int32) + Int32.ofInt z4 = Int32.ofInt (t : Int)) := by
            refine ⟨fun e => ?_, fun e => ?_⟩
            · rw [bI_0] at e
              have : z4 = (t : Int) := by rw [← ht2, e]; rfl
              rw [this]
            · rw [bI_1] at e
              have : (1000 : Int) + z4 = (t : Int) := by rw [← ht2, e]; rfl
              rw [← this]; exact oi_ladd z4 1000
          refine ⟨fun e => ?_, fun e => ?_⟩
          all_goals first | rw [eg.1 e] | rw [eg.2 e]
          all_goals (
            refine ⟨ra1.2.2.2.1.1, (s_Ru_append ra1.2.2.2 hf t5 ok.ts).use (by omega) (fun σ2 p2 => ⟨p2.1.1.1, ?_⟩)⟩
            have t3 := isTr_upd ht1' hk p2.2 p2.1
            have g := isB_chg h hsl (by rw [eT]; exact p1.1) p1.2 (p2.2.mono (fun c hc => by unfold pRu at hc; unfold pTr; omega)) ⟨π, t3⟩
            have len : iv (pm_F σ2 604 (x + 2 + 122 * sl + 2 + 3 * π k)) = Int32.ofInt (((rTs r).length + 1 : Nat) : Int) := by
              rw [p2.1.2.2.2.1, iv_int]
              show Int32.ofInt (((rTs r) ++ [t]).length : Int) = _
              rw [List.length_append]; rfl
            rw [len]
            exact L_ok2 hL g.1 g.2)
        · have hm := h.1
          have ht := h.2.1 sl hsl
          rw [eT] at ht
          have l40 := ht.2.2.1
          have vr := vi (show 40 * sl + k < 520 by omega) (by omega)
          have wr := vc (show 40 * sl + k < 2000000 by omega)
          refine w_M_addTerm_0 (gD (s_M_isSlot r1) (by omega) (fun n => absurd hv.1 n) (fun _ => bM (w_M_addTerm_10 (gD (s_M_in r4 hle (b := 99) ⟨by decide, by decide⟩) (by omega) (fun n => absurd hv.2 (by omega)) (fun _ => ?_)))))
          simp only [hm.1, hm.f2, hm.t2, hm.l2, isr_ref, rv_ref, v13, ws, ht.2.1, true_and, forall_eq]
          refine g_in r2 (by omega) (fun n => absurd hr2 n) (fun _ => ?_)
          have rk := ht.2.2.2 k r hr
          have q6 : ¬ Int32.ofInt ((rTs r).length : Int) = 6 := by rw [z_eq6 (nrg (by omega))]; omega
          simp only [hm.1, hm.f7, hm.t7, hm.l7, isr_ref, rv_ref, oi_row, vr, wr, rk.2.2.2.2.1, q6, not_false_eq_true, false_implies, true_implies, true_and, forall_eq]
          refine w_M_addTerm_40 (thr0 hm (fun σ1 m1 f1 y1 => ⟨m1.1, ?_⟩))
          have h1 := isM_scr h hA f1 (fun _ q => Or.inl q) (fun _ q => q.elim) (fun _ q => q.elim)
          have ht1' := h1.2.1 sl hsl
          rw [eT] at ht1'
          refine (s_M_keeps m1 h1.2.2.1 hA.2.1 ht1' hT hsl).use (by omega) (fun σ2 p2 => ?_)
          have m2 := p2.2.mS m1 (fun f hf => by rw [hf]; decide)
          have ht2' := p2.2.T ht1' hT (by omega)
          have y2 : iv (pm_F σ2 1200 m) = 0 := by rw [p2.2.F (by decide)]; exact y1
          have ru2 := ht2'.2.2.2 k r hr
          rw [oi_row]
          refine ⟨m2.1, (s_M_addsTerm m2 ru2 (by omega) hf ht3 ht4).use (by omega) (fun σ3 p3 => ?_)⟩
          have m3 := p3.2.mS m2
          have tt := mTr_upd ht2' hT hk p3.2 p3.1
          have fM : frM m (fun s => s = sl) σ2 σ3 := p3.2.M (by omega) (by omega)
          have g := isM_chg h hA hsl (frX.mono f1 (fun _ q => q) (fun _ q => q.elim) (fun _ q => q.elim)) (As0 := fun _ => False) (fun _ q => q.elim) (by rw [eT]; exact p2.1) p2.2 fM.X (fun _ q => q.elim) (fun i q => by omega) (fun _ q => q) tt
          have len : iv (pm_A σ3 (m + 7) (40 * sl + k)) = Int32.ofInt (((rTs r).length + 1 : Nat) : Int) := by
            rw [p3.1.2.2.2.2.1]
            show Int32.ofInt (((rTs r) ++ [t]).length : Int) = _
            rw [List.length_append]; rfl
          simp only [m3.1, m3.f7, m3.t7, m3.l7, isr_ref, rv_ref, vr, wr, len, true_and, forall_eq]
          exact ⟨⟨_, rfl, fun _ => rfl⟩, by rw [fM.X.F id]; exact y2, g.1, g.2⟩
      · refine ⟨3, 0, A, hA, fun σ h hL => ?_, fun σ h => ?_⟩
        · refine w_L_addTerm_0 ⟨h.1.1, w_B_addTerm_0 (q_slot r1 (fun _ => bB (w_B_addTerm_7 ?_)) (fun n => absurd hv.1 n))⟩
          obtain ⟨π, ht⟩ := h.2.1 sl hsl
          rw [eT] at ht
          simp only [nlt, n100, not_true_eq_false, not_false_eq_true, false_implies, true_implies, true_and, and_true]
          refine ⟨h.1.1, q_rule h r2 hsl (fun _ => ?_) (fun n => absurd (by rw [eT]; exact hr2) n)⟩
          have ra := ht.at hr
          have q6 : ¬ Int32.ofInt ((rTs r).length : Int) < 6 := by rw [z_lt6 (nrg (by omega))]; omega
          simp only [h.1.1, h.1.2.1.1, h.1.2.2.1, h.1.2.2.2.1, h.1.2.2.2.2 sl hsl, isr_ref, rv_ref, v4, ws, ht.1.1, ht.1.2.1, ht.1.2.2.1, ht.1.2.2.2.1, ra.1, ra.2.1, ra.2.2.1, ra.2.2.2.1.1, ra.2.2.2.2.2.2.1, iv_int, q6, not_false_eq_true, false_implies, true_implies, true_and, and_true, forall_eq]
          exact k_L_addTerm_18 (L_thr i3_ne h)
        · have hm := h.1
          have ht := h.2.1 sl hsl
          rw [eT] at ht
          have l40 := ht.2.2.1
          have vr := vi (show 40 * sl + k < 520 by omega) (by omega)
          have wr := vc (show 40 * sl + k < 2000000 by omega)
          refine w_M_addTerm_0 (gD (s_M_isSlot r1) (by omega) (fun n => absurd hv.1 n) (fun _ => bM (w_M_addTerm_10 (gD (s_M_in r4 hle (b := 99) ⟨by decide, by decide⟩) (by omega) (fun n => absurd hv.2 (by omega)) (fun _ => ?_)))))
          simp only [hm.1, hm.f2, hm.t2, hm.l2, isr_ref, rv_ref, v13, ws, ht.2.1, true_and, forall_eq]
          refine g_in r2 (by omega) (fun n => absurd hr2 n) (fun _ => ?_)
          have rk := ht.2.2.2 k r hr
          have q6 : Int32.ofInt ((rTs r).length : Int) = 6 := by rw [z_eq6 (nrg (by omega))]; omega
          simp only [hm.1, hm.f7, hm.t7, hm.l7, isr_ref, rv_ref, oi_row, vr, wr, rk.2.2.2.2.1, q6, not_true_eq_false, false_implies, true_implies, true_and, and_true, forall_eq]
          exact w_M_addTerm_40 (thrK hm i3_ne (fun σ1 m1 f1 y1 => mOut_e i3_ne h hA f1 y1))
    · refine ⟨2, 0, A, hA, fun σ h hL => ?_, fun σ h => ?_⟩
      · refine w_L_addTerm_0 ⟨h.1.1, w_B_addTerm_0 (q_slot r1 (fun _ => bB (w_B_addTerm_7 ?_)) (fun n => absurd hv.1 n))⟩
        simp only [nlt, n100, not_true_eq_false, not_false_eq_true, false_implies, true_implies, true_and, and_true]
        exact ⟨h.1.1, q_rule h r2 hsl (fun n => absurd (by rw [eT] at n; exact n) hr2) (fun n => k_L_addTerm_15 (L_thr i2_ne h))⟩
      · have hm := h.1
        have ht := h.2.1 sl hsl
        rw [eT] at ht
        have l40 := ht.2.2.1
        refine w_M_addTerm_0 (gD (s_M_isSlot r1) (by omega) (fun n => absurd hv.1 n) (fun _ => bM (w_M_addTerm_10 (gD (s_M_in r4 hle (b := 99) ⟨by decide, by decide⟩) (by omega) (fun n => absurd hv.2 (by omega)) (fun _ => ?_)))))
        simp only [hm.1, hm.f2, hm.t2, hm.l2, isr_ref, rv_ref, v13, ws, ht.2.1, true_and, forall_eq]
        exact g_in r2 (by omega) (fun n => w_M_addTerm_40 (thrK hm i2_ne (fun σ1 m1 f1 y1 => mOut_e i2_ne h hA f1 y1))) (fun n => absurd n hr2)
  · refine ⟨1, 0, A, hA, fun σ h hL => ?_, fun σ h => ?_⟩
    · refine w_L_addTerm_0 ⟨h.1.1, w_B_addTerm_0 (q_slot r1 (fun s1 => bB (w_B_addTerm_7 ?_)) (fun n => k_L_addTerm_12 (L_thr i1_ne h)))⟩
      rw [oi_lt ⟨r4, hle⟩, z_lt100 r4]
      exact ⟨fun _ => k_L_addTerm_12 (L_thr i1_ne h), fun e => ⟨fun e2 => absurd ⟨s1, by omega, e2⟩ hv, fun _ => k_L_addTerm_12 (L_thr i1_ne h)⟩⟩
    · have fin : pm_R 39 184 40 [.ref m, .int (Int32.ofInt z1), .int (Int32.ofInt z2), .int (bI b), .int (Int32.ofInt z4)] [.int ((1 : Int32)), .ref m] σ (mOut m σ 1 0 A) := w_M_addTerm_40 (thrK h.1 i1_ne (fun σ1 m1 f1 y1 => mOut_e i1_ne h hA f1 y1))
      exact w_M_addTerm_0 (gD (s_M_isSlot r1) (by omega) (fun n => fin) (fun s1 => bM (w_M_addTerm_10 (gD (s_M_in r4 hle (b := 99) ⟨by decide, by decide⟩) (by omega) (fun n => fin) (fun s2 => absurd ⟨s1, by omega, by omega⟩ hv)))))
