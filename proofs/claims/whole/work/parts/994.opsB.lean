/-! ===== addRule, addRange ===== -/
theorem s_M_isRange {σ : pm_H} {a b : Int} (ha : rg a) (hb : rg b) : cI 2 180 [.int (Int32.ofInt a), .int (Int32.ofInt b)] σ (bI (decide (0 ≤ a ∧ a ≤ b ∧ b < 100))) := by
  refine w_M_isRange_0 (gD (s_M_isSymbol ha) (by omega) (fun n => ⟨rfl, ?_⟩) (fun h1 => gD (s_M_isSymbol hb) (by omega) (fun n => ⟨rfl, ?_⟩) (fun h2 => ?_)))
  · rw [decide_eq_false (by omega)]; exact ⟨rfl, rfl⟩
  · rw [decide_eq_false (by omega)]; exact ⟨rfl, rfl⟩
  · rw [oi_lt ⟨hb, ha⟩]
    refine ⟨fun e => ⟨rfl, ?_⟩, fun e => ⟨rfl, ?_⟩⟩
    · rw [decide_eq_false (by omega)]; exact ⟨rfl, rfl⟩
    · rw [decide_eq_true (by omega)]; exact ⟨rfl, rfl⟩
theorem okG_mB {a b : Int} (ha : -1000000 ≤ a ∧ a < 1000000) (hb : b < 100 ∧ -1000000 ≤ b) : okG (mB (Int32.ofInt a - 64) (Int32.ofInt b - 64)) := by
  intro j hj
  by_cases hj2 : j < 64
  · have e1 : Int32.ofInt a - 64 = Int32.ofInt (a - 64) := oi_subl a 64
    have e2 : Int32.ofInt b - 64 = Int32.ofInt (b - 64) := oi_subl b 64
    rw [e1, e2, bt_mB' (by omega) (by omega) hj2, decide_eq_false_iff_not]
    omega
  · exact bt_ge _ (by omega)
theorem rng_eq {lo hi lo' hi' : Int64} {a b : Nat} (hb : b < 100) (ha : a < 100) (g : okG hi) (g' : okG hi') (h : ∀ t, t < 100 → sy lo' hi' t = (sy lo hi t || decide (a ≤ t ∧ t < b + 1))) : lo' = lo ||| mB (Int32.ofInt (a : Int)) (Int32.ofInt (b : Int)) ∧ hi' = hi ||| mB (Int32.ofInt (a : Int) - 64) (Int32.ofInt (b : Int) - 64) := by
  refine sy_ext g' (okG_or g (okG_mB (by omega) (by omega))) (fun s hs => ?_)
  rw [h s hs, sy_or, sy_mB (by omega) (by omega) hs]
  congr 1
  rw [decide_eq_decide]; omega
/-- the model's loop that adds a range -/
def addG (m j : Nat) (r : Rl) (a c : Nat) (σ : pm_H) (x : Int64 × Int64) (τ : pm_H) : Prop := mRu τ m j (rG r x.1 x.2) ∧ frR m j σ τ ∧ okG x.2 ∧ ∀ t, t < 100 → sy x.1 x.2 t = (sy (rLo r) (rHi r) t || decide (a ≤ t ∧ t < c))
theorem addG_0 {m j a : Nat} {r : Rl} {σ : pm_H} (h : mRu σ m j r) (g : okG (rHi r)) : addG m j r a a σ (rLo r, rHi r) σ := ⟨h, frR.rf, g, fun t ht => by rw [decide_eq_false (by omega), Bool.or_false]⟩
theorem addG_s {m j a c : Nat} {r : Rl} {σ τ : pm_H} {x : Int64 × Int64} {K : pm_H → Prop} {X : Nat → pm_H → Prop} {d : Nat} (h : addG m j r a c σ x τ) (hm : mS σ m) (hj : j < 520) (hac : a ≤ c) (hc : c < 100) (hK : ∀ τ', addG m j r a (c + 1) σ (addLo x.1 c, addHi x.2 c) τ' → K τ') : pm_t τ m = 13 ∧ pm_C d 172 [.ref m, .int (Int32.ofInt (j : Int)), .int (Int32.ofInt (c : Int))] τ (pm_kV K X) := by
  have mt := h.2.1.mS hm
  refine ⟨mt.1, (s_M_adds mt h.1 hj hc).use (by omega) (fun τ' p => hK τ' ⟨p.1, h.2.1.tr p.2, okG_add h.2.2.1 hc, fun t ht => ?_⟩)⟩
  rw [sy_add hc ht, h.2.2.2 t ht, Bool.or_assoc]
  congr 1
  rw [Bool.eq_iff_iff, Bool.or_eq_true, decide_eq_true_eq, decide_eq_true_eq, decide_eq_true_eq]
  omega
theorem oi_2n (z : Int32) : (40 : Int32) * z = 40 * z := rfl
theorem J_addRule {x m N0 L : Nat} {A : AS} (hA : okA A) {z1 z2 z3 z4 z5 : Int} (r1 : rg z1) (r2 : rg z2) (r3 : rg z3) (r4 : rg z4) (r5 : rg z5) : ∃ k v A', okA A' ∧ (∀ σ, isB σ x N0 A → isL σ x N0 L → pm_C 39 250 [.ref x, .int (Int32.ofInt z1), .int (Int32.ofInt z2), .int (Int32.ofInt z3), .int (Int32.ofInt z4), .int (Int32.ofInt z5), .ref L] σ (bOut x N0 1 6 σ k v A' L)) ∧ ∀ σ, isM σ m A → pm_C 39 181 [.ref m, .int (Int32.ofInt z1), .int (Int32.ofInt z2), .int (Int32.ofInt z3), .int (Int32.ofInt z4), .int (Int32.ofInt z5)] σ (mOut m σ k v A') := by
  by_cases hv : (0 ≤ z1 ∧ z1 < 4) ∧ (0 ≤ z2 ∧ z2 < 12) ∧ (0 ≤ z3 ∧ z3 < 12) ∧ (0 ≤ z4 ∧ z4 ≤ z5 ∧ z5 < 100)
  · obtain ⟨sl, rfl⟩ : ∃ n : Nat, z1 = n := ⟨z1.toNat, by omega⟩
    obtain ⟨f, rfl⟩ : ∃ n : Nat, z2 = n := ⟨z2.toNat, by omega⟩
    obtain ⟨t, rfl⟩ : ∃ n : Nat, z3 = n := ⟨z3.toNat, by omega⟩
    obtain ⟨a, rfl⟩ : ∃ n : Nat, z4 = n := ⟨z4.toNat, by omega⟩
    obtain ⟨b, rfl⟩ : ∃ n : Nat, z5 = n := ⟨z5.toNat, by omega⟩
    have hsl : sl < 4 := by omega
    have hT := hA.1 sl hsl
    generalize eT : aS A sl = T at hT
    have v4 := vi (show sl < 4 from hsl) (by omega)
    have v13 := vi (show sl < 13 by omega) (by omega)
    have ws := vc (show sl < 2000000 by omega)
    by_cases hl : T.2.length < 40
    · let nr : Rl := (f, t, 0 ||| mB (Int32.ofInt (a : Int)) (Int32.ofInt (b : Int)), 0 ||| mB (Int32.ofInt (a : Int) - 64) (Int32.ofInt (b : Int) - 64), [])
      have hnr : okR nr := ⟨by show f < 12; omega, by show t < 12; omega, okG_or okG_0 (okG_mB (by omega) (by omega)), by show 0 ≤ 6; omega, fun t ht => by cases ht⟩
      have hT' : okTr (T.1, T.2 ++ [nr]) := ⟨hT.1, fun r hr => by
        rcases List.mem_append.mp hr with hr | hr
        · exact hT.2 r hr
        · rw [List.mem_singleton.mp hr]; exact hnr⟩
      refine ⟨0, (Int32.ofInt (T.2.length : Int)).toInt64, chg A sl (T.1, T.2 ++ [nr]), okA_chg hA hsl hT', fun σ h hL => ?_, fun σ h => ?_⟩
      · refine w_L_addRule_0 ⟨h.1.1, w_B_addRule_0 (q_slot r1 (fun _ => q_state r2 (fun _ => q_state r3 (fun _ => q_symbols r4 r5 (fun _ => ?_) (fun n => absurd hv.2.2.2 n)) (fun n => absurd hv.2.2.1 n)) (fun n => absurd hv.2.1 n)) (fun n => absurd hv.1 n))⟩
        obtain ⟨π, ht⟩ := h.2.1 sl hsl
        rw [eT] at ht
        simp only [h.1.1, h.1.2.1.1, h.1.2.2.1, h.1.2.2.2.1, h.1.2.2.2.2 sl hsl, isr_ref, rv_ref, v4, ws, ht.1.1, true_and, forall_eq]
        refine gD (s_Tr_isFull ht) (by omega) (fun _ => ?_) (fun n => absurd hl (by omega))
        simp only [h.1.1, h.1.2.1.2.2.1, isr_ref, rv_ref, h.2.2.2.1.1.1, true_and, forall_eq]
        refine (s_Hi_save h.2.2.2.1 ht hT (by omega) hsl).use (by omega) (fun σ1 p1 => ?_)
        have ht1 := isTr_fr ht p1.2 (fun b hb => by unfold pTr at hb; unfold pHi; omega)
        refine ⟨ht1.1.1, (s_Tr_append ht1 hl).use (by omega) (fun σ2 p2 => ?_)⟩
        have hk : (T.2 ++ [((f, t, 0, 0, []) : Rl)])[T.2.length]? = some (f, t, 0, 0, []) := by simp
        have ra := (p2.1.at hk).2.2.2
        have hπ := (p2.1.2.1.1 T.2.length hl).1
        simp only [ra.1.1, ra.1.2.1, ra.1.2.2.2.1, isr_ref, rv_ref, true_and, forall_eq]
        refine (s_include ra.g).use (by omega) (fun σ3 e3 => ?_)
        have g3 := isRu_guard ra (0 ||| mB (Int32.ofInt (a : Int)) (Int32.ofInt (b : Int))) (0 ||| mB (Int32.ofInt (a : Int) - 64) (Int32.ofInt (b : Int) - 64))
        have e3' : σ3 = uSy σ2 (x + 2 + 122 * sl + 2 + 3 * π T.2.length + 1) (0 ||| mB (Int32.ofInt (a : Int)) (Int32.ofInt (b : Int))) (0 ||| mB (Int32.ofInt (a : Int) - 64) (Int32.ofInt (b : Int) - 64)) := e3
        rw [← e3'] at g3
        have t3 := isTr_upd p2.1 (k := T.2.length) (by simp) g3.2 g3.1
        have es : (T.2 ++ [((f, t, 0, 0, []) : Rl)]).set T.2.length (rG (f, t, 0, 0, []) (0 ||| mB (Int32.ofInt (a : Int)) (Int32.ofInt (b : Int))) (0 ||| mB (Int32.ofInt (a : Int) - 64) (Int32.ofInt (b : Int) - 64))) = T.2 ++ [nr] := mid_set rfl
        have t3' : isTr σ3 (x + 2 + 122 * sl) (T.1, T.2 ++ [nr]) π := by rw [← es]; exact t3
        have g := isB_chg h hsl (by rw [eT]; exact p1.1) p1.2 (p2.2.tr (g3.2.mono (fun c hc => by unfold pRu at hc; unfold pTr; omega))) ⟨π, t3'⟩
        have len : iv (pm_F σ3 901 (x + 2 + 122 * sl)) - 1 = Int32.ofInt (T.2.length : Int) := by
          rw [t3'.2.2.1]
          show Int32.ofInt ((T.2 ++ [nr]).length : Int) - 1 = _
          rw [List.length_append, show Int32.ofInt ((T.2.length + [nr].length : Nat) : Int) - 1 = Int32.ofInt (((T.2.length + [nr].length : Nat) : Int) - 1) from oi_subl _ 1]
          congr 1
          simp
        refine ⟨t3'.1.1, ?_⟩
        rw [len]
        exact L_ok2 hL g.1 g.2
      · have hm := h.1
        have ht := h.2.1 sl hsl
        rw [eT] at ht
        refine w_M_addRule_0 (gD (s_M_isSlot r1) (by omega) (fun n => absurd hv.1 n) (fun _ => gD (s_M_isState r2) (by omega) (fun n => absurd hv.2.1 n) (fun _ => gD (s_M_isState r3) (by omega) (fun n => absurd hv.2.2.1 n) (fun _ => gD (s_M_isRange r4 r5) (by omega) (fun n => absurd hv.2.2.2 n) (fun _ => ?_)))))
        have q40 : ¬ Int32.ofInt (T.2.length : Int) = 40 := by rw [z_eq40 (nrg (by omega))]; omega
        simp only [hm.1, hm.f2, hm.t2, hm.l2, isr_ref, rv_ref, v13, ws, ht.2.1, q40, not_false_eq_true, false_implies, true_implies, true_and, forall_eq]
        refine w_M_addRule_25 (thr0 hm (fun σ1 m1 f1 y1 => ⟨m1.1, ?_⟩))
        have h1 := isM_scr h hA f1 (fun _ q => Or.inl q) (fun _ q => q.elim) (fun _ q => q.elim)
        have ht1 := h1.2.1 sl hsl
        rw [eT] at ht1
        refine (s_M_keeps m1 h1.2.2.1 hA.2.1 ht1 hT hsl).use (by omega) (fun σ2 p2 => ?_)
        have m2 := p2.2.mS m1 (fun f hf => by rw [hf]; decide)
        have ht2 := p2.2.T ht1 hT (by omega)
        have y2 : iv (pm_F σ2 1200 m) = 0 := by rw [p2.2.F (by decide)]; exact y1
        refine ⟨m2.1, (s_M_opens m2 ht2 hT (by omega) hl).use (by omega) (fun σ3 p3 => ?_)⟩
        have m3 := p3.2.mS m2
        have hk : (T.2 ++ [((f, t, 0, 0, []) : Rl)])[T.2.length]? = some (f, t, 0, 0, []) := by simp
        have ru3 := p3.1.2.2.2 T.2.length _ hk
        have hT3 : okTr (T.1, T.2 ++ [((f, t, 0, 0, []) : Rl)]) := ⟨hT.1, fun r hr => by
          rcases List.mem_append.mp hr with hr | hr
          · exact hT.2 r hr
          · rw [List.mem_singleton.mp hr]; exact ⟨by show f < 12; omega, by show t < 12; omega, okG_0, by show 0 ≤ 6; omega, fun t ht => by cases ht⟩⟩
        refine lp_up (fun i (_ : Int64 × Int64) => [.ref m, .int (Int32.ofInt (sl : Int)), pm_U, pm_U, pm_U, .int (Int32.ofInt (b : Int)), .int (Int32.ofInt ((40 * sl + T.2.length : Nat) : Int)), .int (Int32.ofInt ((a + i : Nat) : Int))]) (fun i x τ => addG m (40 * sl + T.2.length) (f, t, 0, 0, []) a (a + i) σ3 x τ) (b + 1 - a) (fun i hi x τ hg next => ?_) (fun x τ hg => ?_) 0 (Nat.zero_le _) (0, 0) σ3 (addG_0 ru3 okG_0)
        · refine w_M_addRule_42 ⟨fun e => ?_, fun e => ?_⟩
          · rw [oi_lt (by omega)] at e; omega
          · refine addG_s hg m3 (by omega) (by omega) (by omega) (fun τ' g' => ?_)
            rw [oi_s]; exact next _ τ' g'
        · have mt := hg.2.1.mS m3
          have e := rng_eq (a := a) (b := b) (lo := 0) (hi := 0) (by omega) (by omega) okG_0 hg.2.2.1 (fun t ht => by rw [hg.2.2.2 t ht]; congr 1; rw [decide_eq_decide]; omega)
          have tt := mTr_upd p3.1 hT3 (k := T.2.length) (by simp) hg.2.1 hg.1
          have es : (T.2 ++ [((f, t, 0, 0, []) : Rl)]).set T.2.length (rG (f, t, 0, 0, []) x.1 x.2) = T.2 ++ [nr] := by rw [mid_set rfl, e.1, e.2]; rfl
          have tt' : mTr τ m sl (T.1, T.2 ++ [nr]) := by rw [← es]; exact tt
          refine w_M_addRule_42 ⟨fun _ => ?_, fun q => ?_⟩
          · have len : iv (pm_A τ (m + 2) sl) - 1 = Int32.ofInt (T.2.length : Int) := by
              rw [tt'.2.1]
              show Int32.ofInt ((T.2 ++ [nr]).length : Int) - 1 = _
              rw [List.length_append, show Int32.ofInt ((T.2.length + [nr].length : Nat) : Int) - 1 = Int32.ofInt (((T.2.length + [nr].length : Nat) : Int) - 1) from oi_subl _ 1]
              congr 1
              simp
            simp only [mt.1, mt.f2, mt.t2, mt.l2, isr_ref, rv_ref, v13, ws, len, true_and, forall_eq]
            have fM : frM m (fun s => s = sl) σ2 τ := p3.2.tr (hg.2.1.M (by omega) (by omega))
            have g := isM_chg h hA hsl (frX.mono f1 (fun _ q => q) (fun _ q => q.elim) (fun _ q => q.elim)) (As0 := fun _ => False) (fun _ q => q.elim) (by rw [eT]; exact p2.1) p2.2 fM.X (fun _ q => q.elim) (fun i q => by omega) (fun _ q => q) tt'
            exact ⟨⟨_, rfl, fun _ => rfl⟩, by rw [fM.X.F id]; exact y2, g.1, g.2⟩
          · rw [oi_lt (by omega)] at q; omega
    · refine ⟨2, 0, A, hA, fun σ h hL => ?_, fun σ h => ?_⟩
      · refine w_L_addRule_0 ⟨h.1.1, w_B_addRule_0 (q_slot r1 (fun _ => q_state r2 (fun _ => q_state r3 (fun _ => q_symbols r4 r5 (fun _ => ?_) (fun n => absurd hv.2.2.2 n)) (fun n => absurd hv.2.2.1 n)) (fun n => absurd hv.2.1 n)) (fun n => absurd hv.1 n))⟩
        obtain ⟨π, ht⟩ := h.2.1 sl hsl
        rw [eT] at ht
        simp only [h.1.1, h.1.2.1.1, h.1.2.2.1, h.1.2.2.2.1, h.1.2.2.2.2 sl hsl, isr_ref, rv_ref, v4, ws, ht.1.1, true_and, forall_eq]
        exact gD (s_Tr_isFull ht) (by omega) (fun n => absurd hl (by omega)) (fun _ => k_L_addRule_16 (L_thr i2_ne h))
      · have hm := h.1
        have ht := h.2.1 sl hsl
        rw [eT] at ht
        refine w_M_addRule_0 (gD (s_M_isSlot r1) (by omega) (fun n => absurd hv.1 n) (fun _ => gD (s_M_isState r2) (by omega) (fun n => absurd hv.2.1 n) (fun _ => gD (s_M_isState r3) (by omega) (fun n => absurd hv.2.2.1 n) (fun _ => gD (s_M_isRange r4 r5) (by omega) (fun n => absurd hv.2.2.2 n) (fun _ => ?_)))))
        have l40 := ht.2.2.1
        have q40 : Int32.ofInt (T.2.length : Int) = 40 := by rw [z_eq40 (nrg (by omega))]; omega
        simp only [hm.1, hm.f2, hm.t2, hm.l2, isr_ref, rv_ref, v13, ws, ht.2.1, q40, not_true_eq_false, false_implies, true_implies, true_and, and_true, forall_eq]
        exact w_M_addRule_25 (thrK hm i2_ne (fun σ1 m1 f1 y1 => mOut_e i2_ne h hA f1 y1))
  · refine ⟨1, 0, A, hA, fun σ h hL => ?_, fun σ h => ?_⟩
    · have ex := k_L_addRule_13 (d := 38) (L_thr (x := x) (N0 := N0) (L := L) i1_ne h)
      exact w_L_addRule_0 ⟨h.1.1, w_B_addRule_0 (q_slot r1 (fun s1 => q_state r2 (fun s2 => q_state r3 (fun s3 => q_symbols r4 r5 (fun s4 => absurd ⟨s1, s2, s3, s4⟩ hv) (fun n => ex)) (fun n => ex)) (fun n => ex)) (fun n => ex))⟩
    · have fin : pm_R 39 181 25 [.ref m, .int (Int32.ofInt z1), .int (Int32.ofInt z2), .int (Int32.ofInt z3), .int (Int32.ofInt z4), .int (Int32.ofInt z5), pm_U, pm_U] [.int ((1 : Int32)), .ref m] σ (mOut m σ 1 0 A) := w_M_addRule_25 (thrK h.1 i1_ne (fun σ1 m1 f1 y1 => mOut_e i1_ne h hA f1 y1))
      exact w_M_addRule_0 (gD (s_M_isSlot r1) (by omega) (fun n => fin) (fun s1 => gD (s_M_isState r2) (by omega) (fun n => fin) (fun s2 => gD (s_M_isState r3) (by omega) (fun n => fin) (fun s3 => gD (s_M_isRange r4 r5) (by omega) (fun n => fin) (fun s4 => absurd ⟨s1, s2, s3, s4⟩ hv)))))
