/-! ===== range, term, valueOf ===== -/
theorem cnt_nth {p : Nat → Bool} : ∀ (n i : Nat), i < cnt p n → ∃ s, s < n ∧ p s = true ∧ cnt p s = i := by
  intro n
  induction n with
  | zero => intro i h; exact absurd h (by show ¬ i < 0; omega)
  | succ n ih =>
    intro i h
    rw [cnt_s] at h
    by_cases c : i < cnt p n
    · obtain ⟨s, h1, h2, h3⟩ := ih i c
      exact ⟨s, by omega, h2, h3⟩
    · cases e : p n with
      | false => rw [e] at h; simp at h; omega
      | true => rw [e] at h; simp at h; exact ⟨n, by omega, e, by omega⟩
theorem run_end {p : Nat → Bool} : ∀ (j s : Nat), s + j = 99 → ∃ e, s ≤ e ∧ e < 100 ∧ (e = 99 ∨ p (e + 1) = false) ∧ ∀ t, s < t → t ≤ e → p t = true := by
  intro j
  induction j with
  | zero => intro s h; exact ⟨s, by omega, by omega, Or.inl (by omega), fun t h1 h2 => absurd h1 (by omega)⟩
  | succ j ih =>
    intro s h
    cases e : p (s + 1) with
    | false => exact ⟨s, by omega, by omega, Or.inr e, fun t h1 h2 => absurd h1 (by omega)⟩
    | true =>
      obtain ⟨f, h1, h2, h3, h4⟩ := ih (s + 1) (by omega)
      refine ⟨f, by omega, h2, h3, fun t h5 h6 => ?_⟩
      by_cases c : t = s + 1
      · rw [c]; exact e
      · exact h4 t (by omega) h6
theorem rs_next {lo hi : Int64} {t : Nat} (h : sy lo hi t = true) : rs lo hi (t + 1) = false := by
  unfold rs
  rw [Nat.add_sub_cancel, h]
  simp
theorem s_M_range_50 {σ : pm_H} {m j i tgt : Nat} {r : Rl} {b : Bool} {Q : pm_O → pm_H → Prop} (hm : mS σ m) (rk : mRu σ m j r) (hj : j < 520) (hi : i < 100) (ht : tgt < 100)
    (stay : ∀ s, s < tgt → ¬ (cnt (rs (rLo r) (rHi r)) (s + 1) = i + 1 ∧ sy (rLo r) (rHi r) s = true ∧ (b = false ∨ sy (rLo r) (rHi r) (s + 1) = false)))
    (stop : cnt (rs (rLo r) (rHi r)) (tgt + 1) = i + 1 ∧ sy (rLo r) (rHi r) tgt = true ∧ (b = false ∨ tgt = 99 ∨ sy (rLo r) (rHi r) (tgt + 1) = false))
    (hQ : Q (.inl (some (.int (Int32.ofInt (tgt : Int))))) σ) : pm_R 39 190 50 [.ref m, pm_U, pm_U, .int (Int32.ofInt (i : Int)), .int (bI b), .int (Int32.ofInt (j : Int)), .int (((-1) : Int32)), .int ((0 : Int32))] [] σ Q := by
  have c1 : (-1 : Int32) = Int32.ofInt (((cnt (rs (rLo r) (rHi r)) 0 : Nat) : Int) - 1) := by show (-1 : Int32) = Int32.ofInt (((0 : Nat) : Int) - 1); decide
  rw [c1]
  have sum : ∀ s, Int32.ofInt (((cnt (rs (rLo r) (rHi r)) s : Nat) : Int) - 1) + bI (rs (rLo r) (rHi r) s) = Int32.ofInt (((cnt (rs (rLo r) (rHi r)) (s + 1) : Nat) : Int) - 1) := by
    intro s
    rw [cnt_s]
    cases rs (rLo r) (rHi r) s with
    | false => exact oi_0 _
    | true =>
      show Int32.ofInt _ + 1 = _
      rw [show Int32.ofInt (((cnt (rs (rLo r) (rHi r)) s : Nat) : Int) - 1) + 1 = Int32.ofInt ((((cnt (rs (rLo r) (rHi r)) s : Nat) : Int) - 1) + 1) from oi_addl _ 1]
      congr 1
      simp
  have a71 : ∀ s : Nat, s < 100 → pm_R 39 190 71 [.ref m, pm_U, pm_U, .int (Int32.ofInt (i : Int)), .int (bI b), .int (Int32.ofInt (j : Int)), pm_U, .int (Int32.ofInt (s : Int))] [.int (bI (rs (rLo r) (rHi r) s)), .int (Int32.ofInt (((cnt (rs (rLo r) (rHi r)) s : Nat) : Int) - 1))] σ Q → pm_R 39 190 50 [.ref m, pm_U, pm_U, .int (Int32.ofInt (i : Int)), .int (bI b), .int (Int32.ofInt (j : Int)), .int (Int32.ofInt (((cnt (rs (rLo r) (rHi r)) s : Nat) : Int) - 1)), .int (Int32.ofInt (s : Int))] [] σ Q := by
    intro s hs hh
    refine w_M_range_50 ⟨fun q => ?_, fun _ => ⟨hm.1, gI (s_M_guards hm rk hj hs) (by omega) (fun e => ?_) (fun e => ⟨fun e0 => ?_, fun e0 => ⟨hm.1, ?_⟩⟩)⟩⟩
    · rw [i32_100 (by omega)] at q; omega
    · have : rs (rLo r) (rHi r) s = false := by unfold rs; rw [e]; rfl
      rw [this] at hh; exact hh
    · rw [z_eq0 (nrg (by omega))] at e0
      have e0' : s = 0 := by omega
      have : rs (rLo r) (rHi r) s = true := by unfold rs; rw [e, e0']; rfl
      rw [this] at hh; exact hh
    · rw [z_eq0 (nrg (by omega))] at e0
      have e1 : Int32.ofInt (s : Int) - 1 = Int32.ofInt ((s - 1 : Nat) : Int) := by rw [oi_sub1]; congr 1; omega
      rw [e1]
      have nz : (s == 0) = false := by simp; omega
      refine gI (s_M_guards hm rk hj (show s - 1 < 100 by omega)) (by omega) (fun e2 => ?_) (fun e2 => ?_)
      · have : rs (rLo r) (rHi r) s = true := by unfold rs; rw [e, e2, nz]; rfl
        rw [this] at hh; exact hh
      · have : rs (rLo r) (rHi r) s = false := by unfold rs; rw [e, e2, nz]; rfl
        rw [this] at hh; exact hh
  refine lp0 (fun s => [.ref m, pm_U, pm_U, .int (Int32.ofInt (i : Int)), .int (bI b), .int (Int32.ofInt (j : Int)), .int (Int32.ofInt (((cnt (rs (rLo r) (rHi r)) s : Nat) : Int) - 1)), .int (Int32.ofInt (s : Nat))]) tgt (fun s hs next => ?_) ?_ 0 (Nat.zero_le _)
  · refine a71 s (by omega) (w_M_range_71 ?_)
    have cl := cnt_le (rs (rLo r) (rHi r)) (s + 1)
    simp only [sum, oi_s]
    rw [oi_eq (by omega)]
    refine ⟨fun e => ⟨hm.1, gI (s_M_guards hm rk hj (show s < 100 by omega)) (by omega) (fun e2 => next) (fun e2 => ?_)⟩, fun _ => next⟩
    have st := stay s hs
    have e' : cnt (rs (rLo r) (rHi r)) (s + 1) = i + 1 := by omega
    have bt : b = true := by
      cases b with
      | true => rfl
      | false => exact absurd ⟨e', e2, Or.inl rfl⟩ st
    have s1 : sy (rLo r) (rHi r) (s + 1) = true := by
      cases es : sy (rLo r) (rHi r) (s + 1) with
      | true => rfl
      | false => exact absurd ⟨e', e2, Or.inr es⟩ st
    refine ⟨fun q => ?_, fun _ => ⟨fun q => ?_, fun _ => ⟨hm.1, gI (s_M_guards hm rk hj (show s + 1 < 100 by omega)) (by omega) (fun e3 => ?_) (fun e3 => next)⟩⟩⟩
    · rw [bI_0, bt] at q; cases q
    · rw [z_eq99 (nrg (by omega))] at q; omega
    · rw [s1] at e3; cases e3
  · refine a71 tgt ht (w_M_range_71 ?_)
    have cl := cnt_le (rs (rLo r) (rHi r)) (tgt + 1)
    simp only [sum, oi_s]
    rw [oi_eq (by omega)]
    refine ⟨fun e => ⟨hm.1, gI (s_M_guards hm rk hj ht) (by omega) (fun e2 => ?_) (fun e2 => ⟨fun _ => hQ, fun q => ⟨fun _ => hQ, fun q2 => ⟨hm.1, ?_⟩⟩⟩)⟩, fun q => absurd (by omega) q⟩
    · rw [stop.2.1] at e2; cases e2
    · rw [z_eq99 (nrg (by omega))] at q2
      rw [bI_1] at q
      refine gI (s_M_guards hm rk hj (show tgt + 1 < 100 by omega)) (by omega) (fun e3 => hQ) (fun e3 => ?_)
      rcases stop.2.2 with c | c | c
      · rw [q] at c; cases c
      · omega
      · rw [e3] at c; cases c
theorem J_range {x m N0 L : Nat} {A : AS} (hA : okA A) {z1 z2 z3 : Int} {b : Bool} (r1 : rg z1) (r2 : rg z2) (r3 : rg z3) : ∃ k v A', okA A' ∧ (∀ σ, isB σ x N0 A → isL σ x N0 L → pm_C 39 257 [.ref x, .int (Int32.ofInt z1), .int (Int32.ofInt z2), .int (Int32.ofInt z3), .int (bI b), .ref L] σ (bOut x N0 1 6 σ k v A' L)) ∧ ∀ σ, isM σ m A → pm_C 39 190 [.ref m, .int (Int32.ofInt z1), .int (Int32.ofInt z2), .int (Int32.ofInt z3), .int (bI b)] σ (mOut m σ k v A') := by
  by_cases hv : 0 ≤ z1 ∧ z1 < 4
  · obtain ⟨sl, rfl⟩ : ∃ n : Nat, z1 = n := ⟨z1.toNat, by omega⟩
    have hsl : sl < 4 := by omega
    have hT := hA.1 sl hsl
    generalize eT : aS A sl = T at hT
    have v4 := vi (show sl < 4 from hsl) (by omega)
    have v13 := vi (show sl < 13 by omega) (by omega)
    have ws := vc (show sl < 2000000 by omega)
    by_cases hr2 : 0 ≤ z2 ∧ z2 < T.2.length
    · obtain ⟨k, rfl⟩ : ∃ n : Nat, z2 = n := ⟨z2.toNat, by omega⟩
      have hk : k < T.2.length := by omega
      have hr := List.getElem?_eq_getElem hk
      generalize T.2[k] = r at hr
      have ok := hT.at hr
      have cl := cnt_le (rs (rLo r) (rHi r)) 100
      by_cases hi : 0 ≤ z3 ∧ z3 < cnt (rs (rLo r) (rHi r)) 100
      · obtain ⟨i, rfl⟩ : ∃ n : Nat, z3 = n := ⟨z3.toNat, by omega⟩
        have hi' : i < cnt (rs (rLo r) (rHi r)) 100 := by omega
        obtain ⟨s, hs, ps, cs⟩ := cnt_nth 100 i hi'
        obtain ⟨e, he1, he2, he3, he4⟩ := run_end (p := sy (rLo r) (rHi r)) (99 - s) s (by omega)
        have sys : sy (rLo r) (rHi r) s = true := by unfold rs at ps; rw [Bool.and_eq_true] at ps; exact ps.1
        have syt : ∀ t, s ≤ t → t ≤ e → sy (rLo r) (rHi r) t = true := fun t h1 h2 => by
          by_cases c : t = s
          · rw [c]; exact sys
          · exact he4 t (by omega) h2
        have ct : ∀ t, s ≤ t → t ≤ e → cnt (rs (rLo r) (rHi r)) (t + 1) = i + 1 := by
          intro t h1
          induction t with
          | zero => intro h2; have : s = 0 := by omega
                    subst this; rw [cnt_s, ps, cs]; rfl
          | succ t ih =>
            intro h2
            by_cases c : s = t + 1
            · subst c; rw [cnt_s, ps, cs]; rfl
            · rw [cnt_s, rs_next (syt t (by omega) (by omega)), ih (by omega) (by omega)]; rfl
        have cb : ∀ t, t < s → ¬ cnt (rs (rLo r) (rHi r)) (t + 1) = i + 1 := fun t h q => by
          have := cnt_mono (rs (rLo r) (rHi r)) (show t + 1 ≤ s by omega)
          omega
        refine ⟨0, (Int32.ofInt (((if b then e else s) : Nat) : Int)).toInt64, A, hA, fun σ h hL => ?_, fun σ h => ?_⟩
        · refine w_L_range_0 ⟨h.1.1, w_B_range_0 (q_slot r1 (fun _ => ⟨h.1.1, q_rule h r2 hsl (fun _ => ?_) (fun n => absurd (by rw [eT]; exact hr2) n)⟩) (fun n => absurd hv n))⟩
          obtain ⟨π, ht⟩ := h.2.1 sl hsl
          rw [eT] at ht
          have ra := ht.at hr
          have n0 : ¬ Int32.ofInt (i : Int) < 0 := by rw [z_lt0 r3]; omega
          simp only [h.1.1, h.1.2.1.1, h.1.2.2.1, h.1.2.2.2.1, h.1.2.2.2.2 sl hsl, isr_ref, rv_ref, v4, ws, ht.1.1, ht.1.2.1, ht.1.2.2.1, ht.1.2.2.2.1, ra.1, ra.2.1, ra.2.2.1, ra.2.2.2.1.1, ra.2.2.2.1.2.1, ra.2.2.2.1.2.2.2.1, n0, not_false_eq_true, false_implies, true_implies, true_and, forall_eq]
          refine (s_rangeCount ra.2.2.2.g).use (by omega) ?_
          rw [oi_nat, oi_lt (by omega)]
          refine ⟨fun _ => ⟨ra.2.2.2.1.2.2.2.1, ?_⟩, fun q => absurd (by omega) q⟩
          have st := s_rangeStart ra.2.2.2.g hs ps
          rw [cs, oi_nat] at st
          refine st.use (by omega) ⟨fun q => ?_, fun q => ⟨ra.2.2.2.1.2.2.2.1, (s_rangeEnd ra.2.2.2.g he1 he2 he3 he4).use (by omega) ?_⟩⟩
          · rw [bI_0] at q
            rw [q, oi_nat]; exact L_ok2 hL h fB_rf
          · rw [bI_1] at q
            rw [q, oi_nat]; exact L_ok2 hL h fB_rf
        · have hm := h.1
          have ht := h.2.1 sl hsl
          rw [eT] at ht
          have l40 := ht.2.2.1
          have rk := ht.2.2.2 k r hr
          refine w_M_range_0 (gD (s_M_isSlot r1) (by omega) (fun n => absurd hv n) (fun _ => ?_))
          simp only [hm.1, hm.f2, hm.t2, hm.l2, isr_ref, rv_ref, v13, ws, ht.2.1, true_and, forall_eq]
          refine g_in r2 (by omega) (fun n => absurd hr2 n) (fun _ => ?_)
          rw [oi_row]
          refine ⟨hm.1, (s_M_rangeMany hm rk (show 40 * sl + k < 520 by omega)).use (show 1 ≤ 38 by decide) (g_in r3 (by omega) (fun n => absurd hi n) (fun _ => w_M_range_34 (thr0 hm (fun σ1 m1 f1 y1 => ?_))))⟩
          have h1 := isM_scr h hA f1 (fun _ q => Or.inl q) (fun _ q => q.elim) (fun _ q => q.elim)
          have ht1 := h1.2.1 sl hsl
          rw [eT] at ht1
          have rk1 := ht1.2.2.2 k r hr
          rw [oi_row]
          cases b with
          | false => exact s_M_range_50 m1 rk1 (by omega) (by omega) hs (fun t h2 q => cb t h2 q.1) ⟨ct s (by omega) he1, sys, Or.inl rfl⟩ (mOut_0 h hA f1 y1)
          | true =>
            refine s_M_range_50 m1 rk1 (by omega) (by omega) he2 (fun t h2 q => ?_) ⟨ct e he1 (by omega), syt e he1 (by omega), Or.inr he3⟩ (mOut_0 h hA f1 y1)
            by_cases c : t < s
            · exact cb t c q.1
            · have := syt (t + 1) (by omega) (by omega)
              rcases q.2.2 with q | q
              · cases q
              · rw [this] at q; cases q
      · refine ⟨2, 0, A, hA, fun σ h hL => ?_, fun σ h => ?_⟩
        · refine w_L_range_0 ⟨h.1.1, w_B_range_0 (q_slot r1 (fun _ => ⟨h.1.1, q_rule h r2 hsl (fun _ => ?_) (fun n => absurd (by rw [eT]; exact hr2) n)⟩) (fun n => absurd hv n))⟩
          obtain ⟨π, ht⟩ := h.2.1 sl hsl
          rw [eT] at ht
          have ra := ht.at hr
          simp only [h.1.1, h.1.2.1.1, h.1.2.2.1, h.1.2.2.2.1, h.1.2.2.2.2 sl hsl, isr_ref, rv_ref, v4, ws, ht.1.1, ht.1.2.1, ht.1.2.2.1, ht.1.2.2.2.1, ra.1, ra.2.1, ra.2.2.1, ra.2.2.2.1.1, ra.2.2.2.1.2.1, ra.2.2.2.1.2.2.2.1, true_and, forall_eq]
          refine ⟨fun _ => k_L_range_15 (L_thr i2_ne h), fun e0 => (s_rangeCount ra.2.2.2.g).use (by omega) ?_⟩
          rw [z_lt0 r3] at e0
          rw [oi_nat, oi_lt ⟨r3, by omega⟩]
          exact ⟨fun q => absurd ⟨by omega, q⟩ hi, fun _ => k_L_range_15 (L_thr i2_ne h)⟩
        · have hm := h.1
          have ht := h.2.1 sl hsl
          rw [eT] at ht
          have l40 := ht.2.2.1
          have rk := ht.2.2.2 k r hr
          refine w_M_range_0 (gD (s_M_isSlot r1) (by omega) (fun n => absurd hv n) (fun _ => ?_))
          simp only [hm.1, hm.f2, hm.t2, hm.l2, isr_ref, rv_ref, v13, ws, ht.2.1, true_and, forall_eq]
          refine g_in r2 (by omega) (fun n => absurd hr2 n) (fun _ => ?_)
          rw [oi_row]
          exact ⟨hm.1, (s_M_rangeMany hm rk (show 40 * sl + k < 520 by omega)).use (show 1 ≤ 38 by decide) (g_in r3 (by omega) (fun _ => w_M_range_34 (thrK hm i2_ne (fun σ1 m1 f1 y1 => mOut_e i2_ne h hA f1 y1))) (fun n => absurd n hi))⟩
    · refine ⟨2, 0, A, hA, fun σ h hL => ?_, fun σ h => ?_⟩
      · exact w_L_range_0 ⟨h.1.1, w_B_range_0 (q_slot r1 (fun _ => ⟨h.1.1, q_rule h r2 hsl (fun n => absurd (by rw [eT] at n; exact n) hr2) (fun n => k_L_range_15 (L_thr i2_ne h))⟩) (fun n => absurd hv n))⟩
      · have hm := h.1
        have ht := h.2.1 sl hsl
        rw [eT] at ht
        have l40 := ht.2.2.1
        refine w_M_range_0 (gD (s_M_isSlot r1) (by omega) (fun n => absurd hv n) (fun _ => ?_))
        simp only [hm.1, hm.f2, hm.t2, hm.l2, isr_ref, rv_ref, v13, ws, ht.2.1, true_and, forall_eq]
        exact g_in r2 (by omega) (fun _ => w_M_range_34 (thrK hm i2_ne (fun σ1 m1 f1 y1 => mOut_e i2_ne h hA f1 y1))) (fun n => absurd n hr2)
  · refine ⟨1, 0, A, hA, fun σ h hL => ?_, fun σ h => ?_⟩
    · exact w_L_range_0 ⟨h.1.1, w_B_range_0 (q_slot r1 (fun s1 => absurd s1 hv) (fun n => k_L_range_12 (L_thr i1_ne h)))⟩
    · exact w_M_range_0 (gD (s_M_isSlot r1) (by omega) (fun n => w_M_range_34 (thrK h.1 i1_ne (fun σ1 m1 f1 y1 => mOut_e i1_ne h hA f1 y1))) (fun s1 => absurd s1 hv))
