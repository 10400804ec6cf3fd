/-! ===== isContained ===== -/
theorem sumN_lt {f g : Nat → Nat} {n a : Nat} (h : ∀ i, i < n → f i ≤ g i) (ha : a < n) (hl : f a < g a) : sumN f n < sumN g n := by
  induction n with
  | zero => omega
  | succ n ih =>
    rw [sumN_s, sumN_s]
    by_cases c : a = n
    · subst c
      have := sumN_le (fun i hi => h i (by omega)) (n := a) (f := f) (g := g)
      omega
    · have := ih (fun i hi => h i (by omega)) (by omega)
      have := h n (by omega)
      omega
/-- states that were met and don't wait -/
def done1 (M W : Nat → Nat) (S : Nat) : Nat := cnt (fun q => (M S).testBit q && !(W S).testBit q) 12
theorem cnt_lt12 {p p' : Nat → Bool} {a : Nat} (h : ∀ q, q < 12 → p q = true → p' q = true) (ha : a < 12) (h1 : p a = false) (h2 : p' a = true) : cnt p 12 < cnt p' 12 := by
  have c := cnt_sub h
  rcases Nat.lt_or_ge (cnt p 12) (cnt p' 12) with q | q
  · exact q
  · have := c.2 (by omega) a ha
    rw [h1, h2] at this; cases this
def cI6 (T1 T2 : Tr) (M W : Nat → Nat) (i : Nat) : Prop := (∀ S q, S < 4096 → (M S).testBit q = true → dpr T1.2 T2.2 q S ∧ (T1.1.testBit q = true → S &&& T2.1 ≠ 0)) ∧ (∀ S q, S < 4096 → (W S).testBit q = true → (M S).testBit q = true) ∧ (M 1).testBit 0 = true ∧ (∀ S p, S < 4096 → (M S).testBit p = true → (W S).testBit p = false → ∀ s q, s < 100 → (tg T1.2 p s).testBit q = true → (M (aft T2.2 S s)).testBit q = true) ∧ i ≤ sumN (done1 M W) 4096
/-- nothing waits: it is dwin -/
theorem cI6_end {T1 T2 : Tr} {M W : Nat → Nat} {i : Nat} (h : cI6 T1 T2 M W i) (k2 : okTr T2) (w0 : ∀ S, S < 4096 → W S = 0) : dwin T1 T2 := by
  obtain ⟨h1, -, h3, h4, -⟩ := h
  intro q S hp hf
  have := hp (fun q S => S < 4096 ∧ (M S).testBit q = true) ⟨by omega, h3⟩ (fun p S s q c hp hS hs hq ht => ⟨aftN_lt k2.2 12, h4 S p hS c.2 (by rw [w0 S hS, Nat.zero_testBit]) s q hs ht⟩)
  exact (h1 S q this.1 this.2).2 hf
theorem cI6_full {T1 T2 : Tr} {M W : Nat → Nat} {i S0 q0 : Nat} (h : cI6 T1 T2 M W i) (hS : S0 < 4096) (hq : (W S0).testBit q0 = true) (q12 : q0 < 12) : i < 49152 := by
  have h5 := h.2.2.2.2
  have : sumN (done1 M W) 4096 < sumN (fun _ => 12) 4096 := by
    refine sumN_lt (a := S0) (fun S _ => cnt_le _ 12) hS ?_
    have := cnt_lt12 (p := fun q => (M S0).testBit q && !(W S0).testBit q) (p' := fun _ => true) (a := q0) (fun _ _ _ => rfl) q12 (by show (_ && !(W S0).testBit q0) = false; rw [hq, Bool.not_true, Bool.and_false]) rfl
    have e : cnt (fun _ => true) 12 = 12 := by decide
    rw [e] at this; exact this
  have e2 : sumN (fun _ => 12) 4096 = 49152 := by
    rw [sumN_ext (g := fun _ => 12 * 1) (fun _ _ => rfl), sumN_mul, sumN_1]
  omega
theorem cI6_step {T1 T2 : Tr} {M W M' W' : Nat → Nat} {i S0 : Nat} (k1 : okTr T1) (h : cI6 T1 T2 M W i) (hS0 : S0 < 4096) (hW : W S0 ≠ 0) (hW4 : W S0 < 4096)
    (J1 : ∀ S q, (M S).testBit q = true → (M' S).testBit q = true)
    (J2 : ∀ S q, (M' S).testBit q = true → (M S).testBit q = true ∨ ((∃ s, s < 100 ∧ S = aft T2.2 S0 s ∧ (aft T1.2 (W S0) s).testBit q = true) ∧ (T1.1.testBit q = true → S &&& T2.1 ≠ 0)))
    (J3 : ∀ S q, (W' S).testBit q = true ↔ (updN W S0 0 S).testBit q = true ∨ ((M' S).testBit q = true ∧ (M S).testBit q = false))
    (J4 : ∀ s q, s < 100 → (aft T1.2 (W S0) s).testBit q = true → (M' (aft T2.2 S0 s)).testBit q = true) : cI6 T1 T2 M' W' (i + 1) := by
  obtain ⟨h1, h2, h3, h4, h5⟩ := h
  have upd : ∀ S q, (updN W S0 0 S).testBit q = true → S ≠ S0 ∧ (W S).testBit q = true := fun S q hq => by
    unfold updN at hq
    by_cases c : S = S0
    · rw [if_pos c, Nat.zero_testBit] at hq; cases hq
    · rw [if_neg c] at hq; exact ⟨c, hq⟩
  -- what is done now was met before, and waited not
  have old : ∀ S q, (M' S).testBit q = true → (W' S).testBit q = false → (M S).testBit q = true ∧ ((W S).testBit q = false ∨ S = S0) := fun S q hm hw => by
    have j3 := J3 S q
    have m1 : (M S).testBit q = true := by
      cases e : (M S).testBit q with
      | true => rfl
      | false => rw [j3.mpr (Or.inr ⟨hm, e⟩)] at hw; cases hw
    refine ⟨m1, ?_⟩
    by_cases c : S = S0
    · exact Or.inr c
    · refine Or.inl ?_
      cases e : (W S).testBit q with
      | false => rfl
      | true =>
        have : (updN W S0 0 S).testBit q = true := by rw [updN_ne c]; exact e
        rw [j3.mpr (Or.inl this)] at hw; cases hw
  have W'_of : ∀ S q, (M S).testBit q = true → ((W S).testBit q = false ∨ S = S0) → (W' S).testBit q = false := fun S q hm hw => by
    cases e : (W' S).testBit q with
    | false => rfl
    | true =>
      rcases (J3 S q).mp e with z | z
      · obtain ⟨z1, z2⟩ := upd S q z
        rcases hw with hw | hw
        · rw [z2] at hw; cases hw
        · exact absurd hw z1
      · rw [hm] at z; cases z.2
  refine ⟨fun S q hS hq => ?_, fun S q hS hq => ?_, J1 1 0 h3, fun S p hS hm hw s q hs ht => ?_, ?_⟩
  · rcases J2 S q hq with c | ⟨⟨s, hs, e, hh⟩, g⟩
    · exact h1 S q hS c
    · obtain ⟨p, hp, hp2, hp3⟩ := aft_iff.mp hh
      refine ⟨?_, g⟩
      rw [e]
      exact dpr_s (h1 S0 p hS0 (h2 S0 p hS0 hp2)).1 hp hS0 hs (bit_12 (tg_lt k1.2) hp3) hp3
  · rcases (J3 S q).mp hq with c | c
    · exact J1 S q (h2 S q hS (upd S q c).2)
    · exact c.1
  · obtain ⟨m1, w1⟩ := old S p hm hw
    cases ew : (W S).testBit p with
    | false => exact J1 _ _ (h4 S p hS m1 ew s q hs ht)
    | true =>
      rcases w1 with w1 | w1
      · rw [w1] at ew; cases ew
      · rw [w1] at ew ⊢
        exact J4 s q hs (aft_iff.mpr ⟨p, bit_12 hW4 ew, ew, ht⟩)
  · have : sumN (done1 M W) 4096 < sumN (done1 M' W') 4096 := by
      have mono : ∀ S, ∀ q, q < 12 → ((M S).testBit q && !(W S).testBit q) = true → ((M' S).testBit q && !(W' S).testBit q) = true := fun S q _ hq => by
        rw [Bool.and_eq_true, Bool.not_eq_true'] at hq ⊢
        exact ⟨J1 S q hq.1, W'_of S q hq.1 (Or.inl hq.2)⟩
      obtain ⟨q0, e0⟩ : ∃ q, (W S0).testBit q = true := by
        rcases ex_bit hW4 with c | ⟨q, _, hq⟩
        · exact absurd c hW
        · exact ⟨q, hq⟩
      refine sumN_lt (a := S0) (fun S _ => (cnt_sub (mono S)).1) hS0 (cnt_lt12 (a := q0) (mono S0) (bit_12 hW4 e0) ?_ ?_)
      · show (_ && !(W S0).testBit q0) = false
        rw [e0, Bool.not_true, Bool.and_false]
      · have m0 := h2 S0 q0 hS0 e0
        show ((M' S0).testBit q0 && !(W' S0).testBit q0) = true
        rw [J1 S0 q0 m0, W'_of S0 q0 m0 (Or.inr rfl)]; rfl
    omega
theorem i32_49152 {n : Nat} (hn : n < 100000) : ((49152 : Int32) ≤ Int32.ofInt (n : Int)) ↔ 49152 ≤ n := by
  have h : ((49152 : Int32) ≤ Int32.ofInt (n : Int)) ↔ (49152 : Int) ≤ (n : Int) := oi_lle ⟨by omega, by decide⟩
  rw [h]; omega
def icQ (σ : pm_H) (e : Nat) (T1 T2 : Tr) (o : pm_O) (σ' : pm_H) : Prop := o = .inl (some (.int (bI (wiB T1 T2)))) ∧ isDo σ' e ∧ fr (pDo e) σ σ'
theorem s_Do_isContained {σ : pm_H} {e a b : Nat} {T1 T2 : Tr} {π1 π2 : Nat → Nat} (hD : isDo σ e) (ha : isTr σ a T1 π1) (hb : isTr σ b T2 π2) (k1 : okTr T1) (k2 : okTr T2) (da : a + 122 ≤ e) (db : b + 122 ≤ e) : pm_C 3 13 [.ref e, .ref a, .ref b] σ (icQ σ e T1 T2) := by
  obtain ⟨hd, hz⟩ := hD
  refine w_Do_isContained_0 ?_
  simp only [hd.1, hd.2.1.1, hd.2.2.2.1.1, isr_ref, rv_ref, true_and, forall_eq]
  refine (s_St_load hd.2.2.2.1 ha k1 (by omega)).use (by omega) (fun σ1 p1 => ?_)
  have hd1 : doS σ1 e := doS_st hd p1.2 (fun f _ _ _ => p1.2.F (by unfold pSt; omega)) p1.1.1 (stS_fr hd.2.2.2.2 p1.2 (by unfold pSt; omega))
  have hb1 := isTr_fr hb p1.2 (fun c hc => by unfold pTr at hc; unfold pSt; omega)
  simp only [hd1.1, hd1.2.1.2.1, hd1.2.2.2.2.1, isr_ref, rv_ref, true_and, forall_eq]
  refine (s_St_load hd1.2.2.2.2 hb1 k2 (by omega)).use (by omega) (fun σ2 p2 => ?_)
  have hd2 : doS σ2 e := doS_st hd1 p2.2 (fun f _ _ _ => p2.2.F (by unfold pSt; omega)) (stS_fr hd1.2.2.2.1 p2.2 (by unfold pSt; omega)) p2.1.1
  have s12 := isSt_fr p1.1 p2.2 (fun c hc => by unfold pSt at hc ⊢; omega)
  have f2 : fr (pDo e) σ σ2 := (p1.2.mono (fun c hc => by unfold pSt at hc; unfold pDo; omega)).tr (p2.2.mono (fun c hc => by unfold pSt at hc; unfold pDo; omega))
  have z2 : ∀ j, pm_A σ2 (e + 8) j = pm_A σ (e + 8) j := fun j => by rw [p2.2.A (by unfold pSt; omega), p1.2.A (by unfold pSt; omega)]
  simp only [hd2.1, hd2.2.1.1, hd2.2.1.2.1, isr_ref, rv_ref, true_and, forall_eq]
  refine (s_Do_findGroups hd2 s12 p2.1 k1 k2 (Or.inl rfl) (Or.inr rfl)).use (by omega) (fun σ3 p3 => ?_)
  obtain ⟨⟨G, gk, hg⟩, hd3, f3⟩ := p3
  have s13 := isSt_fr s12 f3 (fun c hc => by unfold pSt at hc; unfold pG; omega)
  have s23 := isSt_fr p2.1 f3 (fun c hc => by unfold pSt at hc; unfold pG; omega)
  have f3' : fr (pDo e) σ σ3 := f2.tr (f3.mono (fun c hc => by unfold pG at hc; unfold pDo; omega))
  have z3 : ∀ j, pm_A σ3 (e + 8) j = pm_A σ (e + 8) j := fun j => by rw [f3.A (by unfold pG; omega)]; exact z2 j
  simp only [hd3.1, hd3.2.1.2.2.2.2.2.2.2.2.1, isr_ref, rv_ref, true_and, forall_eq]
  refine (s_fillI (a := e + 11) (N := 4096) hd3.2.2.1.2.2.2.2.2.2.2.2.2.2.2.2.1 hd3.2.2.1.2.2.2.2.2.2.2.2.2.2.2.2.2.1 (by omega)).use (by omega) (fun σ4 p4 => ?_)
  have w4 : frW e σ3 σ4 := ⟨p4.2.mono (fun c hc => by unfold pM; omega), fun f _ _ => p4.2.F (by omega)⟩
  have hd4 := frW_d w4 hd3
  simp only [hd4.1, hd4.2.1.2.2.2.2.2.2.2.2.2.1, isr_ref, rv_ref, true_and, forall_eq]
  refine (s_fillI (a := e + 12) (N := 4096) hd4.2.2.1.2.2.2.2.2.2.2.2.2.2.2.2.2.2.1 hd4.2.2.1.2.2.2.2.2.2.2.2.2.2.2.2.2.2.2.1 (by omega)).use (by omega) (fun σ5 p5 => ?_)
  have w5 : frW e σ3 σ5 := frW_tr w4 ⟨p5.2.mono (fun c hc => by unfold pM; omega), fun f _ _ => p5.2.F (by omega)⟩
  have hd5 := frW_d w5 hd3
  simp only [hd5.1, t_sF, true_and, forall_eq]
  have w6 : frW e σ3 (pm_sF (pm_sF σ5 109 e (.int ((0 : Int32)))) 110 e (.int ((0 : Int32)))) := frW_tr w5 (frW_tr (frW_sF (by omega)) (frW_sF (by omega)))
  have I6 : mI (pm_sF (pm_sF σ5 109 e (.int ((0 : Int32)))) 110 e (.int ((0 : Int32)))) e (fun _ => 0) (fun _ => 0) [] 0 := by
    refine ⟨fun S hS => ?_, fun S hS => ?_, ?_, by omega, ?_, fun k S' hk => by simp at hk, List.nodup_nil, fun S' => by simp, fun S' _ => ⟨(by decide : 0 < 4096), (by decide : 0 < 4096)⟩⟩
    · simp only [A_sF]; rw [p5.2.A (by omega), p4.1 S hS]; rfl
    · simp only [A_sF]; rw [p5.1 S hS]; rfl
    · simp only [F_sF, and_true, if_true]; rfl
    · simp only [F_sF, Nat.reduceEqDiff, Nat.left_eq_add, Nat.add_eq_left, Nat.one_ne_zero, false_and, if_false, and_true, if_true]; rfl
  suffices key : ∀ σ6, frW e σ3 σ6 → mI σ6 e (fun _ => 0) (fun _ => 0) [] 0 → pm_C 2 15 [.ref e, .int ((1 : Int32)), .int ((1 : Int32))] σ6 (pm_kI (fun r14 σ14 => ((r14 = 0 → (0 : Int32) &&& 1 = 0 ∧ (icQ σ e T1 T2) (.inl (some (.int ((0 : Int32))))) σ14) ∧ (¬ r14 = 0 → pm_R 3 13 37 [.ref e, pm_U, pm_U, .int ((0 : Int32))] [] σ14 (icQ σ e T1 T2)))) (pm_kX 3 13 false [] (icQ σ e T1 T2))) from key _ w6 I6
  clear w6 I6
  intro σ6 w6 I6
  have fin : ∀ τ, frW e σ3 τ → isDo τ e ∧ fr (pDo e) σ τ := fun τ w => ⟨⟨frW_d w hd3, fun j hj => by rw [w.1.A (by unfold pM; omega), z3 j]; exact hz j hj⟩, f3'.tr (w.1.mono (fun c hc => by unfold pM at hc; unfold pDo; omega))⟩
  refine pm_C_mono (pm_C_up (s_Do_meet (Y := 1) (S := 1) (frW_d w6 hd3) (frW_1 w6 s13) (frW_3 w6 s23) I6 (by omega) (by omega)) (by omega)) (fun o τ mq => ?_)
  obtain ⟨fq, mq⟩ := mq
  have one : ∀ q, (1 : Nat).testBit q = true → q = 0 := fun q hq => by
    rw [Nat.testBit_one_eq_true_iff_self_eq_zero] at hq; exact hq
  rcases mq with ⟨rfl, q, q1, q2, q3⟩ | ⟨rfl, good, ws0, hm⟩
  · have nw : ¬ dwin T1 T2 := fun w => w q 1 (one q q1 ▸ dpr_0) q2 q3
    exact kI_B ⟨fun _ => ⟨rfl, by rw [wiB_f nw]; rfl, fin τ (frW_tr w6 fq)⟩, fun n => absurd rfl n⟩
  refine kI_B ⟨fun n => absurd n (by decide), fun _ => ?_⟩
  have hS1 : ∀ S q, (updN (fun _ => 0) 1 (0 ||| 1) S).testBit q = true → S = 1 ∧ q = 0 := fun S q hq => by
    unfold updN at hq
    by_cases c : S = 1
    · rw [if_pos c] at hq; exact ⟨c, one q hq⟩
    · rw [if_neg c, Nat.zero_testBit] at hq; cases hq
  refine lp_up (fun i (_ : (Nat → Nat) × (Nat → Nat) × List Nat × Nat) => [.ref e, pm_U, pm_U, .int (Int32.ofInt (i : Nat))]) (fun i x τ => frW e σ3 τ ∧ mI τ e x.1 x.2.1 x.2.2.1 x.2.2.2 ∧ cI6 T1 T2 x.1 x.2.1 i) 49152 (fun i hi x τ hh next => ?_) (fun x τ hh => ?_) 0 (Nat.zero_le _) (_, _, ws0, 0) τ ⟨frW_tr w6 fq, hm, fun S q hS hq => ?_, fun S q hS hq => ?_, ?_, fun S p hS hp hw => ?_, Nat.zero_le _⟩
  · obtain ⟨wt, It, ct⟩ := hh
    have hdt := frW_d wt hd3
    obtain ⟨M, W, ws, f⟩ := x
    replace It : mI τ e M W ws f := It
    replace ct : cI6 T1 T2 M W i := ct
    refine w_Do_isContained_37 ⟨fun q => ?_, fun _ => ⟨hdt.1, fun z ez => ?_⟩⟩
    · rw [i32_49152 (by omega)] at q; omega
    rw [It.2.2.2.2.1] at ez
    subst ez
    have wl := nodup_len It.2.2.2.2.2.2.1 (fun x hx => ((It.2.2.2.2.2.2.2.1 x).mp hx).1)
    rw [n_le0 (by omega)]
    refine ⟨fun l0 => ⟨rfl, ?_, fin τ wt⟩, fun l0 => ?_⟩
    · have e0 : ws = [] := List.length_eq_zero_iff.mp l0
      have w0 : ∀ S, S < 4096 → W S = 0 := fun S hS => by
        by_cases c : W S = 0
        · exact c
        · have := (It.2.2.2.2.2.2.2.1 S).mpr ⟨hS, c⟩
          rw [e0] at this; cases this
      rw [wiB_t (cI6_end ct k2 w0)]; rfl
    · cases ws with
      | nil => exact absurd rfl l0
      | cons S0 ws =>
        have m0 := (It.2.2.2.2.2.2.2.1 S0).mp (List.mem_cons_self ..)
        refine ⟨hdt.1, pm_C_mono (s_Do_followFirst hdt (frW_1 wt s13) (frW_3 wt s23) k1 k2 (frW_g wt hg) gk It) (fun o τ' fq => ?_)⟩
        obtain ⟨f', fq⟩ := fq
        rcases fq with ⟨rfl, s, q, hs, q1, q2, q3⟩ | ⟨rfl, M', W', ws', f'', hm', J1, J2, J3, J4⟩
        · obtain ⟨p, hp, hp2, hp3⟩ := aft_iff.mp q1
          have hpr := dpr_s (ct.1 S0 p m0.1 (ct.2.1 S0 p m0.1 hp2)).1 hp m0.1 hs (bit_12 (tg_lt k1.2) hp3) hp3
          have nw : ¬ dwin T1 T2 := fun w => w q _ hpr q2 q3
          exact kI_B ⟨fun _ => ⟨rfl, by rw [wiB_f nw]; rfl, fin τ' (frW_tr wt f')⟩, fun n => absurd rfl n⟩
        · refine kI_B ⟨fun n => absurd n (by decide), fun _ => ?_⟩
          rw [oi_s]
          exact next (M', W', ws', f'') τ' ⟨frW_tr wt f', hm', cI6_step k1 ct m0.1 m0.2 (It.2.2.2.2.2.2.2.2 S0 m0.1).2 J1 J2 J3 J4⟩
  · obtain ⟨wt, It, ct⟩ := hh
    obtain ⟨M, W, ws, f⟩ := x
    replace It : mI τ e M W ws f := It
    replace ct : cI6 T1 T2 M W 49152 := ct
    refine w_Do_isContained_37 ⟨fun _ => ⟨rfl, ?_, fin τ wt⟩, fun q => absurd (Int32.le_refl _) q⟩
    have w0 : ∀ S, S < 4096 → W S = 0 := fun S hS => by
      rcases ex_bit (It.2.2.2.2.2.2.2.2 S hS).2 with c | ⟨q, q12, hq⟩
      · exact c
      · exact absurd (cI6_full ct hS hq q12) (by omega)
    rw [wiB_t (cI6_end ct k2 w0)]; rfl
  · obtain ⟨rfl, rfl⟩ := hS1 S q hq
    exact ⟨dpr_0, fun hf => good 0 (by decide) (Nat.zero_testBit 0) hf⟩
  · show (updN (fun _ => 0) 1 (0 ||| 1) S).testBit q = true
    replace hq : (updN (fun _ => 0) 1 (0 ||| dif 1 0) S).testBit q = true := hq
    unfold updN at hq ⊢
    by_cases c : S = 1
    · rw [if_pos c] at hq ⊢
      have e1 : 0 ||| dif 1 0 = 0 ||| 1 := by decide
      rw [e1] at hq; exact hq
    · rw [if_neg c, Nat.zero_testBit] at hq; cases hq
  · show (updN (fun _ => 0) 1 (0 ||| 1) 1).testBit 0 = true
    decide
  · obtain ⟨rfl, rfl⟩ := hS1 S p hp
    exact absurd hw (by show ¬ (updN (fun _ => 0) 1 (0 ||| dif 1 0) 1).testBit 0 = false; decide)
