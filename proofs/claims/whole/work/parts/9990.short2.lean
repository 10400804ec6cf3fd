/-! ===== findShortest ===== -/
def pSh (e t b : Nat) : Prop := b = e + 1 ∨ b = e + 2 ∨ b = e + 13 ∨ pWo t b
theorem doS_13 {σ σ' : pm_H} {e t : Nat} (hd : doS σ e) (hf : fr (pSh e t) σ σ') (dt : t + 2 ≤ e) (c1 : stS σ' (e + 1)) : doS σ' e :=
  doS_st hd hf (fun f _ _ _ => hf.F (by unfold pSh pWo; omega)) c1 (stS_fr hd.2.2.2.2 hf (by unfold pSh pWo; omega))
theorem oi_sb1 {n i : Nat} (h : i < n) : Int32.ofInt ((n : Int) - 1 - (i : Int)) = Int32.ofInt ((n - 1 - i : Nat) : Int) := by
  congr 1; omega
theorem sh_nat (T : Tr) (n i S : Nat) : S &&& nr T (n - i) = nr T (n - i) &&& S := Nat.and_comm _ _
theorem s_Do_findShortest {σ : pm_H} {e a t : Nat} {T : Tr} {π : Nat → Nat} (hD : isDo σ e) (ht : isTr σ a T π) (hT : okTr T) (hw : woS σ t) (da : a + 122 ≤ e) (dt : t + 2 ≤ e) (dat : a + 122 ≤ t ∨ t + 2 ≤ a) : pm_C 4 16 [.ref e, .ref a, .ref t] σ (fun o σ' => o = .inl (some (.int (bI ((nr T 11).testBit 0)))) ∧ isDo σ' e ∧ fr (pSh e t) σ σ' ∧ ((nr T 11).testBit 0 = false → ∀ b, pWo t b → (∀ f, pm_F σ' f b = pm_F σ f b) ∧ ∀ j, pm_A σ' b j = pm_A σ b j) ∧ ∀ n, n ≤ 11 → (nr T n).testBit 0 = true → (∀ j, j < n → (nr T j).testBit 0 = false) → isWo σ' t (swd T n 1)) := by
  obtain ⟨hd, hz⟩ := hD
  have nl : ∀ k, nr T k < 4096 := fun k => itW_lt hT.2 hT.1 k
  have zz : ∀ {τ : pm_H}, fr (pSh e t) σ τ → doS τ e → isDo τ e := fun f d => ⟨d, fun j hj => by rw [f.A (by unfold pSh pWo; omega)]; exact hz j hj⟩
  have v0 : vp_in (0 : Int32) 12 := by rw [vp_in_iff]; decide
  refine w_Do_findShortest_0 ?_
  simp only [hd.1, hd.2.1.2.2.2.2.2.2.2.2.2.2, hd.2.2.1.2.2.2.2.2.2.2.2.2.2.2.2.2.2.2.2.1, hd.2.2.1.2.2.2.2.2.2.2.2.2.2.2.2.2.2.2.2.2, ht.1.1, ht.2.2.2.1, v0, c00, isr_ref, rv_ref, true_and, forall_eq]
  refine lp (fun i => [.ref e, .ref a, .ref t, .int (Int32.ofInt (i : Nat)), pm_U, pm_U, pm_U]) (fun i τ => 0 < i ∧ fr (fun b => b = e + 13) σ τ ∧ ∀ k, k < i → iv (pm_A τ (e + 13) k) = Int32.ofInt ((nr T k : Nat) : Int)) 12 (fun i hi τ hh next => ?_) (fun τ hh => ?_) 1 (by omega) _ ⟨by omega, fr_sA rfl, fun k hk => ?_⟩
  · obtain ⟨i0, f, hn⟩ := hh
    have htt := isTr_fr ht f (fun b hb => by unfold pTr at hb; omega)
    have hdt : doS τ e := doS_st hd f (fun f' _ _ _ => f.F (by omega)) (stS_fr hd.2.2.2.1 f (by omega)) (stS_fr hd.2.2.2.2 f (by omega))
    have vi' := vi (show i < 12 by omega) (by omega)
    have wi' := vc (show i < 2000000 by omega)
    have vp := vi (show i - 1 < 12 by omega) (by omega)
    have wp := vc (show i - 1 < 2000000 by omega)
    refine w_Do_findShortest_8 ⟨fun q => ?_, fun _ => ?_⟩
    · rw [i32_12 (by omega)] at q; omega
    simp only [hdt.1, hdt.2.1.2.2.2.2.2.2.2.2.2.2, hdt.2.2.1.2.2.2.2.2.2.2.2.2.2.2.2.2.2.2.2.1, hdt.2.2.1.2.2.2.2.2.2.2.2.2.2.2.2.2.2.2.2.2, htt.1.1, oi_prev i0, vp, wp, hn (i - 1) (by omega), isr_ref, rv_ref, true_and, forall_eq]
    refine (s_Tr_withSources htt hT (nl _)).use (by omega) ?_
    simp only [hdt.2.2.1.2.2.2.2.2.2.2.2.2.2.2.2.2.2.2.2.1, hdt.2.2.1.2.2.2.2.2.2.2.2.2.2.2.2.2.2.2.2.2, vi', wi', true_and, forall_eq, oi_s]
    refine next _ ⟨by omega, f.tr (fr_sA rfl), fun k hk => ?_⟩
    rw [A_sA]
    by_cases c : k = i
    · rw [if_pos ⟨rfl, c⟩, c]
      show Int32.ofInt ((wsrc T.2 (nr T (i - 1)) : Nat) : Int) = _
      obtain ⟨i', rfl⟩ : ∃ i', i = i' + 1 := ⟨i - 1, by omega⟩
      rfl
    · rw [if_neg (fun q => c q.2)]; exact hn k (by omega)
  · obtain ⟨-, f, hn⟩ := hh
    have f' : fr (pSh e t) σ τ := f.mono (fun b hb => Or.inr (Or.inr (Or.inl hb)))
    have htt := isTr_fr ht f (fun b hb => by unfold pTr at hb; omega)
    have hdt : doS τ e := doS_st hd f (fun f' _ _ _ => f.F (by omega)) (stS_fr hd.2.2.2.1 f (by omega)) (stS_fr hd.2.2.2.2 f (by omega))
    have hwt := woS_fr hw f (by omega)
    have v11 : vp_in (11 : Int32) 12 := by rw [vp_in_iff]; decide
    have w11 : (11 : Int32).toNatClampNeg = 11 := by decide
    refine w_Do_findShortest_8 ⟨fun _ => ?_, fun q => absurd (Int32.le_refl _) q⟩
    simp only [hdt.1, hdt.2.1.2.2.2.2.2.2.2.2.2.2, hdt.2.2.1.2.2.2.2.2.2.2.2.2.2.2.2.2.2.2.2.1, hdt.2.2.1.2.2.2.2.2.2.2.2.2.2.2.2.2.2.2.2.2, v11, w11, hn 11 (by omega), isr_ref, rv_ref, true_and, forall_eq]
    refine gI (s_hasS (s := 0) (nl 11) (by omega)) (by omega) (fun b0 => ⟨rfl, by rw [b0]; rfl, zz f' hdt, f', fun _ b hb => ?_, fun n h1 h2 _ => ?_⟩) (fun b1 => ?_)
    · have : ¬ b = e + 13 := by unfold pWo at hb; omega
      exact ⟨fun _ => f.F this, fun _ => f.A this⟩
    · rw [nr_mono h2 h1] at b0; cases b0
    -- the length
    obtain ⟨n, n11, hn1, hn2⟩ := least (p := fun k => (nr T k).testBit 0) 11 b1
    -- from the length on
    have go : ∀ m : Nat, m = n → (pm_t τ (e + 1) = 8 ∧ pm_C 3 68 [.ref (e + 1), .ref a] τ (pm_kV (fun σ2 => pm_t σ2 t = 11 ∧ pm_C 3 110 [.ref t] σ2 (pm_kV (fun σ3 => pm_R 4 16 60 [.ref e, pm_U, .ref t, pm_U, .int ((1 : Int32)), .int (Int32.ofInt (m : Int) - 1), pm_U] [] σ3 (fun o σ' => o = .inl (some (.int (bI ((nr T 11).testBit 0)))) ∧ isDo σ' e ∧ fr (pSh e t) σ σ' ∧ ((nr T 11).testBit 0 = false → ∀ b, pWo t b → (∀ f, pm_F σ' f b = pm_F σ f b) ∧ ∀ j, pm_A σ' b j = pm_A σ b j) ∧ ∀ n, n ≤ 11 → (nr T n).testBit 0 = true → (∀ j, j < n → (nr T j).testBit 0 = false) → isWo σ' t (swd T n 1))) (pm_kX 4 16 false [] (fun o σ' => o = .inl (some (.int (bI ((nr T 11).testBit 0)))) ∧ isDo σ' e ∧ fr (pSh e t) σ σ' ∧ ((nr T 11).testBit 0 = false → ∀ b, pWo t b → (∀ f, pm_F σ' f b = pm_F σ f b) ∧ ∀ j, pm_A σ' b j = pm_A σ b j) ∧ ∀ n, n ≤ 11 → (nr T n).testBit 0 = true → (∀ j, j < n → (nr T j).testBit 0 = false) → isWo σ' t (swd T n 1))))) (pm_kX 4 16 false [] (fun o σ' => o = .inl (some (.int (bI ((nr T 11).testBit 0)))) ∧ isDo σ' e ∧ fr (pSh e t) σ σ' ∧ ((nr T 11).testBit 0 = false → ∀ b, pWo t b → (∀ f, pm_F σ' f b = pm_F σ f b) ∧ ∀ j, pm_A σ' b j = pm_A σ b j) ∧ ∀ n, n ≤ 11 → (nr T n).testBit 0 = true → (∀ j, j < n → (nr T j).testBit 0 = false) → isWo σ' t (swd T n 1))))) := by
      intro m hm
      subst hm
      refine ⟨hdt.2.2.2.1.1, (s_St_load hdt.2.2.2.1 htt hT (by omega)).use (by omega) (fun τ2 p2 => ?_)⟩
      have f2 : fr (pSh e t) σ τ2 := f'.tr (p2.2.mono (fun b hb => by unfold pSt at hb; unfold pSh; omega))
      have hw2 := woS_fr hwt p2.2 (by unfold pSt; omega)
      refine ⟨hw2.1, (s_Wo_clear hw2).use (by omega) (fun τ3 p3 => ?_)⟩
      have f3 : fr (pSh e t) σ τ3 := f2.tr (p3.2.mono (fun b hb => Or.inr (Or.inr (Or.inr hb))))
      have st3 := isSt_fr p2.1 p3.2 (fun b hb => by unfold pSt at hb; unfold pWo; omega)
      have hn3 : ∀ k, k < 12 → iv (pm_A τ3 (e + 13) k) = Int32.ofInt ((nr T k : Nat) : Int) := fun k hk => by
        rw [p3.2.A (by unfold pWo; omega), p2.2.A (by unfold pSt; omega)]; exact hn k hk
      have em1 : Int32.ofInt (m : Int) - 1 = Int32.ofInt ((m : Int) - 1 - ((0 : Nat) : Int)) := by
        rw [oi_sub1]; congr 1; omega
      have e1 : (1 : Int32) = Int32.ofInt ((1 &&& nr T (m - 0) : Nat) : Int) := by
        have : 1 &&& nr T (m - 0) = 1 := by
          refine Nat.eq_of_testBit_eq (fun q => ?_)
          rw [Nat.testBit_and]
          by_cases c : q = 0
          · subst c
            have : (nr T m).testBit 0 = true := hn1
            rw [Nat.sub_zero, this]; rfl
          · have : (1 : Nat).testBit q = false := by
              rw [← Bool.not_eq_true, Nat.testBit_one_eq_true_iff_self_eq_zero]; exact c
            rw [this]; rfl
        rw [this]; rfl
      rw [em1, e1]
      refine lp_up (fun i S => [.ref e, pm_U, .ref t, pm_U, .int (Int32.ofInt ((S &&& nr T (m - i) : Nat) : Int)), .int (Int32.ofInt ((m : Int) - 1 - ((i : Nat) : Int))), pm_U]) (fun i S τ => onW T m i S ∧ fr (pSh e t) σ τ ∧ isSt τ (e + 1) T ∧ (∀ k, k < 12 → iv (pm_A τ (e + 13) k) = Int32.ofInt ((nr T k : Nat) : Int)) ∧ ∃ l, isWo τ t l ∧ l.length = i ∧ l ++ swd T (m - i) S = swd T m 1) m (fun i hi S τ hh next => ?_) (fun S τ hh => ?_) 0 (Nat.zero_le _) 1 τ3 ⟨onW_0 hn1 hn2, f3, st3, hn3, [], p3.1, rfl, rfl⟩
      · obtain ⟨ow, fi, si, ni, l, wl, ll, le⟩ := hh
        have hdi := doS_13 hd fi dt si.1
        have v12 := vi (show m - 1 - i < 12 by omega) (by omega)
        have w12 := vc (show m - 1 - i < 2000000 by omega)
        have nneg : ¬ Int32.ofInt ((m - 1 - i : Nat) : Int) < 0 := by rw [z_lt0 (nrg (by omega))]; omega
        have sn : S &&& nr T (m - i) < 4096 := and_lt4 ow.1
        obtain ⟨o1, o2, o3⟩ := onW_n hT ow hi
        have sl := sw1_lt T (m - 1 - i) S
        rw [oi_sb1 hi]
        refine w_Do_findShortest_60 ⟨fun q => absurd q nneg, fun _ => ?_⟩
        simp only [hdi.1, hdi.2.1.2.2.2.2.2.2.2.2.2.2, hdi.2.2.1.2.2.2.2.2.2.2.2.2.2.2.2.2.2.2.2.1, hdi.2.2.1.2.2.2.2.2.2.2.2.2.2.2.2.2.2.2.2.2, v12, w12, ni (m - 1 - i) (by omega), isr_ref, rv_ref, true_and, forall_eq]
        refine (s_Do_firstSymbol hdi si hT sn (nl _)).use (by omega) ?_
        rw [o1]
        refine ⟨wl.1.1, (s_Wo_append wl (by omega)).use (by omega) (fun τ' p' => ?_)⟩
        have fi' : fr (pSh e t) σ τ' := fi.tr (p'.2.mono (fun b hb => Or.inr (Or.inr (Or.inr hb))))
        have si' := isSt_fr si p'.2 (fun b hb => by unfold pSt at hb; unfold pWo; omega)
        have hdi' := doS_13 hd fi' dt si'.1
        have ni' : ∀ k, k < 12 → iv (pm_A τ' (e + 13) k) = Int32.ofInt ((nr T k : Nat) : Int) := fun k hk => by
          rw [p'.2.A (by unfold pWo; omega)]; exact ni k hk
        simp only [hdi'.1, hdi'.2.1.1, si'.1.1, isr_ref, rv_ref, true_and, forall_eq]
        refine (s_St_after si' sn sl).use (by omega) ?_
        simp only [hdi'.1, hdi'.2.1.2.2.2.2.2.2.2.2.2.2, hdi'.2.2.1.2.2.2.2.2.2.2.2.2.2.2.2.2.2.2.2.1, hdi'.2.2.1.2.2.2.2.2.2.2.2.2.2.2.2.2.2.2.2.2, v12, w12, ni' (m - 1 - i) (by omega), i_andN, isr_ref, rv_ref, true_and, forall_eq]
        have nx := next (aft T.2 S (sw1 T (m - 1 - i) S)) τ' ⟨o3, fi', si', ni', l ++ [sw1 T (m - 1 - i) S], p'.1, by rw [List.length_append, ll]; rfl, ?_⟩
        · have ea : aft T.2 (S &&& nr T (m - i)) (sw1 T (m - 1 - i) S) &&& nr T (m - 1 - i) = aft T.2 S (sw1 T (m - 1 - i) S) &&& nr T (m - (i + 1)) := (onW_s hT ow hi sl).2.1
          have eb : Int32.ofInt ((m - 1 - i : Nat) : Int) + (-1) = Int32.ofInt ((m : Int) - 1 - ((i + 1 : Nat) : Int)) := by
            rw [show Int32.ofInt ((m - 1 - i : Nat) : Int) + (-1) = Int32.ofInt (((m - 1 - i : Nat) : Int) + -1) from oi_addn _ 1]
            congr 1; omega
          rw [ea, eb]; exact nx
        · rw [List.append_assoc, ← le]
          congr 1
          rw [show m - i = (m - 1 - i) + 1 by omega, show m - (i + 1) = m - 1 - i by omega]
          rfl
      · obtain ⟨ow, fi, si, ni, l, wl, ll, le⟩ := hh
        have neg : Int32.ofInt ((m : Int) - 1 - (m : Int)) < 0 := by
          rw [show (m : Int) - 1 - (m : Int) = -1 by omega]; decide
        refine w_Do_findShortest_60 ⟨fun _ => ⟨rfl, by rw [b1]; rfl, zz fi (doS_13 hd fi dt si.1), fi, fun q => (by rw [b1] at q; cases q), fun n' h1 h2 h3 => ?_⟩, fun q => absurd neg q⟩
        have : n' = m := by
          rcases Nat.lt_trichotomy n' m with c | c | c
          · have := hn2 n' c
            replace this : (nr T n').testBit 0 = false := this
            rw [h2] at this; cases this
          · exact c
          · have := h3 m c
            replace hn1 : (nr T m).testBit 0 = true := hn1
            rw [hn1] at this; cases this
        rw [this, ← le, Nat.sub_self]
        show isWo τ t (l ++ [])
        rw [List.append_nil]; exact wl
    refine lp0 (fun m => [.ref e, .ref a, .ref t, .int (Int32.ofInt (m : Nat)), pm_U, pm_U, pm_U]) n (fun m hm next => ?_) ?_ 0 (Nat.zero_le _)
    · have vm := vi (show m < 12 by omega) (by omega)
      have wm := vc (show m < 2000000 by omega)
      refine w_Do_findShortest_36 ⟨fun q => ?_, fun _ => ?_⟩
      · rw [i32_11 (by omega)] at q; omega
      simp only [hdt.1, hdt.2.1.2.2.2.2.2.2.2.2.2.2, hdt.2.2.1.2.2.2.2.2.2.2.2.2.2.2.2.2.2.2.2.1, hdt.2.2.1.2.2.2.2.2.2.2.2.2.2.2.2.2.2.2.2.2, vm, wm, hn m (by omega), isr_ref, rv_ref, true_and, forall_eq, oi_s]
      refine gI (s_hasS (s := 0) (nl m) (by omega)) (by omega) (fun _ => next) (fun b => ?_)
      have := hn2 m hm
      replace this : (nr T m).testBit 0 = false := this
      rw [b] at this; cases this
    · have g := go n rfl
      have vn := vi (show n < 12 by omega) (by omega)
      have wn := vc (show n < 2000000 by omega)
      refine w_Do_findShortest_36 ⟨fun _ => ?_, fun _ => ?_⟩
      · simp only [hdt.1, hdt.2.1.1, isr_ref, rv_ref, true_and, forall_eq]
        exact g
      · simp only [hdt.1, hdt.2.1.1, hdt.2.1.2.2.2.2.2.2.2.2.2.2, hdt.2.2.1.2.2.2.2.2.2.2.2.2.2.2.2.2.2.2.2.1, hdt.2.2.1.2.2.2.2.2.2.2.2.2.2.2.2.2.2.2.2.2, vn, wn, hn n (by omega), isr_ref, rv_ref, true_and, forall_eq]
        refine gI (s_hasS (s := 0) (nl n) (by omega)) (by omega) (fun b => ?_) (fun _ => by simp only [hdt.1, hdt.2.1.1, isr_ref, rv_ref, true_and, forall_eq]; exact g)
        replace hn1 : (nr T n).testBit 0 = true := hn1
        rw [hn1] at b; cases b
  · have : k = 0 := by omega
    subst this
    rw [A_sA, if_pos ⟨rfl, rfl⟩]; rfl
