/-! ===== the model: the shortest word; shortestInput ===== -/
theorem bit0_1 {S : Nat} (h : S < 4096) : (Int32.ofInt (S : Int) &&& 1 = 0) ↔ S.testBit 0 = false := by
  have e : (1 : Int32) = Int32.ofInt ((1 : Nat) : Int) := rfl
  rw [e, i_andN, i_0 (by have := and_lt4 (b := 1) h; omega), Nat.and_one_is_mod, Nat.testBit_zero]
  constructor
  · intro q; rw [q]; rfl
  · intro q
    rw [decide_eq_false_iff_not] at q; omega
def XH (m : Nat) (σ σ' : pm_H) : Prop := frX m (fun f => f = 1200 ∨ f = 1220) (fun i => i = 13 ∨ i = 19 ∨ i = 20) (fun _ => False) σ σ'
theorem XH_tr {m : Nat} {σ σ1 σ2 : pm_H} (h : XH m σ σ1) (g : XH m σ1 σ2) : XH m σ σ2 := frX.tr h g
theorem XH_F {f : Nat} (hf : f = 1200 ∨ f = 1220) : f ∉ mTab.map (fun e => e.1) := by rcases hf with e | e <;> (rw [e]; decide)
theorem XH_mS {m : Nat} {σ σ' : pm_H} (h : XH m σ σ') (hm : mS σ m) : mS σ' m := frX.mS h hm (fun _ hf => XH_F hf)
theorem XH_sA {m i k : Nat} {v : Value} {σ : pm_H} (hi : i = 13 ∨ i = 20) : XH m σ (pm_sA σ (m + i) k v) := (frX_sA (by omega) (by omega)).mono (fun _ h => h.elim) (fun j h => by omega) (fun _ h => h)
theorem XH_sF {m f : Nat} {v : Value} {σ : pm_H} (hf : f = 1200 ∨ f = 1220) : XH m σ (pm_sF σ f m v) := frX_sF.mono (fun g h => by omega) (fun _ h => h.elim) (fun _ h => h)
/-- the sets of states by distance -/
def mEx (τ : pm_H) (m : Nat) (T : Tr) (k : Nat) : Prop := ∀ j, j ≤ k → iv (pm_A τ (m + 20) j) = Int32.ofInt ((ex T j : Nat) : Int)
theorem pre_any {rs : List Rl} {X p : Nat} : ∀ n, (if (List.range (n + 1)).any (preP rs X p) then 2 ^ p else 0 : Nat) = (if (List.range n).any (preP rs X p) then 2 ^ p else 0) ||| (if preP rs X p n then 2 ^ p else 0) := by
  intro n
  rw [any_range_s]
  cases (List.range n).any (preP rs X p) <;> cases preP rs X p n <;> simp
theorem nr_12 {T : Tr} (hT : okTr T) : nr T 12 = nr T 11 := by
  have h0 : wsrc T.2 T.1 = T.1 ∨ ∃ q, q < 12 ∧ T.1.testBit q = true := by
    rcases ex_bit hT.1 with c | c
    · refine Or.inl ?_
      rw [c]; exact foldW_0 T.2
    · exact Or.inr c
  have := rest_11 (f := wsrc T.2) hT.1 h0 (fun X hX => foldW_lt hT.2 X hX) (fun X _ => foldW_sub X T.2 X)
  rw [← itW_F, ← itW_F] at this
  exact this
theorem s_M_short_27 {σ τ0 : pm_H} {m N : Nat} {T : Tr} {Q : pm_O → pm_H → Prop} (hm : mS σ m) (hT : okTr T) (hN : N ≤ 12) (hb : ∀ k, k < N → (ex T k).testBit 0 = false) (h0 : XH m σ τ0) (s0 : mSt τ0 m 0 T.2) (e0 : mEx τ0 m T 0) (r0 : pm_F τ0 1200 m = pm_F σ 1200 m ∧ pm_F τ0 1220 m = pm_F σ 1220 m ∧ ∀ j, pm_A τ0 (m + 13) j = pm_A σ (m + 13) j)
    (hQ : ∀ τ, XH m σ τ → mSt τ m 0 T.2 → mEx τ m T N → (pm_F τ 1200 m = pm_F σ 1200 m ∧ pm_F τ 1220 m = pm_F σ 1220 m ∧ ∀ j, pm_A τ (m + 13) j = pm_A σ (m + 13) j) → pm_R 39 217 27 [.ref m, pm_U, .int (Int32.ofInt (N : Int)), pm_U, pm_U, pm_U] [] τ Q) : pm_R 39 217 27 [.ref m, pm_U, .int ((0 : Int32)), pm_U, pm_U, pm_U] [] τ0 Q := by
  refine lp (fun k => [.ref m, pm_U, .int (Int32.ofInt (k : Nat)), pm_U, pm_U, pm_U]) (fun k τ => XH m σ τ ∧ mSt τ m 0 T.2 ∧ mEx τ m T k ∧ (pm_F τ 1200 m = pm_F σ 1200 m ∧ pm_F τ 1220 m = pm_F σ 1220 m ∧ ∀ j, pm_A τ (m + 13) j = pm_A σ (m + 13) j)) N (fun k hk τ hh next => ?_) (fun τ hh => hQ τ hh.1 hh.2.1 hh.2.2.1 hh.2.2.2) 0 (Nat.zero_le _) τ0 ⟨h0, s0, e0, r0⟩
  obtain ⟨i1, i2, i3, i4⟩ := hh
  have mt := XH_mS i1 hm
  have vk := vi (show k < 13 by omega) (by omega)
  have wk := vc (show k < 2000000 by omega)
  have vk1 := vi (show k + 1 < 13 by omega) (by omega)
  have wk1 := vc (show k + 1 < 2000000 by omega)
  have exl := ex_lt hT k
  refine w_M_shortestInput_27 ⟨fun q => ?_, fun _ => ?_⟩
  · rw [i32_12 (by omega)] at q; omega
  simp only [mt.1, mt.f20, mt.t20, mt.l20, isr_ref, rv_ref, vk, wk, vk1, wk1, i3 k (Nat.le_refl _), bit0_1 exl, hb k hk, not_true_eq_false, false_implies, true_implies, and_true, true_and, forall_eq, oi_s]
  -- states
  refine lp (fun p => [.ref m, pm_U, .int (Int32.ofInt (k : Nat)), .int (Int32.ofInt (p : Nat)), pm_U, pm_U]) (fun p τ => XH m σ τ ∧ mSt τ m 0 T.2 ∧ mEx τ m T k ∧ (pm_F τ 1200 m = pm_F σ 1200 m ∧ pm_F τ 1220 m = pm_F σ 1220 m ∧ ∀ j, pm_A τ (m + 13) j = pm_A σ (m + 13) j) ∧ iv (pm_A τ (m + 20) (k + 1)) = Int32.ofInt ((preN T.2 (ex T k) p : Nat) : Int)) 12 (fun p hp τ hh next2 => ?_) (fun τ hh => ?_) 0 (Nat.zero_le _) _ ⟨XH_tr i1 (XH_sA (by omega)), mSt_sA i2 (by omega), fun j hj => by rw [A_sA, if_neg (by omega)]; exact i3 j hj, ⟨i4.1, i4.2.1, fun j => by rw [A_sA, if_neg (by omega)]; exact i4.2.2 j⟩, by rw [A_sA, if_pos ⟨rfl, rfl⟩]; rfl⟩
  · refine w_M_shortestInput_46 ⟨fun q => ?_, fun _ => ?_⟩
    · rw [i32_12 (by omega)] at q; omega
    obtain ⟨j1, j2, j3, j4, j5⟩ := hh
    refine lp (fun s => [.ref m, pm_U, .int (Int32.ofInt (k : Nat)), .int (Int32.ofInt (p : Nat)), .int (Int32.ofInt (s : Nat)), pm_U]) (fun s τ => XH m σ τ ∧ mSt τ m 0 T.2 ∧ mEx τ m T k ∧ (pm_F τ 1200 m = pm_F σ 1200 m ∧ pm_F τ 1220 m = pm_F σ 1220 m ∧ ∀ j, pm_A τ (m + 13) j = pm_A σ (m + 13) j) ∧ iv (pm_A τ (m + 20) (k + 1)) = Int32.ofInt ((preN T.2 (ex T k) p ||| (if (List.range s).any (preP T.2 (ex T k) p) then 2 ^ p else 0) : Nat) : Int)) 100 (fun s hs τ hh next3 => ?_) (fun τ hh => ?_) 0 (Nat.zero_le _) τ ⟨j1, j2, j3, j4, by rw [j5]; simp⟩
    · obtain ⟨k1, k2, k3, k4, k5⟩ := hh
      have mt := XH_mS k1 hm
      have rt := k2 p s hp hs
      rw [Nat.mul_zero, Nat.zero_add] at rt
      have vt := vi (show 100 * p + s < 2400 by omega) (by omega)
      have wt := vc (show 100 * p + s < 2000000 by omega)
      have tl : tg T.2 p s < 4096 := tg_lt hT.2
      have fin : ∀ v : Nat, v = (if preP T.2 (ex T k) p s then 2 ^ p else 0) → XH m σ (pm_sA τ (m + 20) (k + 1) (.int (Int32.ofInt (((preN T.2 (ex T k) p ||| (if (List.range s).any (preP T.2 (ex T k) p) then 2 ^ p else 0)) ||| v : Nat) : Int)))) ∧ mSt (pm_sA τ (m + 20) (k + 1) (.int (Int32.ofInt (((preN T.2 (ex T k) p ||| (if (List.range s).any (preP T.2 (ex T k) p) then 2 ^ p else 0)) ||| v : Nat) : Int)))) m 0 T.2 ∧ mEx (pm_sA τ (m + 20) (k + 1) (.int (Int32.ofInt (((preN T.2 (ex T k) p ||| (if (List.range s).any (preP T.2 (ex T k) p) then 2 ^ p else 0)) ||| v : Nat) : Int)))) m T k ∧ (pm_F (pm_sA τ (m + 20) (k + 1) (.int (Int32.ofInt (((preN T.2 (ex T k) p ||| (if (List.range s).any (preP T.2 (ex T k) p) then 2 ^ p else 0)) ||| v : Nat) : Int)))) 1200 m = pm_F σ 1200 m ∧ pm_F (pm_sA τ (m + 20) (k + 1) (.int (Int32.ofInt (((preN T.2 (ex T k) p ||| (if (List.range s).any (preP T.2 (ex T k) p) then 2 ^ p else 0)) ||| v : Nat) : Int)))) 1220 m = pm_F σ 1220 m ∧ ∀ j, pm_A (pm_sA τ (m + 20) (k + 1) (.int (Int32.ofInt (((preN T.2 (ex T k) p ||| (if (List.range s).any (preP T.2 (ex T k) p) then 2 ^ p else 0)) ||| v : Nat) : Int)))) (m + 13) j = pm_A σ (m + 13) j) ∧ iv (pm_A (pm_sA τ (m + 20) (k + 1) (.int (Int32.ofInt (((preN T.2 (ex T k) p ||| (if (List.range s).any (preP T.2 (ex T k) p) then 2 ^ p else 0)) ||| v : Nat) : Int)))) (m + 20) (k + 1)) = Int32.ofInt ((preN T.2 (ex T k) p ||| (if (List.range (s + 1)).any (preP T.2 (ex T k) p) then 2 ^ p else 0) : Nat) : Int) := by
        intro v hv
        refine ⟨XH_tr k1 (XH_sA (by omega)), mSt_sA k2 (by omega), fun j hj => by rw [A_sA, if_neg (by omega)]; exact k3 j hj, ⟨k4.1, k4.2.1, fun j => by rw [A_sA, if_neg (by omega)]; exact k4.2.2 j⟩, ?_⟩
        rw [A_sA, if_pos ⟨rfl, rfl⟩, pre_any, hv, Nat.or_assoc]; rfl
      refine w_M_shortestInput_51 ⟨fun q => ?_, fun _ => ?_⟩
      · rw [i32_100 (by omega)] at q; omega
      simp only [mt.1, mt.f20, mt.t20, mt.l20, mt.f19, mt.t19, mt.l19, isr_ref, rv_ref, oi_l100, oi_addN, oi_s, vk, wk, vk1, wk1, vt, wt, rt, k3 k (Nat.le_refl _), k5, i_andN, true_and, forall_eq]
      rw [i_0 (by have := and_lt4 (b := ex T k) tl; omega)]
      refine ⟨fun c => ?_, fun c => ?_⟩
      · have := fin 0 (by unfold preP; rw [decide_eq_false (fun q => q c)]; rfl)
        rw [Nat.or_zero] at this
        rw [Int32.or_zero]
        exact next3 _ this
      · have := fin (2 ^ p) (by unfold preP; rw [decide_eq_true c]; rfl)
        rw [st_one hp, i_orN]
        exact next3 _ this
    · obtain ⟨k1, k2, k3, k4, k5⟩ := hh
      refine w_M_shortestInput_51 ⟨fun _ => ?_, fun q => absurd (Int32.le_refl _) q⟩
      rw [oi_s]
      exact next2 τ ⟨k1, k2, k3, k4, k5⟩
  · obtain ⟨j1, j2, j3, j4, j5⟩ := hh
    refine w_M_shortestInput_46 ⟨fun _ => ?_, fun q => absurd (Int32.le_refl _) q⟩
    rw [oi_s]
    refine next τ ⟨j1, j2, fun j hj => ?_, j4⟩
    by_cases c : j = k + 1
    · rw [c]; exact j5
    · exact j3 j (by omega)
theorem s_M_short_109 {σ τ0 : pm_H} {m n : Nat} {T : Tr} {Q : pm_O → pm_H → Prop} (hm : mS σ m) (hT : okTr T) (hn : n ≤ 11) (hn1 : (nr T n).testBit 0 = true) (hn2 : ∀ j, j < n → (nr T j).testBit 0 = false) (h0 : XH m σ τ0) (s0 : mSt τ0 m 0 T.2) (e0 : mEx τ0 m T n) (z0 : iv (pm_F τ0 1200 m) = 0)
    (hQ : ∀ τ, XH m σ τ → iv (pm_F τ 1200 m) = 0 → mRes τ m (swd T n 1) → Q (.inl (some (.int (Int32.ofInt (n : Int))))) τ) : pm_R 39 217 109 [.ref m, pm_U, .int (Int32.ofInt (n : Int)), .int ((1 : Int32)), .int ((0 : Int32)), pm_U] [] τ0 Q := by
  refine lp_up (fun i S => [.ref m, pm_U, .int (Int32.ofInt (n : Int)), .int (Int32.ofInt (S : Nat)), .int (Int32.ofInt (i : Nat)), pm_U]) (fun i S τ => onW T n i S ∧ XH m σ τ ∧ mSt τ m 0 T.2 ∧ mEx τ m T n ∧ iv (pm_F τ 1200 m) = 0 ∧ ∃ l, l.length = i ∧ l ++ swd T (n - i) S = swd T n 1 ∧ ∀ (k s : Nat), l[k]? = some s → iv (pm_A τ (m + 13) k) = Int32.ofInt (s : Int)) n (fun i hi S τ hh next => ?_) (fun S τ hh => ?_) 0 (Nat.zero_le _) 1 τ0 ⟨onW_0 hn1 hn2, h0, s0, e0, z0, [], rfl, rfl, fun k s h => by simp at h⟩
  · obtain ⟨ow, i1, i2, i3, i4, l, ll, le, lr⟩ := hh
    have mt := XH_mS i1 hm
    obtain ⟨o1, o2, o3⟩ := onW_n hT ow hi
    have sl := sw1_lt T (n - 1 - i) S
    have exl := ex_lt hT (n - 1 - i)
    have v13 := vi (show n - 1 - i < 13 by omega) (by omega)
    have w13 := vc (show n - 1 - i < 2000000 by omega)
    have v60 := vi (show i < 60 by omega) (by omega)
    have w60 := vc (show i < 2000000 by omega)
    have ei : Int32.ofInt (n : Int) - 1 - Int32.ofInt (i : Int) = Int32.ofInt ((n - 1 - i : Nat) : Int) := by
      rw [oi_sub1, oi_sub]; congr 1; omega
    refine w_M_shortestInput_109 ⟨fun q => ?_, fun _ => ?_⟩
    · rw [oi_le (by omega)] at q; omega
    have stop : ∀ s, s = sw1 T (n - 1 - i) S → pm_R 39 217 114 [.ref m, pm_U, .int (Int32.ofInt (n : Int)), .int (Int32.ofInt (S : Nat)), .int (Int32.ofInt (i : Nat)), .int (Int32.ofInt (s : Int))] [] τ Q := by
      intro s hs
      subst hs
      refine w_M_shortestInput_114 ⟨mt.1, (s_M_after (sd := 0) mt i2 (by omega) ow.1 sl).use (by omega) ?_⟩
      have al : aft T.2 S (sw1 T (n - 1 - i) S) < 4096 := aftN_lt hT.2 12
      simp only [mt.1, mt.f20, mt.t20, mt.l20, mt.f13, mt.t13, mt.l13, isr_ref, rv_ref, ei, v13, w13, v60, w60, i3 (n - 1 - i) (by omega), i_andN, true_and, forall_eq, t_sA]
      rw [i_0 (by have := and_lt4 (b := ex T (n - 1 - i)) al; omega)]
      refine ⟨fun q => absurd q o2, fun _ => ?_⟩
      have i1' := XH_tr i1 (XH_sA (k := i) (v := .int (Int32.ofInt ((sw1 T (n - 1 - i) S : Nat) : Int))) (Or.inl rfl))
      have mt' := XH_mS i1' hm
      refine (s_M_after (sd := 0) mt' (mSt_sA i2 (by omega)) (by omega) ow.1 sl).use (by omega) ?_
      rw [oi_s]
      refine next _ _ ⟨o3, i1', mSt_sA i2 (by omega), fun j hj => by rw [A_sA, if_neg (by omega)]; exact i3 j hj, i4, l ++ [sw1 T (n - 1 - i) S], by rw [List.length_append, ll]; rfl, ?_, fun k s hk => ?_⟩
      · rw [List.append_assoc, ← le]
        congr 1
        rw [show n - i = (n - 1 - i) + 1 by omega, show n - (i + 1) = n - 1 - i by omega]
        rfl
      · rw [A_sA]
        rcases getA hk with q | ⟨q, q2⟩
        · have := (List.getElem?_eq_some_iff.mp q).1
          rw [if_neg (by omega)]; exact lr k s q
        · rw [if_pos ⟨rfl, by omega⟩, q2]; rfl
    -- the symbols before it don't do
    have bef : ∀ s, s ≤ sw1 T (n - 1 - i) S → fb (hitP T.2 S (ex T (n - 1 - i))) (99 - s) s = sw1 T (n - 1 - i) S → pm_R 39 217 114 [.ref m, pm_U, .int (Int32.ofInt (n : Int)), .int (Int32.ofInt (S : Nat)), .int (Int32.ofInt (i : Nat)), .int (Int32.ofInt (s : Int))] [] τ Q := by
      intro s hs
      obtain ⟨j, hj⟩ := Nat.exists_eq_add_of_le hs
      induction j generalizing s with
      | zero => intro _; exact stop s (by omega)
      | succ j ih =>
        intro hf
        have s99 : s < 99 := by omega
        have e99 : 99 - s = (99 - (s + 1)) + 1 := by omega
        rw [e99] at hf
        replace hf : (if hitP T.2 S (ex T (n - 1 - i)) s then s else fb (hitP T.2 S (ex T (n - 1 - i))) (99 - (s + 1)) (s + 1)) = sw1 T (n - 1 - i) S := hf
        have no : ¬ hitP T.2 S (ex T (n - 1 - i)) s = true := fun q => by rw [if_pos q] at hf; omega
        rw [if_neg no] at hf
        have g := ih (s + 1) (by omega) (by omega) hf
        refine w_M_shortestInput_114 ⟨mt.1, (s_M_after (sd := 0) mt i2 (by omega) ow.1 (by omega)).use (by omega) ?_⟩
        have al : aft T.2 S s < 4096 := aftN_lt hT.2 12
        simp only [mt.1, mt.f20, mt.t20, mt.l20, isr_ref, rv_ref, ei, v13, w13, i3 (n - 1 - i) (by omega), i_andN, true_and, forall_eq]
        rw [i_0 (by have := and_lt4 (b := ex T (n - 1 - i)) al; omega), oi_s]
        refine ⟨fun _ => g, fun c => absurd (decide_eq_true c) no⟩
    exact bef 0 (Nat.zero_le _) rfl
  · obtain ⟨ow, i1, i2, i3, i4, l, ll, le, lr⟩ := hh
    have mt := XH_mS i1 hm
    rw [Nat.sub_self] at le
    replace le : l ++ [] = swd T n 1 := le
    rw [List.append_nil] at le
    refine w_M_shortestInput_109 ⟨fun _ => ⟨mt.1, fun τ1 e1 => ?_⟩, fun q => absurd (Int32.le_refl _) q⟩
    refine hQ τ1 (by rw [e1]; exact XH_tr i1 (XH_sF (Or.inr rfl))) (by rw [e1, F_sF, if_neg (by omega)]; exact i4) ⟨?_, ?_, fun k s hk => ?_⟩
    · rw [e1, F_sF, if_pos ⟨rfl, rfl⟩, ← le, ll]; rfl
    · rw [← le, ll]; omega
    · rw [← le] at hk
      rw [e1, A_sF]; exact lr k s hk
theorem J_shortestInput {x m N0 L : Nat} {A : AS} (hA : okA A) {z1 : Int} (r1 : rg z1) : ∃ k v A', okA A' ∧ (∀ σ, isB σ x N0 A → isL σ x N0 L → pm_C 39 270 [.ref x, .int (Int32.ofInt z1), .ref L] σ (bOut x N0 1 6 σ k v A' L)) ∧ ∀ σ, isM σ m A → pm_C 39 217 [.ref m, .int (Int32.ofInt z1)] σ (mOut m σ k v A') := by
  by_cases hv : 0 ≤ z1 ∧ z1 < 4
  · obtain ⟨sl, rfl⟩ : ∃ n : Nat, z1 = n := ⟨z1.toNat, by omega⟩
    have hsl : sl < 4 := by omega
    have hT := hA.1 sl hsl
    generalize eT : aS A sl = T at hT
    have v4 := vi (show sl < 4 from hsl) (by omega)
    have v13 := vi (show sl < 13 by omega) (by omega)
    have ws := vc (show sl < 2000000 by omega)
    have call : ∀ σ, isB σ x N0 A → pm_C 37 16 [.ref (x + 1657), .ref (x + 2 + 122 * sl), .ref (x + 1598)] σ (fun o σ' => o = .inl (some (.int (bI ((nr T 11).testBit 0)))) ∧ ((nr T 11).testBit 0 = false → isB σ' x N0 A) ∧ (∀ n, n ≤ 11 → (nr T n).testBit 0 = true → (∀ j, j < n → (nr T j).testBit 0 = false) → isB σ' x N0 (aS A, aH A, aL A, aW A, swd T n 1)) ∧ fr (pScr x) σ σ') := by
      intro σ h
      obtain ⟨π, ht⟩ := h.2.1 sl hsl
      rw [eT] at ht
      have ho := h.2.2.2.2.2.2.2.1
      have hd := h.2.2.2.2.2.2.2.2.1
      have hr := h.2.2.2.2.2.2.1
      refine pm_C_mono (pm_C_up (s_Do_findShortest hd ht hT hr.1 (by omega) (by omega) (by omega)) (by omega)) (fun o σ' p => ?_)
      obtain ⟨rfl, p1, f, p2, p3⟩ := p
      have hP : ∀ b, pSh (x + 1657) (x + 1598) b → pScr x b := fun b hb => by unfold pSh pWo at hb; unfold pScr pWo pDo; omega
      have ho' := isOu_fr ho f (fun b hb => by unfold pO at hb; unfold pSh pWo; omega)
      refine ⟨rfl, fun hn => ?_, fun n h1 h2 h3 => (isB_scr h f hP ho' p1 (p3 n h1 h2 h3)).1, f.mono hP⟩
      have f2 : fr (fun b => b = x + 1657 + 1 ∨ b = x + 1657 + 2 ∨ b = x + 1657 + 13) σ σ' := ⟨f.1, f.2.1, fun b hb => by
        by_cases c : pWo (x + 1598) b
        · exact p2 hn b c
        · exact f.2.2 b (fun q => by
            unfold pSh at q
            rcases q with q | q | q | q
            · exact hb (Or.inl q)
            · exact hb (Or.inr (Or.inl q))
            · exact hb (Or.inr (Or.inr q))
            · exact c q)⟩
      exact (isB_scr h f hP ho' p1 (isWo_fr hr f2 (fun b hb => by unfold pWo at hb; omega))).1
    have mcall : ∀ σ, isM σ m A → ∀ σ1, mS σ1 m → frT m (fun _ => False) (fun _ => False) σ σ1 → iv (pm_F σ1 1200 m) = 0 → ∀ (N : Nat) (Q : pm_O → pm_H → Prop), N ≤ 12 → (∀ k, k < N → (ex T k).testBit 0 = false) → (∀ τ, XH m σ1 τ → mSt τ m 0 T.2 → mEx τ m T N → (pm_F τ 1200 m = pm_F σ1 1200 m ∧ pm_F τ 1220 m = pm_F σ1 1220 m ∧ ∀ j, pm_A τ (m + 13) j = pm_A σ1 (m + 13) j) → pm_R 39 217 27 [.ref m, pm_U, .int (Int32.ofInt (N : Int)), pm_U, pm_U, pm_U] [] τ Q) → pm_C 38 212 [.ref m, .int (Int32.ofInt (sl : Int)), .int ((0 : Int32))] σ1 (pm_kV (fun σ3 => (pm_t σ3 m = 13 ∧ isr (pm_F σ3 1227 m) = true) ∧ ∀ z4, z4 = rv (pm_F σ3 1227 m) → (pm_t σ3 m = 13 ∧ isr (pm_F σ3 1201 m) = true) ∧ ∀ z5, z5 = rv (pm_F σ3 1201 m) → (pm_t σ3 z5 = 100 ∧ vp_in (Int32.ofInt (sl : Int)) (pm_l σ3 z5)) ∧ ∀ z6, z6 = iv (pm_A σ3 z5 (Int32.ofInt (sl : Int)).toNatClampNeg) → (pm_t σ3 z4 = 100 ∧ vp_in ((0 : Int32)) (pm_l σ3 z4)) ∧ ∀ σ7, σ7 = pm_sA σ3 z4 ((0 : Int32)).toNatClampNeg (.int z6) → pm_R 39 217 27 [.ref m, pm_U, .int ((0 : Int32)), pm_U, pm_U, pm_U] [] σ7 Q) (pm_kX 39 217 false [] Q)) := by
      intro σ h σ1 m1 f1 y1 N Q hN hb hQ
      have h1 := isM_scr h hA f1 (fun _ q => Or.inl q) (fun _ q => q.elim) (fun _ q => q.elim)
      have ht1 := h1.2.1 sl hsl
      rw [eT] at ht1
      refine (s_M_steps (sd := 0) m1 ht1 hT hsl (by omega)).use (by omega) (fun σ3 p3 => ?_)
      have x3 : XH m σ1 σ3 := frX.mono p3.2.1 (fun _ q => q.elim) (fun i q => by omega) (fun _ q => q)
      have m3 := XH_mS x3 m1
      have ht3 := frX.T x3 ht1 hT id
      have v0 : vp_in (0 : Int32) 13 := by rw [vp_in_iff]; decide
      simp only [m3.1, m3.f20, m3.t20, m3.l20, m3.f1, m3.t1, m3.l1, isr_ref, rv_ref, v13, ws, v0, c00, ht3.1, true_and, forall_eq]
      refine s_M_short_27 m1 hT hN hb (XH_tr x3 (XH_sA (by omega))) (mSt_sA p3.1 (by omega)) (fun j hj => ?_) ⟨by rw [F_sA]; exact frX.F p3.2.1 id, by rw [F_sA]; exact frX.F p3.2.1 id, fun j => ?_⟩ hQ
      · have : j = 0 := by omega
        subst this
        rw [A_sA, if_pos ⟨rfl, rfl⟩]; rfl
      · rw [A_sA, if_neg (by omega)]; exact frX.A p3.2.1 (by omega) (by omega)
    cases eb : (nr T 11).testBit 0 with
    | false =>
      rw [eb] at call
      have low : ∀ k, k ≤ 11 → (nr T k).testBit 0 = false := fun k hk => by
        cases e : (nr T k).testBit 0 with
        | false => rfl
        | true => rw [nr_mono e hk] at eb; cases eb
      have exl : ∀ k, k ≤ 12 → (ex T k).testBit 0 = false := fun k hk => by
        cases e : (ex T k).testBit 0 with
        | false => rfl
        | true =>
          have := ex_nr k 0 e
          by_cases c : k = 12
          · rw [c, nr_12 hT, eb] at this; cases this
          · rw [low k (by omega)] at this; cases this
      refine ⟨2, 0, A, hA, fun σ h hL => ?_, fun σ h => ?_⟩
      · have hd := h.2.2.2.2.2.2.2.2.1
        refine w_L_shortestInput_0 ⟨h.1.1, w_B_shortestInput_0 (q_slot r1 (fun _ => ?_) (fun n => absurd hv n))⟩
        simp only [h.1.1, h.1.2.1.1, h.1.2.1.2.2.2.2.2.1, h.1.2.1.2.2.2.2.2.2.2.1, h.1.2.2.1, h.1.2.2.2.1, h.1.2.2.2.2 sl hsl, isr_ref, rv_ref, v4, ws, hd.1.1, true_and, forall_eq]
        refine pm_C_mono (call σ h) (fun o σ' p => ?_)
        obtain ⟨rfl, p1, _, f⟩ := p
        exact kI_B ⟨fun _ => k_L_shortestInput_12 (L_ex i2_ne (isB_thr (p1 rfl)) (fB_thr f (fun _ q => pScr_B q))), fun n => absurd rfl n⟩
      · have hm := h.1
        refine w_M_shortestInput_0 (gD (s_M_isSlot r1) (by omega) (fun n => absurd hv n) (fun _ => w_M_shortestInput_7 (thr0 hm (fun σ1 m1 f1 y1 => ⟨m1.1, ?_⟩))))
        refine mcall σ h σ1 m1 f1 y1 12 _ (by omega) (fun k hk => exl k (by omega)) (fun τ xt st et rt => ?_)
        have mt := XH_mS xt m1
        have v12 := vi (show 12 < 13 by omega) (by omega)
        have w12 := vc (show 12 < 2000000 by omega)
        refine w_M_shortestInput_27 ⟨fun _ => w_M_shortestInput_88 ?_, fun q => absurd (Int32.le_refl _) q⟩
        simp only [mt.1, mt.f20, mt.t20, mt.l20, isr_ref, rv_ref, v12, w12, et 12 (Nat.le_refl _), bit0_1 (ex_lt hT 12), exl 12 (Nat.le_refl _), not_true_eq_false, false_implies, true_implies, and_true, true_and, forall_eq]
        have x2 : XH m σ1 (pm_sF τ 1200 m (.int ((2 : Int32)))) := XH_tr xt (XH_sF (Or.inl rfl))
        have h1 := isM_scr h hA f1 (fun _ q => Or.inl q) (fun _ q => q.elim) (fun _ q => q.elim)
        have e2 : iv (pm_F (pm_sF τ 1200 m (.int ((2 : Int32)))) 1200 m) = 2 := by rw [F_sF, if_pos ⟨rfl, rfl⟩]; rfl
        have g := isM_mk h1 hA x2 (fun f hf => XH_F hf) (fun i hi => Or.inl ⟨id, rfl⟩) (Or.inl ⟨by omega, by omega, fun _ _ q => q, rfl⟩) (Or.inl ⟨by omega, by omega, rfl⟩) (Or.inl ⟨by omega, by omega, rfl⟩) (Or.inr ⟨by rw [F_sF, if_neg (by omega), rt.2.1]; exact h1.2.2.2.2.2.1, h1.2.2.2.2.2.2.1, fun i s hi => by rw [A_sF, rt.2.2]; exact h1.2.2.2.2.2.2.2 i s hi⟩)
        refine ⟨mt.1, fun q => ?_, fun _ => ⟨⟨_, rfl, fun q => absurd q i2_ne⟩, e2, g, (frX.fr f1).tr (frX.fr x2)⟩⟩
        rw [e2] at q; exact absurd q i2_ne
    | true =>
      rw [eb] at call
      obtain ⟨n, n11, hn1, hn2⟩ := least (p := fun k => (nr T k).testBit 0) 11 eb
      replace hn1 : (nr T n).testBit 0 = true := hn1
      replace hn2 : ∀ j, j < n → (nr T j).testBit 0 = false := hn2
      have ow := swd_ok T n 1
      have exn : (ex T n).testBit 0 = true := nr_ex hT n 0 hn1 hn2
      have exl : ∀ k, k < n → (ex T k).testBit 0 = false := fun k hk => by
        cases e : (ex T k).testBit 0 with
        | false => rfl
        | true => have := hn2 k hk
                  rw [ex_nr k 0 e] at this; cases this
      refine ⟨0, (Int32.ofInt (n : Int)).toInt64, (aS A, aH A, aL A, aW A, swd T n 1), okA_R hA (by omega) ow.2, fun σ h hL => ?_, fun σ h => ?_⟩
      · have hd := h.2.2.2.2.2.2.2.2.1
        refine w_L_shortestInput_0 ⟨h.1.1, w_B_shortestInput_0 (q_slot r1 (fun _ => ?_) (fun n => absurd hv n))⟩
        simp only [h.1.1, h.1.2.1.1, h.1.2.1.2.2.2.2.2.1, h.1.2.1.2.2.2.2.2.2.2.1, h.1.2.2.1, h.1.2.2.2.1, h.1.2.2.2.2 sl hsl, isr_ref, rv_ref, v4, ws, hd.1.1, true_and, forall_eq]
        refine pm_C_mono (call σ h) (fun o σ' p => ?_)
        obtain ⟨rfl, _, p1, f⟩ := p
        have hb := p1 n n11 hn1 hn2
        have hw' : isWo σ' (x + 1598) (swd T n 1) := hb.2.2.2.2.2.2.1
        refine kI_B ⟨fun q => absurd (show (1 : Int32) = 0 from q) (by decide), fun _ => ?_⟩
        simp only [hb.1.1, hb.1.2.1.2.2.2.2.2.1, hw'.1.1, hw'.2.1, ow.1, isr_ref, rv_ref, true_and, forall_eq]
        exact L_ok2 hL hb (fB_fr f (fun _ q => pScr_B q))
      · have hm := h.1
        refine w_M_shortestInput_0 (gD (s_M_isSlot r1) (by omega) (fun n => absurd hv n) (fun _ => w_M_shortestInput_7 (thr0 hm (fun σ1 m1 f1 y1 => ⟨m1.1, ?_⟩))))
        refine mcall σ h σ1 m1 f1 y1 n _ (by omega) exl (fun τ xt st et rt => ?_)
        have mt := XH_mS xt m1
        have vn := vi (show n < 13 by omega) (by omega)
        have wn := vc (show n < 2000000 by omega)
        have b1 : ¬ (ex T n).testBit 0 = false := by rw [exn]; decide
        have R88 : pm_R 39 217 88 [.ref m, pm_U, .int (Int32.ofInt (n : Int)), pm_U, pm_U, pm_U] [] τ (mOut m σ 0 (Int32.ofInt (n : Int)).toInt64 (aS A, aH A, aL A, aW A, swd T n 1)) := by
          refine w_M_shortestInput_88 ?_
          simp only [mt.1, mt.f20, mt.t20, mt.l20, isr_ref, rv_ref, vn, wn, et n (Nat.le_refl _), bit0_1 (ex_lt hT n), exn, reduceCtorEq, not_false_eq_true, false_implies, true_implies, and_true, true_and, forall_eq]
          have x2 : XH m σ1 (pm_sF τ 1200 m (.int ((0 : Int32)))) := XH_tr xt (XH_sF (Or.inl rfl))
          have e2 : iv (pm_F (pm_sF τ 1200 m (.int ((0 : Int32)))) 1200 m) = 0 := by rw [F_sF, if_pos ⟨rfl, rfl⟩]; rfl
          refine ⟨mt.1, fun _ => s_M_short_109 m1 hT n11 hn1 hn2 x2 (mSt_sF st) (fun j hj => by rw [A_sF]; exact et j hj) e2 (fun τ' x' z' r' => ?_), fun q => absurd e2 q⟩
          have h1 := isM_scr h hA f1 (fun _ q => Or.inl q) (fun _ q => q.elim) (fun _ q => q.elim)
          have g := isM_mk (A' := (aS A, aH A, aL A, aW A, swd T n 1)) h1 hA x' (fun f hf => XH_F hf) (fun i hi => Or.inl ⟨id, rfl⟩) (Or.inl ⟨by omega, by omega, fun _ _ q => q, rfl⟩) (Or.inl ⟨by omega, by omega, rfl⟩) (Or.inl ⟨by omega, by omega, rfl⟩) (Or.inr r')
          exact ⟨⟨_, rfl, fun _ => rfl⟩, z', g, (frX.fr f1).tr (frX.fr x')⟩
        refine w_M_shortestInput_27 ⟨fun _ => R88, fun _ => ?_⟩
        simp only [mt.1, mt.f20, mt.t20, mt.l20, isr_ref, rv_ref, vn, wn, et n (Nat.le_refl _), bit0_1 (ex_lt hT n), exn, reduceCtorEq, not_false_eq_true, false_implies, true_implies, and_true, true_and, forall_eq]
        exact R88
  · refine ⟨1, 0, A, hA, fun σ h hL => ?_, fun σ h => ?_⟩
    · exact w_L_shortestInput_0 ⟨h.1.1, w_B_shortestInput_0 (q_slot r1 (fun s => absurd s hv) (fun n => k_L_shortestInput_9 (L_thr i1_ne h)))⟩
    · exact w_M_shortestInput_0 (gD (s_M_isSlot r1) (by omega) (fun n => w_M_shortestInput_7 (thrK h.1 i1_ne (fun σ1 m1 f1 y1 => mOut_e i1_ne h hA f1 y1))) (fun s => absurd s hv))
