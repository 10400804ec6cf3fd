/-! ===== the model: pairs ===== -/
def XP (m : Nat) (σ σ' : pm_H) : Prop := frX m (fun f => f = 1234) (fun i => 21 ≤ i ∧ i ≤ 28) (fun _ => False) σ σ'
theorem XP.tr {m : Nat} {σ σ1 σ2 : pm_H} (h : XP m σ σ1) (g : XP m σ1 σ2) : XP m σ σ2 := frX.tr h g
theorem XP.mS {m : Nat} {σ σ' : pm_H} (h : XP m σ σ') (hm : mS σ m) : mS σ' m := frX.mS h hm (fun f hf => by rw [hf]; decide)
/-- one row changes -/
def XR (m ro : Nat) (σ σ' : pm_H) : Prop := frX m (fun _ => False) (fun i => i = ro) (fun _ => False) σ σ'
theorem XR.tr {m ro : Nat} {σ σ1 σ2 : pm_H} (h : XR m ro σ σ1) (g : XR m ro σ1 σ2) : XR m ro σ σ2 := frX.tr h g
theorem XR.mS {m ro : Nat} {σ σ' : pm_H} (h : XR m ro σ σ') (hm : mS σ m) : mS σ' m := frX.mS h hm (fun f hf => hf.elim)
theorem XR_sA {m ro k : Nat} {v : Value} {σ : pm_H} (h1 : 10 ≤ ro) (h2 : ro ≤ 34) : XR m ro σ (pm_sA σ (m + ro) k v) := frX_sA h1 h2
theorem XR.P {m ro : Nat} {σ σ' : pm_H} (h : XR m ro σ σ') (hr : 21 ≤ ro ∧ ro ≤ 28) : XP m σ σ' := frX.mono h (fun _ q => q.elim) (fun i q => by rw [q]; exact hr) (fun _ q => q)
theorem XP_sF {m : Nat} {v : Value} {σ : pm_H} : XP m σ (pm_sF σ 1234 m v) := frX_sF.mono (fun _ h => h) (fun _ h => h.elim) (fun _ h => h)
theorem XP_sA {m ro k : Nat} {v : Value} {σ : pm_H} (h : 21 ≤ ro ∧ ro ≤ 28) : XP m σ (pm_sA σ (m + ro) k v) := (XR_sA (by omega) (by omega)).P h
def botT (σ : pm_H) (m : Nat) (A B : Tr) : Prop := ∀ i j r t, A.2[i]? = some r → B.2[j]? = some t → iv (pm_A σ (m + 21) (40 * i + j)) = bI (both r t)
def mhT (σ : pm_H) (m : Nat) (H : Nat → Bool) : Prop := ∀ p, p < 144 → iv (pm_A σ (m + 22) p) = bI (H p)
theorem oi_12l (k q : Nat) : (12 : Int32) * Int32.ofInt (k : Int) + Int32.ofInt (q : Int) = Int32.ofInt ((12 * k + q : Nat) : Int) := by
  rw [show (12 : Int32) * Int32.ofInt (k : Int) = Int32.ofInt (12 * (k : Int)) from oi_lmul _ 12, oi_add]; congr 1
theorem i144_le {n : Nat} (hn : n < 100000) : ((144 : Int32) ≤ Int32.ofInt (n : Int)) ↔ 144 ≤ n := z_144le hn
def XE (m : Nat) (σ σ' : pm_H) : Prop := frX m (fun _ => False) (fun i => i = 22 ∨ i = 23) (fun _ => False) σ σ'
theorem XE.tr {m : Nat} {σ σ1 σ2 : pm_H} (h : XE m σ σ1) (g : XE m σ1 σ2) : XE m σ σ2 := frX.tr h g
theorem XE.mS {m : Nat} {σ σ' : pm_H} (h : XE m σ σ') (hm : mS σ m) : mS σ' m := frX.mS h hm (fun f hf => hf.elim)
theorem XE_sA {m ro k : Nat} {v : Value} {σ : pm_H} (h : ro = 22 ∨ ro = 23) : XE m σ (pm_sA σ (m + ro) k v) := frX.mono (XR_sA (ro := ro) (by omega) (by omega)) (fun _ q => q) (fun i q => by omega) (fun _ q => q)
theorem XE.P {m : Nat} {σ σ' : pm_H} (h : XE m σ σ') : XP m σ σ' := frX.mono h (fun _ q => q.elim) (fun i q => by omega) (fun _ q => q)
theorem botT_X {m : Nat} {Fs As Sl : Nat → Prop} {σ σ' : pm_H} {A B : Tr} (h : botT σ m A B) (f : frX m Fs As Sl σ σ') (ha : ¬ As 21) : botT σ' m A B := fun i j r t hr ht => by rw [frX.A f (by omega) ha]; exact h i j r t hr ht
theorem s_M_ends {σ : pm_H} {m sa sb : Nat} {A B : Tr} (hm : mS σ m) (ha : mTr σ m sa A) (hb : mTr σ m sb B) (kA : okTr A) (kB : okTr B) (h1 : sa < 4) (h2 : sb < 4) (hbo : botT σ m A B) : cV 0 224 [.ref m, .int (Int32.ofInt (sa : Int)), .int (Int32.ofInt (sb : Int))] σ (fun σ' => ∃ H, isHop A B H ∧ mhT σ' m H ∧ (∀ x, x < 144 → iv (pm_A σ' (m + 23) x) = 0) ∧ XE m σ σ') := by
  have va := vi (show sa < 13 by omega) (by omega)
  have wa := vc (show sa < 2000000 by omega)
  have vb := vi (show sb < 13 by omega) (by omega)
  have wb := vc (show sb < 2000000 by omega)
  have la := ha.2.2.1
  have lb := hb.2.2.1
  -- the rounds
  have rounds : ∀ (n : Nat) (H : Nat → Bool) (τ : pm_H), 144 ≤ cnt H 144 + n → (∀ p, p < 144 → finP A B p = true → H p = true) → (∀ p, p < 144 → H p = true → Hop A B p) → mhT τ m H → (∀ x, x < 144 → iv (pm_A τ (m + 23) x) = 0) → XE m σ τ → pm_R 0 224 45 [.ref m, .int (Int32.ofInt (sa : Int)), .int (Int32.ofInt (sb : Int)), .int ((1 : Int32)), pm_U, pm_U, pm_U, pm_U] [] τ (fun o σ' => o = .inl none ∧ ∃ H, isHop A B H ∧ mhT σ' m H ∧ (∀ x, x < 144 → iv (pm_A σ' (m + 23) x) = 0) ∧ XE m σ σ') := by
    intro n
    induction n with
    | zero =>
      intro H τ hc g1 g2 hT hK f
      -- all are marked: one round more changes nothing; the same as below
      have all := cnt_all (p := H) 144 (by omega)
      refine w_M_ends_45 ⟨fun q => absurd q (by decide), fun _ => ?_⟩
      have mt := f.mS hm
      have at_ := frX.T f ha kA id
      have bt_ := frX.T f hb kB id
      refine lp0 (fun i => [.ref m, .int (Int32.ofInt (sa : Int)), .int (Int32.ofInt (sb : Int)), .int ((0 : Int32)), .int (Int32.ofInt (i : Nat)), pm_U, pm_U, pm_U]) A.2.length (fun i hi next => ?_) ?_ 0 (Nat.zero_le _)
      · refine w_M_ends_51 (rdR mt.1 mt.f2 (gA mt.t2 mt.l2 va wa at_.2.1 ⟨fun q => ?_, fun _ => ?_⟩))
        · rw [oi_le (by omega)] at q; omega
        have hr := List.getElem?_eq_getElem hi
        generalize A.2[i] = r at hr
        have ru := at_.2.2.2 i r hr
        have o1 := kA.at hr
        refine lp0 (fun j => [.ref m, .int (Int32.ofInt (sa : Int)), .int (Int32.ofInt (sb : Int)), .int ((0 : Int32)), .int (Int32.ofInt (i : Nat)), .int (Int32.ofInt (j : Nat)), pm_U, pm_U]) B.2.length (fun j hj next2 => ?_) ?_ 0 (Nat.zero_le _)
        · refine w_M_ends_59 (rdR mt.1 mt.f2 (gA mt.t2 mt.l2 vb wb bt_.2.1 ⟨fun q => ?_, fun _ => ?_⟩))
          · rw [oi_le (by omega)] at q; omega
          have ht := List.getElem?_eq_getElem hj
          generalize B.2[j] = t at ht
          have tu := bt_.2.2.2 j t ht
          have o2 := kB.at ht
          have x1 := o1.1
          have x2 := o1.2.1
          have x3 := o2.1
          have x4 := o2.2.1
          rw [oi_row, oi_row, oi_row, oi_s]
          refine rdR mt.1 mt.f3 (gA mt.t3 mt.l3 (vi (show 40 * sa + i < 520 by omega) (by omega)) (vc (by omega)) ru.1 (rdR mt.1 mt.f3 (gA mt.t3 mt.l3 (vi (show 40 * sb + j < 520 by omega) (by omega)) (vc (by omega)) tu.1 (rdR mt.1 mt.f4 (gA mt.t4 mt.l4 (vi (show 40 * sa + i < 520 by omega) (by omega)) (vc (by omega)) ru.2.1 (rdR mt.1 mt.f4 (gA mt.t4 mt.l4 (vi (show 40 * sb + j < 520 by omega) (by omega)) (vc (by omega)) tu.2.1 (rdR mt.1 mt.f21 (gA mt.t21 mt.l21 (vi (show 40 * i + j < 1600 by omega) (by omega)) (vc (by omega)) (botT_X hbo f (by omega) i j r t hr ht) ?_)))))))))
          refine ⟨fun _ => next2, fun _ => ?_⟩
          rw [oi_12l, oi_12l]
          refine rdR mt.1 mt.f22 (gA mt.t22 mt.l22 (vi (show 12 * rF r + rF t < 144 by omega) (by omega)) (vc (by omega)) (hT _ (by omega)) ⟨fun q => ?_, fun _ => next2⟩)
          rw [bI_0, all _ (by omega)] at q
          cases q
        · refine w_M_ends_59 (rdR mt.1 mt.f2 (gA mt.t2 mt.l2 vb wb bt_.2.1 ⟨fun _ => ?_, fun q => absurd (Int32.le_refl _) q⟩))
          rw [oi_s]; exact next
      · refine w_M_ends_51 (rdR mt.1 mt.f2 (gA mt.t2 mt.l2 va wa at_.2.1 ⟨fun _ => w_M_ends_45 ⟨fun _ => ⟨rfl, H, ?_, hT, hK, f⟩, fun q => absurd rfl q⟩, fun q => absurd (Int32.le_refl _) q⟩))
        exact fun p hp => ⟨g2 p hp, fun _ => all p hp⟩
    | succ n ih =>
      intro H τ hc g1 g2 hT hK f
      refine w_M_ends_45 ⟨fun q => absurd q (by decide), fun _ => ?_⟩
      refine lp_up (fun i (s : (Nat → Bool) × Bool) => [.ref m, .int (Int32.ofInt (sa : Int)), .int (Int32.ofInt (sb : Int)), .int (bI s.2), .int (Int32.ofInt (i : Nat)), pm_U, pm_U, pm_U]) (fun i s τ => s = (A.2.take i).foldl (hopR B) (H, false) ∧ mhT τ m s.1 ∧ (∀ x, x < 144 → iv (pm_A τ (m + 23) x) = 0) ∧ XE m σ τ) A.2.length (fun i hi s τ hh next => ?_) (fun s τ hh => ?_) 0 (Nat.zero_le _) (H, false) τ ⟨rfl, hT, hK, f⟩
      · obtain ⟨es, hT, hK, f⟩ := hh
        have mt := f.mS hm
        have at_ := frX.T f ha kA id
        refine w_M_ends_51 (rdR mt.1 mt.f2 (gA mt.t2 mt.l2 va wa at_.2.1 ⟨fun q => ?_, fun _ => ?_⟩))
        · rw [oi_le (by omega)] at q; omega
        have hr := List.getElem?_eq_getElem hi
        generalize A.2[i] = r at hr
        have o1 := kA.at hr
        have e1 := fold_s (hopR B) (H, false) hr
        rw [← es] at e1
        refine lp_up (fun j (s' : (Nat → Bool) × Bool) => [.ref m, .int (Int32.ofInt (sa : Int)), .int (Int32.ofInt (sb : Int)), .int (bI (s'.2 || s.2)), .int (Int32.ofInt (i : Nat)), .int (Int32.ofInt (j : Nat)), pm_U, pm_U]) (fun j s' τ => s' = (B.2.take j).foldl (hopS r) (s.1, false) ∧ mhT τ m s'.1 ∧ (∀ x, x < 144 → iv (pm_A τ (m + 23) x) = 0) ∧ XE m σ τ) B.2.length (fun j hj s' τ hh next2 => ?_) (fun s' τ hh => ?_) 0 (Nat.zero_le _) (s.1, false) τ ⟨rfl, hT, hK, f⟩
        · obtain ⟨es2, hT, hK, f⟩ := hh
          have mt := f.mS hm
          have at_ := frX.T f ha kA id
          have bt_ := frX.T f hb kB id
          have ru := at_.2.2.2 i r hr
          refine w_M_ends_59 (rdR mt.1 mt.f2 (gA mt.t2 mt.l2 vb wb bt_.2.1 ⟨fun q => ?_, fun _ => ?_⟩))
          · rw [oi_le (by omega)] at q; omega
          have ht := List.getElem?_eq_getElem hj
          generalize B.2[j] = t at ht
          have tu := bt_.2.2.2 j t ht
          have o2 := kB.at ht
          have x1 := o1.1
          have x2 := o1.2.1
          have x3 := o2.1
          have x4 := o2.2.1
          have e2 := fold_s (hopS r) (s.1, false) ht
          rw [← es2] at e2
          have same : ¬ (s'.1 (12 * rF r + rF t) = false ∧ s'.1 (12 * rT r + rT t) = true ∧ both r t = true) → pm_R 0 224 59 [.ref m, .int (Int32.ofInt (sa : Int)), .int (Int32.ofInt (sb : Int)), .int (bI (s'.2 || s.2)), .int (Int32.ofInt (i : Nat)), .int (Int32.ofInt ((j + 1 : Nat) : Int)), pm_U, pm_U] [] τ _ := fun no => next2 s' τ ⟨by rw [e2]; exact (if_neg no).symm, hT, hK, f⟩
          rw [oi_row, oi_row, oi_row, oi_s]
          refine rdR mt.1 mt.f3 (gA mt.t3 mt.l3 (vi (show 40 * sa + i < 520 by omega) (by omega)) (vc (by omega)) ru.1 (rdR mt.1 mt.f3 (gA mt.t3 mt.l3 (vi (show 40 * sb + j < 520 by omega) (by omega)) (vc (by omega)) tu.1 (rdR mt.1 mt.f4 (gA mt.t4 mt.l4 (vi (show 40 * sa + i < 520 by omega) (by omega)) (vc (by omega)) ru.2.1 (rdR mt.1 mt.f4 (gA mt.t4 mt.l4 (vi (show 40 * sb + j < 520 by omega) (by omega)) (vc (by omega)) tu.2.1 (rdR mt.1 mt.f21 (gA mt.t21 mt.l21 (vi (show 40 * i + j < 1600 by omega) (by omega)) (vc (by omega)) (botT_X hbo f (by omega) i j r t hr ht) ?_)))))))))
          rw [bI_0, oi_12l, oi_12l]
          refine ⟨fun c => same (fun q => by rw [c] at q; cases q.2.2), fun c => ?_⟩
          rw [Bool.not_eq_false] at c
          refine rdR mt.1 mt.f22 (gA mt.t22 mt.l22 (vi (show 12 * rF r + rF t < 144 by omega) (by omega)) (vc (by omega)) (hT _ (by omega)) ?_)
          rw [bI_0]
          refine ⟨fun c1 => ?_, fun c1 => same (fun q => c1 q.1)⟩
          refine rdR mt.1 mt.f22 (gA mt.t22 mt.l22 (vi (show 12 * rT r + rT t < 144 by omega) (by omega)) (vc (by omega)) (hT _ (by omega)) ?_)
          rw [bI_0]
          refine ⟨fun c2 => same (fun q => by rw [c2] at q; cases q.2.1), fun c2 => ?_⟩
          rw [Bool.not_eq_false] at c2
          refine rdR mt.1 mt.f22 (wA mt.t22 mt.l22 (vi (show 12 * rF r + rF t < 144 by omega) (by omega)) (vc (by omega)) (fun σ2 ez => ?_))
          refine next2 (fun p => if p = 12 * rF r + rF t then true else s'.1 p, true) σ2 ⟨by rw [e2]; exact (if_pos ⟨c1, c2, c⟩).symm, fun p hp => ?_, fun x hx => ?_, f.tr (by rw [ez]; exact XE_sA (Or.inl rfl))⟩
          · rw [ez, A_sA]
            by_cases c : p = 12 * rF r + rF t
            · rw [if_pos ⟨rfl, c⟩]
              show _ = bI (if p = 12 * rF r + rF t then true else s'.1 p)
              rw [if_pos c, nb_1]; rfl
            · rw [if_neg (fun q => c q.2)]
              show _ = bI (if p = 12 * rF r + rF t then true else s'.1 p)
              rw [if_neg c]; exact hT p hp
          · rw [ez, A_sA, if_neg (by omega)]; exact hK x hx
        · obtain ⟨es2, hT, hK, f⟩ := hh
          have mt := f.mS hm
          have bt_ := frX.T f hb kB id
          rw [List.take_length] at es2
          refine w_M_ends_59 (rdR mt.1 mt.f2 (gA mt.t2 mt.l2 vb wb bt_.2.1 ⟨fun _ => ?_, fun q => absurd (Int32.le_refl _) q⟩))
          rw [oi_s]
          exact next (s'.1, s'.2 || s.2) τ ⟨by rw [e1]; unfold hopR; rw [← es2, Bool.or_comm], hT, hK, f⟩
      · obtain ⟨es, hT, hK, f⟩ := hh
        have mt := f.mS hm
        have at_ := frX.T f ha kA id
        rw [List.take_length] at es
        have er : s = rnd A B H := es
        have g := rnd_I kA kB H
        rw [← er] at g
        refine w_M_ends_51 (rdR mt.1 mt.f2 (gA mt.t2 mt.l2 va wa at_.2.1 ⟨fun _ => ?_, fun q => absurd (Int32.le_refl _) q⟩))
        cases c : s.2 with
        | true =>
          have lt := cnt_ltp g.1 144 (g.2.2 c)
          exact ih s.1 τ (by omega) (fun p hp q => g.1 p (g1 p hp q)) (g.2.1 g2) hT hK f
        | false =>
          rw [er] at c
          have no := rnd_no c
          refine w_M_ends_45 ⟨fun _ => ⟨rfl, H, fun p hp => ⟨g2 p hp, fun q => q H ⟨g1, no.2⟩⟩, ?_, hK, f⟩, fun q => absurd rfl q⟩
          rw [er, no.1] at hT
          exact hT
  refine w_M_ends_0 ?_
  refine lp (fun k => [.ref m, .int (Int32.ofInt (sa : Int)), .int (Int32.ofInt (sb : Int)), .int (Int32.ofInt (k : Nat)), pm_U, pm_U, pm_U, pm_U]) (fun k τ => XE m σ τ ∧ ∀ x, x < k → iv (pm_A τ (m + 22) x) = bI (finP A B x) ∧ iv (pm_A τ (m + 23) x) = 0) 144 (fun k hk τ hh next => ?_) (fun τ hh => ?_) 0 (Nat.zero_le _) σ ⟨frX.rf, fun x h => absurd h (by omega)⟩
  · obtain ⟨f, hd⟩ := hh
    have mt := f.mS hm
    have at_ := frX.T f ha kA id
    have bt_ := frX.T f hb kB id
    have pd := p_div k hk
    have pd2 := pd.2
    rw [pd.1] at pd2
    have k12 : k / 12 < 12 := by omega
    have q12 : k % 12 < 12 := Nat.mod_lt _ (by decide)
    have vk := vi hk (by omega)
    have wk := vc (show k < 2000000 by omega)
    have wr : ∀ b : Bool, b = finP A B k → (∀ σ6, σ6 = pm_sA τ (m + 22) k (.int (vp_nar .boolean (bI b))) → ∀ σ8, σ8 = pm_sA σ6 (m + 23) k (.int (vp_nar .boolean 0)) → pm_R 0 224 2 [.ref m, .int (Int32.ofInt (sa : Int)), .int (Int32.ofInt (sb : Int)), .int (Int32.ofInt ((k + 1 : Nat) : Int)), pm_U, pm_U, pm_U, pm_U] [] σ8 (fun o σ' => o = .inl none ∧ ∃ H, isHop A B H ∧ mhT σ' m H ∧ (∀ x, x < 144 → iv (pm_A σ' (m + 23) x) = 0) ∧ XE m σ σ')) := by
      intro b eb σ6 e6 σ8 e8
      rw [nb_b] at e6
      refine next σ8 ⟨(f.tr (show XE m τ σ6 from by rw [e6]; exact XE_sA (Or.inl rfl))).tr (by rw [e8]; exact XE_sA (Or.inr rfl)), fun x hx => ?_⟩
      rw [e8, A_sA, A_sA, e6, A_sA, A_sA]
      by_cases c : x = k
      · rw [if_neg (by omega), if_pos ⟨rfl, c⟩, if_pos ⟨rfl, c⟩, c, ← eb]
        exact ⟨rfl, by rw [iv_int]; decide⟩
      · rw [if_neg (by omega), if_neg (fun q => c q.2), if_neg (fun q => c q.2), if_neg (by omega)]
        exact hd x (by omega)
    refine w_M_ends_2 ⟨fun q => ?_, fun _ => ?_⟩
    · rw [i144_le (by omega)] at q; omega
    refine rdR mt.1 mt.f22 (rdR mt.1 mt.f1 (gA mt.t1 mt.l1 va wa at_.1 ⟨i12_0, ?_⟩))
    rw [pd.1, st_has1 kA.1 k12, pd2, oi_s]
    refine ⟨fun c1 => rdR mt.1 mt.f1 (gA mt.t1 mt.l1 vb wb bt_.1 ⟨i12_0, ?_⟩), fun c1 => wA mt.t22 mt.l22 vk wk (fun σ4 e4 => ?_)⟩
    · rw [st_has1 kB.1 q12]
      refine ⟨fun c2 => wA mt.t22 mt.l22 vk wk (fun σ6 e6 => ?_), fun c2 => wA mt.t22 mt.l22 vk wk (fun σ6 e6 => ?_)⟩
      · have m6 : mS σ6 m := by rw [e6]; exact mS_sA mt
        exact rdR m6.1 m6.f23 (wA m6.t23 m6.l23 vk wk (fun σ8 e8 => wr true (by unfold finP; rw [c1, c2]; rfl) σ6 e6 σ8 e8))
      · have m6 : mS σ6 m := by rw [e6]; exact mS_sA mt
        rw [Bool.not_eq_true] at c2
        exact rdR m6.1 m6.f23 (wA m6.t23 m6.l23 vk wk (fun σ8 e8 => wr false (by unfold finP; rw [c1, c2]; rfl) σ6 e6 σ8 e8))
    · have m6 : mS σ4 m := by rw [e4]; exact mS_sA mt
      rw [Bool.not_eq_true] at c1
      exact rdR m6.1 m6.f23 (wA m6.t23 m6.l23 vk wk (fun σ8 e8 => wr false (by unfold finP; rw [c1]; rfl) σ4 e4 σ8 e8))
  · obtain ⟨f, hd⟩ := hh
    refine w_M_ends_2 ⟨fun _ => ?_, fun q => absurd (Int32.le_refl _) q⟩
    exact rounds 144 (finP A B) τ (by omega) (fun _ _ h => h) (fun x hx h H' hc => hc.1 x hx h) (fun x hx => (hd x hx).1) (fun x hx => (hd x hx).2) f
