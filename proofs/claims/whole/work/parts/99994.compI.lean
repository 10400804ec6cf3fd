/-! ===== compose: the model's pairs ===== -/
theorem finA_pre {F G n : Nat} {ps ps' : List Nat} (h : pre ps ps') (hn : n ≤ ps.length) : finA F G ps' n = finA F G ps n := by
  induction n with
  | zero => rfl
  | succ n ih =>
    have e := List.getElem?_eq_getElem (show n < ps.length by omega)
    show (match ps'[n]? with
    | none => finA F G ps' n
    | some p => if F.testBit (p / 12) && G.testBit (p % 12) then finA F G ps' n ||| 2 ^ n else finA F G ps' n) = (match ps[n]? with
    | none => finA F G ps n
    | some p => if F.testBit (p / 12) && G.testBit (p % 12) then finA F G ps n ||| 2 ^ n else finA F G ps n)
    rw [h.2 n _ e, e, ih (by omega)]
theorem ext_no {bs : List Rl} {r : Rl} {n c q : Nat} {cs : List Nat} {zs : List (Nat × Rl)} {g : Nat → Bool} {st : CS} (h : ¬ hits (fun s => g s && opn bs (en r) (c :: cs) q s) = true) : ext bs r n (c :: cs) zs q g st = some st := by
  rw [ext_c]
  have key : ∀ l : List Rl, (∀ t, t ∈ l → t ∈ bs) → l.foldl (extF bs r n c cs zs q g) (some st) = some st := by
    intro l
    induction l with
    | nil => intro _; rfl
    | cons t l ih =>
      intro hl
      have e : extF bs r n c cs zs q g (some st) t = some st := by
        refine if_neg (fun x => h ?_)
        obtain ⟨s, hs1, hs2⟩ := hits_iff.mp x.2
        rw [Bool.and_eq_true, Bool.and_eq_true] at hs2
        refine hits_iff.mpr ⟨s, hs1, ?_⟩
        have hop : opn bs (en r) (c :: cs) q s = true := by
          refine List.any_eq_true.mpr ⟨t, hl t (List.mem_cons_self ..), ?_⟩
          rw [decide_eq_true x.1, hs2.1.2, hs2.2]; rfl
        rw [hs2.1.1, hop]; rfl
      show l.foldl (extF bs r n c cs zs q g) (extF bs r n c cs zs q g (some st) t) = some st
      rw [e]
      exact ih (fun t' h' => hl t' (List.mem_cons_of_mem _ h'))
  exact key bs (fun _ h => h)
def cmF (m : Nat) (σ σ' : pm_H) : Prop := frX m (fun f => f = 1240 ∨ f = 1241) (fun i => (1 ≤ i ∧ i ≤ 9) ∨ (30 ≤ i ∧ i ≤ 34)) (fun s => s = 4) σ σ'
theorem cmF_mS {m : Nat} {σ σ' : pm_H} (h : cmF m σ σ') (hm : mS σ m) : mS σ' m := frX.mS h hm (fun f hf => by rcases hf with e | e <;> (rw [e]; decide))
theorem s_M_rules {σ : pm_H} {m sa sb tg n p S : Nat} {A B : Tr} {st : CS} {Q : pm_O → pm_H → Prop} (hm : mS σ m) (ha : mTr σ m sa A) (hA : okTr A) (hsa : sa < 4) (hb : mTr σ m sb B) (hB : okTr B) (hsb : sb < 4) (hi : mxI σ m S st) (hS : S < 4096) (hp : st.1[n]? = some p)
    (hQ : ∀ τ, mxS τ m S (rulA A.2 B.2 n p st) → cmF m σ τ → pm_R 12 238 42 [.ref m, .int (Int32.ofInt (sa : Int)), .int (Int32.ofInt (sb : Int)), .int (Int32.ofInt (tg : Int)), pm_U, .int (Int32.ofInt ((n + 1 : Nat) : Int)), pm_U, pm_U, pm_U] [] τ Q) : pm_R 12 238 87 [.ref m, .int (Int32.ofInt (sa : Int)), .int (Int32.ofInt (sb : Int)), .int (Int32.ofInt (tg : Int)), pm_U, .int (Int32.ofInt (n : Int)), .int ((0 : Int32)), pm_U, pm_U] [] σ Q := by
  have hn : n < 12 := by
    have h1 := (List.getElem?_eq_some_iff.mp hp).1
    have h2 := hi.2.1.2.1.1
    omega
  have p144 := hi.2.1.2.1.2 p (List.mem_of_getElem? hp)
  have la := ha.2.2.1
  have vn := vi (show n < 12 by omega) (by omega)
  have wn := vc (show n < 2000000 by omega)
  have vs := vi (show sa < 13 by omega) (by omega)
  have ws := vc (show sa < 2000000 by omega)
  have q12 : p % 12 < 12 := Nat.mod_lt _ (by decide)
  refine lp (fun i => [.ref m, .int (Int32.ofInt (sa : Int)), .int (Int32.ofInt (sb : Int)), .int (Int32.ofInt (tg : Int)), pm_U, .int (Int32.ofInt (n : Int)), .int (Int32.ofInt (i : Nat)), pm_U, pm_U]) (fun i τ => mxS τ m S ((A.2.take i).foldl (rulF A.2 B.2 n p) (some st)) ∧ cmF m σ τ) A.2.length (fun i hi' τ hh next => ?_) (fun τ hh => ?_) 0 (Nat.zero_le _) σ ⟨hi, frX.rf⟩
  · obtain ⟨hs, f⟩ := hh
    have mt := cmF_mS f hm
    have at_ := frX.T f ha hA (by omega)
    have bt := frX.T f hb hB (by omega)
    have q7 : ¬ Int32.ofInt (A.2.length : Int) ≤ Int32.ofInt (i : Nat) := by rw [oi_le (by omega)]; omega
    have hr := List.getElem?_eq_getElem hi'
    generalize A.2[i] = r at hr
    have ok := hA.at hr
    have rk := at_.2.2.2 i r hr
    have es := fold_s (rulF A.2 B.2 n p) (some st) hr
    have ptk := pre_take (as := A.2) (bs := B.2) (n := n) (p := p) (i := i) (st := st)
    have vR := vi (show 40 * sa + i < 520 by omega) (by omega)
    have wR := vc (show 40 * sa + i < 2000000 by omega)
    generalize ho : (A.2.take i).foldl (rulF A.2 B.2 n p) (some st) = o at hs es ptk
    cases o with
    | none =>
      have hst := rul_stop (as := A.2) ho
      have h1 : iv (pm_F τ 1241 m) = 1 := hs
      have i10 : ¬ (1 : Int32) = 0 := by decide
      refine w_M_compose_87 ?_
      simp only [mt.1, mt.f2, mt.t2, mt.l2, isr_ref, rv_ref, vs, ws, at_.2.1, q7, h1, i10, not_false_eq_true, false_implies, true_implies, true_and, forall_eq, oi_s]
      exact hQ τ (by unfold rulA; rw [hst]; exact h1) f
    | some s1 =>
      have hp1 := (ptk s1 rfl).2 n p hp
      have hs0 : iv (pm_F τ 1241 m) = 0 := hs.1
      have atn := hs.2.1.2.2 n p hp1
      have rf := ok.1
      replace es : (A.2.take (i + 1)).foldl (rulF A.2 B.2 n p) (some st) = if rF r = p / 12 ∧ hits (fun s => en r s && opn B.2 (en r) (rTs r) (p % 12) s) = true then ext B.2 r n (rTs r) [] (p % 12) (en r) s1 else some s1 := es
      refine w_M_compose_87 ?_
      simp only [mt.1, mt.f2, mt.t2, mt.l2, mt.f3, mt.t3, mt.l3, mt.f30, mt.t30, mt.l30, isr_ref, rv_ref, vs, ws, at_.2.1, q7, hs0, oi_row, vR, wR, rk.1, vn, wn, atn.1, not_true_eq_false, not_false_eq_true, false_implies, true_implies, and_true, true_and, forall_eq, oi_s]
      rw [oi_eq (by omega)]
      refine ⟨fun eq => ?_, fun ne => next τ ⟨?_, f⟩⟩
      rotate_left
      · rw [es, if_neg (fun h => ne (by rw [h.1]))]; exact hs
      have eq' : rF r = p / 12 := by omega
      refine (s_M_enabledMany mt rk (by omega) ok.2.2.2).use (by omega) ?_
      have ce : Int32.ofInt ((cnt (en r) 100 : Nat) : Int) = 0 ↔ ever r = false := by
        rw [← cnt_pos, z_eq0 (nrg (by have := cnt_le (en r) 100; omega)), n_le0 (by have := cnt_le (en r) 100; omega)]; omega
      rw [ce]
      refine ⟨fun e => next τ ⟨?_, f⟩, fun e => ?_⟩
      · rw [es, if_neg]
        · exact hs
        · intro h
          obtain ⟨s, h1, h2⟩ := hits_iff.mp h.2
          rw [Bool.and_eq_true] at h2
          rw [ever_iff.mpr ⟨s, h1, h2.1⟩] at e
          cases e
      rw [Bool.not_eq_false] at e
      refine lp (fun s => [.ref m, .int (Int32.ofInt (sa : Int)), .int (Int32.ofInt (sb : Int)), .int (Int32.ofInt (tg : Int)), pm_U, .int (Int32.ofInt (n : Int)), .int (Int32.ofInt (i : Nat)), .int (Int32.ofInt ((40 * sa + i : Nat) : Int)), .int (Int32.ofInt (s : Nat))]) (fun s τ2 => frX m (fun _ => False) (fun i => i = 33) (fun _ => False) τ τ2 ∧ ∀ s', s' < s → iv (pm_A τ2 (m + 33) s') = bI (en r s')) 100 (fun s hs' τ2 hh next2 => ?_) (fun τ2 hh => ?_) 0 (Nat.zero_le _) τ ⟨frX.rf, fun s' h => absurd h (Nat.not_lt_zero _)⟩
      · obtain ⟨j1, j2⟩ := hh
        have m2 := frX.mS j1 mt (fun _ q => q.elim)
        have rk2 := (frX.T j1 at_ hA id).2.2.2 i r hr
        have vx := vi (show s < 700 by omega) (by omega)
        have wx := vc (show s < 2000000 by omega)
        refine w_M_compose_118 ⟨fun q => ?_, fun _ => ?_⟩
        · rw [i32_100 (by omega)] at q; omega
        simp only [m2.1, m2.f33, isr_ref, rv_ref, true_and, forall_eq]
        refine (s_M_enables m2 rk2 (by omega) ok.2.2.2 hs').use (by omega) ?_
        simp only [m2.t33, m2.l33, vx, wx, vp_nb, true_and, forall_eq, oi_s]
        refine next2 _ ⟨frX.tr j1 (frX_sA (by omega) (by omega)), fun s' h => ?_⟩
        rw [A_sA]
        by_cases c : s' = s
        · rw [if_pos ⟨rfl, c⟩, c]; rfl
        · rw [if_neg (fun q => c q.2)]; exact j2 s' (by omega)
      · obtain ⟨j1, j2⟩ := hh
        have m2 := frX.mS j1 mt (fun _ q => q.elim)
        have a2 := frX.T j1 at_ hA id
        have b2 := frX.T j1 bt hB id
        have i2 := mxI_X hs hS j1 ⟨id, id⟩ ⟨by omega, by omega⟩ id
        refine w_M_compose_118 ⟨fun _ => ?_, fun q => absurd (Int32.le_refl _) q⟩
        refine ⟨m2.1, (s_M_foresees m2 a2 hA hr hsa b2 hB hsb).use (by omega) (fun τ3 p3 => ?_)⟩
        have m3 := frX.mS p3.2 m2 (fun _ q => q.elim)
        have a3 := frX.T p3.2 a2 hA id
        have b3 := frX.T p3.2 b2 hB id
        have i3 := mxI_X i2 hS p3.2 ⟨id, id⟩ ⟨by omega, by omega⟩ id
        have atn3 := i3.2.1.2.2 n p hp1
        simp only [m3.1, m3.f31, m3.t31, m3.l31, isr_ref, rv_ref, vn, wn, atn3.2, true_and, forall_eq, oi_s]
        have F3 : ∀ s, s < 100 → iv (pm_A τ3 (m + 33) (100 * 0 + s)) = bI (en r s) := fun s hs' => by
          rw [p3.2.A (by omega) (by omega), Nat.mul_zero, Nat.zero_add]; exact j2 s hs'
        have ch := s_M_chooses (n := n) (S := S) hA hr hsa hB hsb hS hn (rTs r) [] (p % 12) (en r) (en r) s1 τ3 m3 a3 b3 i3 p3.1 (fun i c t h => by cases h) F3 (fun _ _ h => h) (fun _ _ h _ => h) (fun _ _ h => h) rfl (fun z hz => by cases hz) q12
        have l6 := ok.2.2.2.1
        refine ch.use (by omega) (fun τ4 p4 => next τ4 ⟨?_, frX.tr f (frX.tr (frX.mono j1 (fun _ q => q.elim) (fun i q => by omega) (fun _ q => q.elim)) (frX.tr (frX.mono p3.2 (fun _ q => q.elim) (fun i q => by omega) (fun _ q => q.elim)) (frX.mono p4.2.1 (fun _ q => q) (fun i q => by omega) (fun _ q => q))))⟩)
        rw [es]
        by_cases hit : hits (fun s => en r s && opn B.2 (en r) (rTs r) (p % 12) s) = true
        · rw [if_pos ⟨eq', hit⟩]; exact p4.1
        · rw [if_neg (fun h => hit h.2)]
          have p41 := p4.1
          cases eT : rTs r with
          | nil =>
            exfalso
            obtain ⟨s, h1, h2⟩ := ever_iff.mp e
            refine hit (hits_iff.mpr ⟨s, h1, ?_⟩)
            rw [eT, h2]; exact h2
          | cons c cs =>
            rw [eT] at hit p41
            rw [ext_no hit] at p41
            exact p41
  · obtain ⟨hs, f⟩ := hh
    have mt := cmF_mS f hm
    have at_ := frX.T f ha hA (by omega)
    rw [List.take_length] at hs
    refine w_M_compose_87 ?_
    simp only [mt.1, mt.f2, mt.t2, mt.l2, isr_ref, rv_ref, vs, ws, at_.2.1, true_and, forall_eq, oi_s]
    exact ⟨fun _ => hQ τ hs f, fun q => absurd (Int32.le_refl _) q⟩
theorem s_M_pairs {m sa sb tg : Nat} {A B : Tr} {σ0 : pm_H} {Q : pm_O → pm_H → Prop} (hm : mS σ0 m) (ha : mTr σ0 m sa A) (hA : okTr A) (hsa : sa < 4) (hb : mTr σ0 m sb B) (hB : okTr B) (hsb : sb < 4)
    (h0 : ∀ τ, cmF m σ0 τ → ∀ st : CS, cmpS A B = some st → mTr τ m 4 (finA A.1 B.1 st.1 st.1.length, st.2) → (st.1.length ≤ 12 ∧ ∀ r, r ∈ st.2 → okR r) → pm_R 12 238 156 [.ref m, pm_U, pm_U, .int (Int32.ofInt (tg : Int)), pm_U, pm_U, pm_U, pm_U, pm_U] [.int ((0 : Int32)), .ref m] τ Q)
    (h2 : ∀ τ, cmF m σ0 τ → cmpS A B = none → pm_R 12 238 156 [.ref m, pm_U, pm_U, .int (Int32.ofInt (tg : Int)), pm_U, pm_U, pm_U, pm_U, pm_U] [.int ((2 : Int32)), .ref m] τ Q) : ∀ (k n : Nat) (st : CS) (σ : pm_H), n + k = 12 → n ≤ st.1.length → bld A.2 B.2 k n st = cmpS A B → mxI σ m (finA A.1 B.1 st.1 n) st → cmF m σ0 σ → pm_R 12 238 42 [.ref m, .int (Int32.ofInt (sa : Int)), .int (Int32.ofInt (sb : Int)), .int (Int32.ofInt (tg : Int)), pm_U, .int (Int32.ofInt (n : Int)), pm_U, pm_U, pm_U] [] σ Q := by
  have over : ∀ (τ : pm_H) (x : Int32), cmF m σ0 τ → iv (pm_F τ 1241 m) = 1 → cmpS A B = none → pm_R 12 238 42 [.ref m, .int (Int32.ofInt (sa : Int)), .int (Int32.ofInt (sb : Int)), .int (Int32.ofInt (tg : Int)), pm_U, .int x, pm_U, pm_U, pm_U] [] τ Q := by
    intro τ x f h1 hn
    have mt := cmF_mS f hm
    have i10 : ¬ (1 : Int32) = 0 := by decide
    refine w_M_compose_42 ?_
    simp only [mt.1, h1, i10, not_false_eq_true, false_implies, true_implies, true_and, forall_eq]
    exact ⟨fun _ => h2 τ f hn, fun _ => h2 τ f hn⟩
  have stop : ∀ (n : Nat) (st : CS) (σ : pm_H), n ≤ 12 → st.1.length = n → cmpS A B = some st → mxI σ m (finA A.1 B.1 st.1 n) st → cmF m σ0 σ → pm_R 12 238 42 [.ref m, .int (Int32.ofInt (sa : Int)), .int (Int32.ofInt (sb : Int)), .int (Int32.ofInt (tg : Int)), pm_U, .int (Int32.ofInt (n : Int)), pm_U, pm_U, pm_U] [] σ Q := by
    intro n st σ hn hl hc hi f
    have mt := cmF_mS f hm
    refine w_M_compose_42 ?_
    simp only [mt.1, hi.1, hi.2.1.1, hl, not_true_eq_false, false_implies, true_implies, and_true, true_and, forall_eq]
    exact ⟨fun _ => h0 σ f st hc (by rw [hl]; exact hi.2.2.1) ⟨by omega, hi.2.2.2⟩, fun q => absurd (Int32.le_refl _) q⟩
  intro k
  induction k with
  | zero =>
    intro n st σ hn hle ho hi f
    have hl := hi.2.1.2.1.1
    exact stop n st σ (by omega) (by omega) ho.symm hi f
  | succ k ih =>
    intro n st σ hn hle ho hi f
    have hl := hi.2.1.2.1.1
    have ho2 : (match st.1[n]? with
    | none => some st
    | some p => match rulA A.2 B.2 n p st with
      | none => none
      | some st' => bld A.2 B.2 k (n + 1) st') = cmpS A B := ho
    by_cases hlt : n < st.1.length
    · have hp := List.getElem?_eq_getElem hlt
      generalize st.1[n] = p at hp
      rw [hp] at ho2
      dsimp only at ho2
      have p144 := hi.2.1.2.1.2 p (List.mem_of_getElem? hp)
      have q12 : p % 12 < 12 := Nat.mod_lt _ (by decide)
      have mt := cmF_mS f hm
      have at_ := frX.T f ha hA (by omega)
      have bt := frX.T f hb hB (by omega)
      have q7 : ¬ Int32.ofInt (st.1.length : Int) ≤ Int32.ofInt (n : Nat) := by rw [oi_le (by omega)]; omega
      have vn := vi (show n < 12 by omega) (by omega)
      have wn := vc (show n < 2000000 by omega)
      have va := vi (show sa < 13 by omega) (by omega)
      have wa := vc (show sa < 2000000 by omega)
      have vb := vi (show sb < 13 by omega) (by omega)
      have wb := vc (show sb < 2000000 by omega)
      have v4 : vp_in (4 : Int32) 13 := by rw [vp_in_iff]; decide
      have c4 : (4 : Int32).toNatClampNeg = 4 := by decide
      have atn := hi.2.1.2.2 n p hp
      have fl : finA A.1 B.1 st.1 n < 4096 := Nat.lt_of_lt_of_le (finA_lt A.1 B.1 st.1 n) (Nat.pow_le_pow_right (by decide) (show n ≤ 12 by omega))
      have fl1 : finA A.1 B.1 st.1 (n + 1) < 4096 := Nat.lt_of_lt_of_le (finA_lt A.1 B.1 st.1 (n + 1)) (Nat.pow_le_pow_right (by decide) (show n + 1 ≤ 12 by omega))
      have fs1 : finA A.1 B.1 st.1 (n + 1) = if A.1.testBit (p / 12) && B.1.testBit (p % 12) then finA A.1 B.1 st.1 n ||| 2 ^ n else finA A.1 B.1 st.1 n := by
        show (match st.1[n]? with
    | none => finA A.1 B.1 st.1 n
    | some p => if A.1.testBit (p / 12) && B.1.testBit (p % 12) then finA A.1 B.1 st.1 n ||| 2 ^ n else finA A.1 B.1 st.1 n) = _
        rw [hp]
      -- the rules from the pair
      have go : ∀ τ, mxI τ m (finA A.1 B.1 st.1 (n + 1)) st → cmF m σ0 τ → pm_R 12 238 87 [.ref m, .int (Int32.ofInt (sa : Int)), .int (Int32.ofInt (sb : Int)), .int (Int32.ofInt (tg : Int)), pm_U, .int (Int32.ofInt (n : Int)), .int ((0 : Int32)), pm_U, pm_U] [] τ Q := by
        intro τ hi1 f1
        refine s_M_rules (cmF_mS f1 hm) (frX.T f1 ha hA (by omega)) hA hsa (frX.T f1 hb hB (by omega)) hB hsb hi1 fl1 hp (fun τ2 hs f2 => ?_)
        have f12 := frX.tr f1 f2
        cases er : rulA A.2 B.2 n p st with
        | none =>
          rw [er] at hs ho2
          exact over τ2 _ f12 hs ho2.symm
        | some st' =>
          rw [er] at hs ho2
          have hpre := pre_rul (as := A.2) (bs := B.2) (n := n) (p := p) (st := st) st' er
          refine ih (n + 1) st' τ2 (by omega) (by have := hpre.1; omega) ho2 ?_ f12
          rw [finA_pre hpre (by omega)]; exact hs
      have same : (A.1.testBit (p / 12) && B.1.testBit (p % 12)) = false → pm_R 12 238 87 [.ref m, .int (Int32.ofInt (sa : Int)), .int (Int32.ofInt (sb : Int)), .int (Int32.ofInt (tg : Int)), pm_U, .int (Int32.ofInt (n : Int)), .int ((0 : Int32)), pm_U, pm_U] [] σ Q := fun e => go σ (by rw [fs1, e]; exact hi) f
      refine w_M_compose_42 ?_
      simp only [mt.1, hi.1, hi.2.1.1, q7, mt.f1, mt.t1, mt.l1, mt.f30, mt.t30, mt.l30, mt.f31, mt.t31, mt.l31, isr_ref, rv_ref, vn, wn, va, wa, vb, wb, v4, c4, at_.1, bt.1, atn.1, atn.2, hi.2.2.1.1, not_true_eq_false, not_false_eq_true, false_implies, true_implies, and_true, true_and, forall_eq]
      rw [st_has1 hA.1 (show p / 12 < 12 by omega), st_has1 hB.1 q12, st_one (show n < 12 by omega), i_orN]
      refine ⟨fun x => ⟨fun y => ?_, fun y => same ?_⟩, fun x => same ?_⟩
      · have f3 : frM m (fun s => s = 4) σ (pm_sA σ (m + 1) 4 (.int (Int32.ofInt ((finA A.1 B.1 st.1 n ||| 2 ^ n : Nat) : Int)))) := ⟨fr_sA ⟨by omega, by omega⟩, fun s' hs' => mEq_sA (Or.inr (Or.inl ⟨by omega, fun q => hs' q.symm⟩))⟩
        refine go _ ⟨hi.1, mpP_X hi.2.1 f3.X id ⟨by omega, by omega⟩, ?_, hi.2.2.2⟩ ?_
        · refine ⟨?_, ?_, hi.2.2.1.2.2.1, fun k r hr => mRu_eq (hi.2.2.1.2.2.2 k r hr) (hi.2.2.2 r (List.mem_of_getElem? hr)).2.2.2.1 (mEqR_sA (Or.inl (Or.inl (by omega))))⟩
          · rw [A_sA, if_pos ⟨rfl, rfl⟩, fs1, x, y]; rfl
          · rw [A_sA, if_neg (by omega)]; exact hi.2.2.1.2.1
        · exact frX.tr f (frX.mono f3.X (fun _ q => q.elim) (fun i q => Or.inl q) (fun _ q => q))
      · rw [x, Bool.not_eq_true _ |>.mp y]; rfl
      · rw [Bool.not_eq_true _ |>.mp x]; rfl
    · have hl2 : st.1.length = n := by omega
      rw [List.getElem?_eq_none (by omega)] at ho2
      exact stop n st σ (by omega) hl2 ho2.symm hi f
