/-! ===== the model: symbols that are put out, determinism ===== -/
def frT (m : Nat) (As Sl : Nat → Prop) (σ σ' : pm_H) : Prop := frX m (fun f => f = 1200) As Sl σ σ'
theorem frT.mS {m : Nat} {As Sl : Nat → Prop} {σ σ' : pm_H} (h : frT m As Sl σ σ') (hm : mS σ m) : mS σ' m := frX.mS h hm (fun f hf => by rw [hf]; decide)
theorem thr0 {σ : pm_H} {m : Nat} {A B : pm_H → Prop} (hm : mS σ m) (h : ∀ σ1, mS σ1 m → frT m (fun _ => False) (fun _ => False) σ σ1 → iv (pm_F σ1 1200 m) = 0 → A σ1) : pm_t σ m = 13 ∧ ∀ σ1, σ1 = pm_sF σ 1200 m (.int ((0 : Int32))) → pm_t σ1 m = 13 ∧ ∀ z2, z2 = iv (pm_F σ1 1200 m) → ((z2 = 0 → A σ1) ∧ (¬ z2 = 0 → B σ1)) := by
  refine ⟨hm.1, fun σ1 e1 => ?_⟩
  have f1 : frT m (fun _ => False) (fun _ => False) σ σ1 := by rw [e1]; exact frX_sF
  have z0 : iv (pm_F σ1 1200 m) = 0 := by rw [e1, F_sF, if_pos ⟨rfl, rfl⟩]; rfl
  refine ⟨(f1.mS hm).1, fun z e => ?_⟩
  rw [z0] at e; subst e
  exact ⟨fun _ => h σ1 (f1.mS hm) f1 z0, fun q => absurd rfl q⟩
theorem thrK {σ : pm_H} {m : Nat} {k : Int32} {A B : pm_H → Prop} (hm : mS σ m) (hk : k ≠ 0) (h : ∀ σ1, mS σ1 m → frT m (fun _ => False) (fun _ => False) σ σ1 → iv (pm_F σ1 1200 m) = k → B σ1) : pm_t σ m = 13 ∧ ∀ σ1, σ1 = pm_sF σ 1200 m (.int k) → pm_t σ1 m = 13 ∧ ∀ z2, z2 = iv (pm_F σ1 1200 m) → ((z2 = 0 → A σ1) ∧ (¬ z2 = 0 → B σ1)) := by
  refine ⟨hm.1, fun σ1 e1 => ?_⟩
  have f1 : frT m (fun _ => False) (fun _ => False) σ σ1 := by rw [e1]; exact frX_sF
  have z0 : iv (pm_F σ1 1200 m) = k := by rw [e1, F_sF, if_pos ⟨rfl, rfl⟩]; rfl
  refine ⟨(f1.mS hm).1, fun z e => ?_⟩
  rw [z0] at e; subst e
  exact ⟨fun q => absurd q hk, fun _ => h σ1 (f1.mS hm) f1 z0⟩
theorem thr0e {σ : pm_H} {m : Nat} {A B : Prop} (hm : mS σ m) (h : mS (pm_sF σ 1200 m (.int ((0 : Int32)))) m → frT m (fun _ => False) (fun _ => False) σ (pm_sF σ 1200 m (.int ((0 : Int32)))) → iv (pm_F (pm_sF σ 1200 m (.int ((0 : Int32)))) 1200 m) = 0 → A) : pm_t σ m = 13 ∧ pm_t (pm_sF σ 1200 m (.int ((0 : Int32)))) m = 13 ∧ ((iv (pm_F (pm_sF σ 1200 m (.int ((0 : Int32)))) 1200 m) = 0 → A) ∧ (¬ iv (pm_F (pm_sF σ 1200 m (.int ((0 : Int32)))) 1200 m) = 0 → B)) := by
  have f1 : frT m (fun _ => False) (fun _ => False) σ (pm_sF σ 1200 m (.int ((0 : Int32)))) := frX_sF
  have z0 : iv (pm_F (pm_sF σ 1200 m (.int ((0 : Int32)))) 1200 m) = 0 := by rw [F_sF, if_pos ⟨rfl, rfl⟩]; rfl
  exact ⟨hm.1, (f1.mS hm).1, fun _ => h (f1.mS hm) f1 z0, fun q => absurd z0 q⟩
theorem thrKe {σ : pm_H} {m : Nat} {k : Int32} {A B : Prop} (hm : mS σ m) (hk : k ≠ 0) (h : mS (pm_sF σ 1200 m (.int k)) m → frT m (fun _ => False) (fun _ => False) σ (pm_sF σ 1200 m (.int k)) → iv (pm_F (pm_sF σ 1200 m (.int k)) 1200 m) = k → B) : pm_t σ m = 13 ∧ pm_t (pm_sF σ 1200 m (.int k)) m = 13 ∧ ((iv (pm_F (pm_sF σ 1200 m (.int k)) 1200 m) = 0 → A) ∧ (¬ iv (pm_F (pm_sF σ 1200 m (.int k)) 1200 m) = 0 → B)) := by
  have f1 : frT m (fun _ => False) (fun _ => False) σ (pm_sF σ 1200 m (.int k)) := frX_sF
  have z0 : iv (pm_F (pm_sF σ 1200 m (.int k)) 1200 m) = k := by rw [F_sF, if_pos ⟨rfl, rfl⟩]; rfl
  exact ⟨hm.1, (f1.mS hm).1, fun q => absurd (z0.symm.trans q) hk, fun _ => h (f1.mS hm) f1 z0⟩
def X14 (m : Nat) (σ σ' : pm_H) : Prop := frT m (fun i => i = 14) (fun _ => False) σ σ'
theorem X14.mS {m : Nat} {σ σ' : pm_H} (h : X14 m σ σ') (hm : mS σ m) : mS σ' m := frT.mS h hm
theorem X14_sA {m k : Nat} {v : Value} {σ : pm_H} : X14 m σ (pm_sA σ (m + 14) k v) := (frX_sA (by omega) (by omega)).mono (fun _ h => h.elim) (fun _ h => h) (fun _ h => h)
theorem X14.tr {m : Nat} {σ σ1 σ2 : pm_H} (h : X14 m σ σ1) (g : X14 m σ1 σ2) : X14 m σ σ2 := frX.tr h g
def mC (τ : pm_H) (m : Nat) (p : Nat → Bool) : Prop := ∀ s, s < 100 → jv (pm_A τ (m + 14) s) = if p s then 1 else 0
theorem mC_ext {τ : pm_H} {m : Nat} {p p' : Nat → Bool} (h : mC τ m p) (e : ∀ s, s < 100 → p' s = p s) : mC τ m p' := fun s hs => by rw [e s hs]; exact h s hs
theorem mC_sA {τ : pm_H} {m v : Nat} {p p' : Nat → Bool} (h : mC τ m p) (e : ∀ s, s < 100 → p' s = (p s || decide (s = v))) : mC (pm_sA τ (m + 14) v (.long ((1 : Int64)))) m p' := fun s hs => by
  rw [e s hs, A_sA]
  by_cases c : s = v
  · rw [if_pos ⟨rfl, c⟩, decide_eq_true c, Bool.or_true]; rfl
  · rw [if_neg (fun q => c q.2), decide_eq_false c, Bool.or_false]; exact h s hs
theorem l1_32 : (1 : Int64).toInt32 = 1 := by decide
theorem l0_32 : (0 : Int64).toInt32 = 0 := by decide
theorem s_M_osym_91 {σ : pm_H} {m : Nat} {p : Nat → Bool} {Q : pm_O → pm_H → Prop} {d : Nat} (hm : mS σ m) (hp : mC σ m p) (hQ : Q (.inl (some (.int (Int32.ofInt ((cnt p 100 : Nat) : Int))))) σ) : pm_R (d + 1) 221 91 [.ref m, pm_U, pm_U, pm_U, .int ((0 : Int32)), .int ((0 : Int32)), pm_U, pm_U] [] σ Q := by
  refine lp0 (fun i => [.ref m, pm_U, pm_U, pm_U, .int (Int32.ofInt ((cnt p i : Nat) : Int)), .int (Int32.ofInt (i : Nat)), pm_U, pm_U]) 100 (fun i hi next => ?_) ?_ 0 (Nat.zero_le _)
  · refine w_M_outputSymbols_91 ⟨fun q => ?_, fun q => ?_⟩
    · rw [i32_100 (by omega)] at q; omega
    · have v := vi (show i < 4096 by omega) (by omega)
      have c := vc (show i < 2000000 by omega)
      simp only [hm.1, hm.f14, hm.t14, hm.l14, isr_ref, rv_ref, v, c, hp i hi, true_and, forall_eq, oi_s]
      cases e : p i with
      | true => rw [if_pos rfl, l1_32, cnt_nx1 e]; exact next
      | false => rw [if_neg (by decide), l0_32, cnt_nx e]; exact next
  · exact w_M_outputSymbols_91 ⟨fun _ => hQ, fun q => absurd (Int32.le_refl _) q⟩
theorem any_range_s {p : Nat → Bool} {n : Nat} : (List.range (n + 1)).any p = ((List.range n).any p || p n) := by
  rw [List.range_succ, List.any_append]; simp
theorem s_M_outputSymbols {σ : pm_H} {m sl : Nat} {T : Tr} (hm : mS σ m) (h : mTr σ m sl T) (hT : okTr T) (hsl : sl < 4) : cIP 5 221 [.ref m, .int (Int32.ofInt (sl : Int))] σ (Int32.ofInt ((cnt (outS T) 100 : Nat) : Int)) (fun σ' => X14 m σ σ' ∧ iv (pm_F σ' 1200 m) = 0) := by
  have hl40 := h.2.2.1
  have hR := itR_lt hT.2 11
  have hE := itW_lt hT.2 hT.1 11
  have vs := vi (show sl < 13 by omega) (by omega)
  have ws := vc (show sl < 2000000 by omega)
  refine w_M_outputSymbols_0 ((s_M_isSlot ⟨by omega, by omega⟩).use (by omega) ⟨fun e => ?_, fun e => ?_⟩)
  · rw [bI_0, decide_eq_false_iff_not] at e; omega
  refine w_M_outputSymbols_7 (thr0 hm (fun σ1 m1 f1 z1 => ?_))
  have h1 := frX.T f1 h hT id
  refine ⟨m1.1, (s_M_reached m1 h1 hT hsl).use (by omega) ⟨m1.1, (s_M_ending m1 h1 hT hsl).use (by omega) ?_⟩⟩
  rw [itR_rest hT.2, itE_W hT.2 hT.1]
  generalize hgR : itR T.2 11 = R at hR
  generalize hgE : itW T.2 T.1 11 = E at hE
  have f1' : X14 m σ σ1 := frX.mono f1 (fun _ h => h) (fun _ h => h.elim) (fun _ h => h)
  -- zeroing
  refine lp (fun i => [.ref m, .int (Int32.ofInt (sl : Int)), .int (Int32.ofInt (R : Int)), .int (Int32.ofInt (E : Int)), .int (Int32.ofInt (i : Nat)), pm_U, pm_U, pm_U]) (fun i τ => X14 m σ τ ∧ iv (pm_F τ 1200 m) = 0 ∧ ∀ s, s < i → jv (pm_A τ (m + 14) s) = 0) 100 (fun i hi τ hh next => ?_) (fun τ hh => ?_) 0 (Nat.zero_le _) σ1 ⟨f1', z1, fun s hs => absurd hs (by omega)⟩
  · have mt := hh.1.mS hm
    have v := vi (show i < 4096 by omega) (by omega)
    have c := vc (show i < 2000000 by omega)
    refine w_M_outputSymbols_23 ⟨fun q => ?_, fun q => ?_⟩
    · rw [i32_100 (by omega)] at q; omega
    · simp only [mt.1, mt.f14, mt.t14, mt.l14, isr_ref, rv_ref, v, c, true_and, forall_eq, oi_s]
      refine next _ ⟨hh.1.tr X14_sA, by rw [F_sA]; exact hh.2.1, fun s hs => ?_⟩
      rw [A_sA]
      by_cases e : s = i
      · rw [if_pos ⟨rfl, e⟩]; rfl
      · rw [if_neg (fun q => e q.2)]; exact hh.2.2 s (by omega)
  refine w_M_outputSymbols_23 ⟨fun _ => ?_, fun q => absurd (Int32.le_refl _) q⟩
  -- rules
  refine lp (fun i => [.ref m, .int (Int32.ofInt (sl : Int)), .int (Int32.ofInt (R : Int)), .int (Int32.ofInt (E : Int)), .int (Int32.ofInt (i : Nat)), pm_U, pm_U, pm_U]) (fun i τ => X14 m σ τ ∧ iv (pm_F τ 1200 m) = 0 ∧ mC τ m (fun s => (T.2.take i).any (fun r => useful R E r && outR r s))) T.2.length (fun i hi τ hh next => ?_) (fun τ hh => ?_) 0 (Nat.zero_le _) τ ⟨hh.1, hh.2.1, fun s hs => by simp [hh.2.2 s hs]⟩
  · have mt := hh.1.mS hm
    have ht := frX.T hh.1 h hT id
    have hr := List.getElem?_eq_getElem hi
    generalize T.2[i] = r at hr
    have ok := hT.at hr
    have rk := ht.2.2.2 i r hr
    have q6 : ¬ Int32.ofInt (T.2.length : Int) ≤ Int32.ofInt (i : Nat) := by rw [oi_le (by omega)]; omega
    refine w_M_outputSymbols_35 ?_
    simp only [mt.1, mt.f2, mt.t2, mt.l2, isr_ref, rv_ref, vs, ws, ht.2.1, q6, not_false_eq_true, false_implies, true_implies, true_and, forall_eq, oi_row]
    refine (s_M_isUsed mt rk (by omega) ok hR hE).use (by omega) ⟨fun e => ?_, fun e => ?_⟩
    · rw [bI_0] at e
      rw [oi_s]
      exact next _ ⟨hh.1, hh.2.1, mC_ext hh.2.2 (fun s _ => by simp only [any_take hr, e, Bool.false_and, Bool.or_false])⟩
    rw [bI_1] at e
    -- symbols
    refine lp (fun u => [.ref m, .int (Int32.ofInt (sl : Int)), .int (Int32.ofInt (R : Int)), .int (Int32.ofInt (E : Int)), .int (Int32.ofInt (i : Nat)), .int (Int32.ofInt ((40 * sl + i : Nat) : Int)), .int (Int32.ofInt (u : Nat)), pm_U]) (fun u τ => X14 m σ τ ∧ iv (pm_F τ 1200 m) = 0 ∧ mC τ m (fun s => (T.2.take i).any (fun r => useful R E r && outR r s) || (List.range u).any (fun u => en r u && (rTs r).any (fun t => decide (val t u = (s : Int)))))) 100 (fun u hu τ hh next => ?_) (fun τ hh => ?_) 0 (Nat.zero_le _) τ ⟨hh.1, hh.2.1, mC_ext hh.2.2 (fun s _ => by simp)⟩
    · refine w_M_outputSymbols_56 ⟨fun q => ?_, fun q => ?_⟩
      · rw [i32_100 (by omega)] at q; omega
      have hl6 := ok.2.2.2.1
      have vr := vi (show 40 * sl + i < 520 by omega) (by omega)
      have wr := vc (show 40 * sl + i < 2000000 by omega)
      cases eu : en r u with
      | false =>
        have mt := hh.1.mS hm
        have ht := frX.T hh.1 h hT id
        have rk := ht.2.2.2 i r hr
        have nx := next τ ⟨hh.1, hh.2.1, mC_ext hh.2.2 (fun s _ => by simp only [any_range_s, eu, Bool.false_and, Bool.or_false])⟩
        refine w_M_outputSymbols_61 ?_
        simp only [mt.1, mt.f7, mt.t7, mt.l7, isr_ref, rv_ref, vr, wr, rk.2.2.2.2.1, true_and, forall_eq, oi_s]
        refine ⟨fun _ => nx, fun _ => (s_M_enables mt rk (by omega) ok.2.2.2 hu).use (by omega) ⟨fun _ => nx, fun e => ?_⟩⟩
        rw [bI_1, eu] at e; cases e
      | true =>
        refine lp (fun k => [.ref m, .int (Int32.ofInt (sl : Int)), .int (Int32.ofInt (R : Int)), .int (Int32.ofInt (E : Int)), .int (Int32.ofInt (i : Nat)), .int (Int32.ofInt ((40 * sl + i : Nat) : Int)), .int (Int32.ofInt (u : Nat)), .int (Int32.ofInt (k : Nat))]) (fun k τ => X14 m σ τ ∧ iv (pm_F τ 1200 m) = 0 ∧ mC τ m (fun s => ((T.2.take i).any (fun r => useful R E r && outR r s) || (List.range u).any (fun u => en r u && (rTs r).any (fun t => decide (val t u = (s : Int))))) || ((rTs r).take k).any (fun t => decide (val t u = (s : Int))))) (rTs r).length (fun k hk τ hh next => ?_) (fun τ hh => ?_) 0 (Nat.zero_le _) τ ⟨hh.1, hh.2.1, mC_ext hh.2.2 (fun s _ => by simp)⟩
        · have mt := hh.1.mS hm
          have ht := frX.T hh.1 h hT id
          have rk := ht.2.2.2 i r hr
          have tk := List.getElem?_eq_getElem hk
          generalize (rTs r)[k] = t at tk
          have ev := en_val eu tk
          have q7 : ¬ Int32.ofInt ((rTs r).length : Int) ≤ Int32.ofInt (k : Nat) := by rw [oi_le (by omega)]; omega
          refine w_M_outputSymbols_61 ?_
          simp only [mt.1, mt.f7, mt.t7, mt.l7, isr_ref, rv_ref, vr, wr, rk.2.2.2.2.1, q7, not_false_eq_true, false_implies, true_implies, true_and, forall_eq, oi_s]
          refine (s_M_enables mt rk (by omega) ok.2.2.2 hu).use (by omega) ⟨fun e => ?_, fun _ => ?_⟩
          · rw [bI_0, eu] at e; cases e
          simp only [mt.1, mt.f14, isr_ref, rv_ref, true_and, forall_eq]
          refine (s_M_value mt rk (by omega) hl6 tk).use (by omega) ?_
          have vv : vp_in (Int32.ofInt (val t u)) 4096 := (oi_in (by omega)).mpr (by omega)
          have cc : (Int32.ofInt (val t u)).toNatClampNeg = (val t u).toNat := oi_nc (by omega)
          simp only [mt.t14, mt.l14, vv, cc, true_and, forall_eq]
          refine next _ ⟨hh.1.tr X14_sA, by rw [F_sA]; exact hh.2.1, mC_sA hh.2.2 (fun s _ => ?_)⟩
          simp only [any_take tk, Bool.or_assoc]
          congr 3
          rw [decide_eq_decide]; omega
        · have mt := hh.1.mS hm
          have ht := frX.T hh.1 h hT id
          have rk := ht.2.2.2 i r hr
          refine w_M_outputSymbols_61 ?_
          simp only [mt.1, mt.f7, mt.t7, mt.l7, isr_ref, rv_ref, vr, wr, rk.2.2.2.2.1, true_and, forall_eq, oi_s]
          refine ⟨fun _ => next τ ⟨hh.1, hh.2.1, mC_ext hh.2.2 (fun s _ => by simp only [any_range_s, eu, Bool.true_and, take_len, Bool.or_assoc])⟩, fun q => absurd (Int32.le_refl _) q⟩
    · refine w_M_outputSymbols_56 ⟨fun _ => ?_, fun q => absurd (Int32.le_refl _) q⟩
      rw [oi_s]
      exact next τ ⟨hh.1, hh.2.1, mC_ext hh.2.2 (fun s _ => by simp only [any_take hr, e, Bool.true_and]; rfl)⟩
  · have mt := hh.1.mS hm
    have ht := frX.T hh.1 h hT id
    refine w_M_outputSymbols_35 ?_
    simp only [mt.1, mt.f2, mt.t2, mt.l2, isr_ref, rv_ref, vs, ws, ht.2.1, true_and, forall_eq]
    exact ⟨fun _ => s_M_osym_91 (p := outS T) mt (mC_ext hh.2.2 (fun s _ => by simp only [take_len, outS, hgR, hgE])) ⟨rfl, hh.1, hh.2.1⟩, fun q => absurd (Int32.le_refl _) q⟩
def det (rs : List Rl) : Bool := (List.range rs.length).all (fun k => (List.range k).all (fun j => match rs[k]?, rs[j]? with | some r, some r' => !(decide (rF r = rF r') && both r r') | _, _ => true))
theorem det_iff {rs : List Rl} : det rs = true ↔ ∀ (k j : Nat) (r r' : Rl), j < k → rs[k]? = some r → rs[j]? = some r' → (decide (rF r = rF r') && both r r') = false := by
  unfold det
  simp only [List.all_eq_true, List.mem_range]
  constructor
  · intro h k j r r' hj hk hj'
    have := h k (List.getElem?_eq_some_iff.mp hk).1 j hj
    rw [hk, hj'] at this
    exact (Bool.not_eq_true' _).mp this
  · intro h k hk j hj
    have e1 := List.getElem?_eq_getElem hk
    have e2 := List.getElem?_eq_getElem (show j < rs.length by omega)
    rw [e1, e2]
    exact (Bool.not_eq_true' _).mpr (h k j _ _ hj e1 e2)
