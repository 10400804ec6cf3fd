/-! ===== runs of the model ===== -/
theorem s_M_isSlot {σ : pm_H} {v : Int} (hv : -2147483648 ≤ v ∧ v < 2147483648) : cI 1 164 [.int (Int32.ofInt v)] σ (bI (decide (0 ≤ v ∧ v < 4))) := by
  refine w_M_isSlot_0 ((s_M_in (a := 0) (b := 3) hv (by omega) (by omega)).use (Nat.le_refl _) ⟨bI_and _, ?_, rfl⟩)
  congr 4
  rw [decide_eq_decide]; omega
theorem s_M_isState {σ : pm_H} {v : Int} (hv : -2147483648 ≤ v ∧ v < 2147483648) : cI 1 165 [.int (Int32.ofInt v)] σ (bI (decide (0 ≤ v ∧ v < 12))) := by
  refine w_M_isState_0 ((s_M_in (a := 0) (b := 11) hv (by omega) (by omega)).use (Nat.le_refl _) ⟨bI_and _, ?_, rfl⟩)
  congr 4
  rw [decide_eq_decide]; omega
/-- the model's word -/
def mWo (σ : pm_H) (m : Nat) (l : List Nat) : Prop := iv (pm_F σ 1218 m) = Int32.ofInt l.length ∧ l.length ≤ 10 ∧ ∀ (i s : Nat), l[i]? = some s → iv (pm_A σ (m + 12) i) = Int32.ofInt (s : Int)
theorem mWo_X {m : Nat} {Fs As Sl : Nat → Prop} {σ σ' : pm_H} {l : List Nat} (h : mWo σ m l) (f : frX m Fs As Sl σ σ') (h1 : ¬ Fs 1218) (h2 : ¬ As 12) : mWo σ' m l :=
  ⟨by rw [f.F h1]; exact h.1, h.2.1, fun i s hs => by rw [f.A (by omega) h2]; exact h.2.2 i s hs⟩
theorem i32_12 {n : Nat} (hn : n < 100000) : ((12 : Int32) ≤ Int32.ofInt (n : Int)) ↔ 12 ≤ n := i32_lt12 hn
theorem st_has1 {S s : Nat} (hS : S < 4096) (hs : s < 12) : ((Int32.ofInt (S : Int)) >>> (Int32.ofInt (s : Int) &&& 31)) &&& 1 = 1 ↔ S.testBit s = true := by
  rw [st_has (by omega) hs]
  cases S.testBit s <;> decide
def X0 (m : Nat) (σ σ' : pm_H) : Prop := frX m (fun _ => False) (fun i => i = 14 ∨ i = 15) (fun _ => False) σ σ'
theorem X0_14 {m k : Nat} {v : Value} {σ : pm_H} : X0 m σ (pm_sA σ (m + 14) k v) := (frX_sA (by omega) (by omega)).mono (fun _ q => q) (fun _ q => Or.inl q) (fun _ q => q)
theorem X0_15 {m k : Nat} {v : Value} {σ : pm_H} : X0 m σ (pm_sA σ (m + 15) k v) := (frX_sA (by omega) (by omega)).mono (fun _ q => q) (fun _ q => Or.inr q) (fun _ q => q)
theorem X0.mS {m : Nat} {σ σ' : pm_H} (h : X0 m σ σ') (hm : mS σ m) : mS σ' m := frX.mS h hm (fun _ q => q.elim)
theorem s_M_runs_c {σ : pm_H} {m sl : Nat} {T : Tr} {l : List Nat} {σ0 : pm_H} {Q : pm_O → pm_H → Prop} (hm : mS σ m) (h : mTr σ m sl T) (hT : okTr T) (hsl : sl < 4) (hw : mWo σ m l) (hlw : ∀ s, s ∈ l → s < 100) (h0 : σ0 = σ) (hQ : ∀ σ', X0 m σ σ' → Q (.inl (some (.long (sumF T.1 (runC T.2 l) 12)))) σ') : pm_R 3 206 15 [.ref m, .int (Int32.ofInt (sl : Int)), .int ((0 : Int32)), pm_U, pm_U] [] σ0 Q := by
  subst h0
  have hl10 := hw.2.1
  have hl40 := h.2.2.1
  have vs := vi (show sl < 13 by omega) (by omega)
  have ws := vc (show sl < 2000000 by omega)
  refine lp (d := 3) (m := 206) (k := 15) (fun i => [.ref m, .int (Int32.ofInt (sl : Int)), .int (Int32.ofInt (i : Nat)), pm_U, pm_U]) (fun i τ => (∀ q, q < i → jv (pm_A τ (m + 14) q) = if q = 0 then 1 else 0) ∧ X0 m σ0 τ) 12 ?_ ?_ 0 (Nat.zero_le _) σ0 ⟨fun q hq => absurd hq (Nat.not_lt_zero _), frX.rf⟩
  · rintro i hi τ ⟨i1, i2⟩ next
    have hm' := i2.mS hm
    have qi := vi (show i < 4096 by omega) (by omega)
    have qc := vc (show i < 2000000 by omega)
    refine w_M_runs_15 ⟨fun q => ?_, fun q => ?_⟩
    · rw [i32_12 (by omega)] at q; omega
    · simp only [hm'.1, hm'.f14, hm'.t14, hm'.l14, isr_ref, rv_ref, qi, qc, true_and, forall_eq, oi_s]
      refine ⟨fun e => next _ ⟨fun q hq => ?_, i2.tr X0_14⟩, fun e => next _ ⟨fun q hq => ?_, i2.tr X0_14⟩⟩
      · rw [oi_eql ⟨by omega, by decide⟩] at e
        rw [A_sA]
        by_cases eq : q = i
        · rw [if_pos ⟨rfl, eq⟩, if_pos (by omega)]; rfl
        · omega
      · rw [oi_eql ⟨by omega, by decide⟩] at e
        rw [A_sA]
        by_cases eq : q = i
        · rw [if_pos ⟨rfl, eq⟩, if_neg (by omega)]; rfl
        · rw [if_neg (fun z => eq z.2)]; exact i1 q (by omega)
  · rintro τ ⟨i1, i2⟩
    refine w_M_runs_15 ⟨fun _ => ?_, fun q => absurd (Int32.le_refl _) q⟩
    refine lp (d := 3) (m := 206) (k := 31) (fun i => [.ref m, .int (Int32.ofInt (sl : Int)), .int (Int32.ofInt (i : Nat)), pm_U, pm_U]) (fun i τ => (∀ q, q < 12 → jv (pm_A τ (m + 14) q) = runC T.2 (l.take i) q) ∧ X0 m σ0 τ) l.length ?_ ?_ 0 (Nat.zero_le _) τ ⟨fun q hq => by rw [i1 q hq]; rfl, i2⟩
    · rintro i hi τ1 ⟨j1, j2⟩ next
      have hm1 := j2.mS hm
      have hw1 := mWo_X hw j2 (fun q => q) (by omega)
      have hr := List.getElem?_eq_getElem hi
      generalize l[i] = s at hr
      have hs := hlw s (List.mem_of_getElem? hr)
      have q6 : ¬ Int32.ofInt (l.length : Int) ≤ Int32.ofInt (i : Nat) := by rw [oi_le (by omega)]; omega
      have vI := vi (show i < 10 by omega) (by omega)
      have wI := vc (show i < 2000000 by omega)
      refine w_M_runs_31 ?_
      simp only [hm1.1, hw1.1, q6, not_false_eq_true, false_implies, true_implies, true_and, forall_eq]
      refine lp (d := 3) (m := 206) (k := 37) (fun k => [.ref m, .int (Int32.ofInt (sl : Int)), .int (Int32.ofInt (i : Nat)), .int (Int32.ofInt (k : Nat)), pm_U]) (fun k τ => (∀ q, q < k → jv (pm_A τ (m + 15) q) = 0) ∧ (∀ q, q < 12 → jv (pm_A τ (m + 14) q) = runC T.2 (l.take i) q) ∧ X0 m σ0 τ) 12 ?_ ?_ 0 (Nat.zero_le _) τ1 ⟨fun q hq => absurd hq (Nat.not_lt_zero _), j1, j2⟩
      · rintro k hk τ2 ⟨k1, k2, k3⟩ next2
        have hm2 := k3.mS hm
        have qi := vi (show k < 4096 by omega) (by omega)
        have qc := vc (show k < 2000000 by omega)
        refine w_M_runs_37 ⟨fun q => ?_, fun q => ?_⟩
        · rw [i32_12 (by omega)] at q; omega
        · simp only [hm2.1, hm2.f15, hm2.t15, hm2.l15, isr_ref, rv_ref, qi, qc, true_and, forall_eq, oi_s]
          refine next2 _ ⟨fun q hq => ?_, fun q hq => ?_, k3.tr X0_15⟩
          · rw [A_sA]
            by_cases eq : q = k
            · rw [if_pos ⟨rfl, eq⟩]; rfl
            · rw [if_neg (fun z => eq z.2)]; exact k1 q (by omega)
          · rw [A_sA, if_neg (by omega)]; exact k2 q hq
      · rintro τ2 ⟨k1, k2, k3⟩
        refine w_M_runs_37 ⟨fun _ => ?_, fun q => absurd (Int32.le_refl _) q⟩
        refine lp (d := 3) (m := 206) (k := 49) (fun k => [.ref m, .int (Int32.ofInt (sl : Int)), .int (Int32.ofInt (i : Nat)), .int (Int32.ofInt (k : Nat)), pm_U]) (fun k τ => (∀ q, q < 12 → jv (pm_A τ (m + 15) q) = (T.2.take k).foldl (addC (runC T.2 (l.take i)) s) (fun _ => 0) q) ∧ (∀ q, q < 12 → jv (pm_A τ (m + 14) q) = runC T.2 (l.take i) q) ∧ X0 m σ0 τ) T.2.length ?_ ?_ 0 (Nat.zero_le _) τ2 ⟨fun q hq => by rw [k1 q hq]; rfl, k2, k3⟩
        · rintro k hk τ3 ⟨l1, l2, l3⟩ next3
          have hm3 := l3.mS hm
          have hw3 := mWo_X hw l3 (fun q => q) (by omega)
          have h3 := frX.T l3 h hT (fun q => q)
          have hrk := List.getElem?_eq_getElem hk
          generalize T.2[k] = r at hrk
          have ok := hT.at hrk
          have rk := h3.2.2.2 k r hrk
          have vr := vi (show 40 * sl + k < 520 by omega) (by omega)
          have wr := vc (show 40 * sl + k < 2000000 by omega)
          have vt := vi (show rT r < 4096 by have := ok.2.1; omega) (by omega)
          have wt := vc (show rT r < 2000000 by have := ok.2.1; omega)
          have vf := vi (show rF r < 4096 by have := ok.1; omega) (by omega)
          have wf := vc (show rF r < 2000000 by have := ok.1; omega)
          have q6 : ¬ Int32.ofInt (T.2.length : Int) ≤ Int32.ofInt (k : Nat) := by rw [oi_le (by omega)]; omega
          refine w_M_runs_49 ?_
          simp only [hm3.1, hm3.f2, hm3.t2, hm3.l2, hm3.f12, hm3.t12, hm3.l12, isr_ref, rv_ref, vs, ws, h3.2.1, q6, not_false_eq_true, false_implies, true_implies, vI, wI, hw3.2.2 i s hr, oi_row, true_and, forall_eq]
          refine (s_M_enables hm3 rk (by omega) ok.2.2.2 hs).use (by omega) ⟨fun e => ?_, fun e => ?_⟩
          · rw [oi_s]
            refine next3 τ3 ⟨fun q hq => ?_, l2, l3⟩
            rw [foldl_take hrk, addC, bI_0.mp e]
            exact l1 q hq
          · simp only [hm3.1, hm3.f15, hm3.t15, hm3.l15, hm3.f14, hm3.t14, hm3.l14, hm3.f4, hm3.t4, hm3.l4, hm3.f3, hm3.t3, hm3.l3, isr_ref, rv_ref, vr, wr, rk.1, rk.2.1, vt, wt, vf, wf, l1 _ ok.2.1, l2 _ ok.1, true_and, forall_eq, oi_s]
            refine next3 _ ⟨fun q hq => ?_, fun q hq => ?_, l3.tr X0_15⟩
            · rw [foldl_take hrk, addC, bI_1.mp e, A_sA]
              simp only [if_true, true_and]
              by_cases eq : q = rT r
              · rw [if_pos eq, if_pos eq, eq]; rfl
              · rw [if_neg eq, if_neg eq]; exact l1 q hq
            · rw [A_sA, if_neg (by omega)]; exact l2 q hq
        · rintro τ3 ⟨l1, l2, l3⟩
          have hm3 := l3.mS hm
          have h3 := frX.T l3 h hT (fun q => q)
          have q6 : Int32.ofInt (T.2.length : Int) ≤ Int32.ofInt (T.2.length : Int) := Int32.le_refl _
          rw [take_len] at l1
          refine w_M_runs_49 ?_
          simp only [hm3.1, hm3.f2, hm3.t2, hm3.l2, isr_ref, rv_ref, vs, ws, h3.2.1, q6, not_true_eq_false, false_implies, true_implies, true_and, and_true, forall_eq]
          refine lp (d := 3) (m := 206) (k := 90) (fun k => [.ref m, .int (Int32.ofInt (sl : Int)), .int (Int32.ofInt (i : Nat)), .int (Int32.ofInt (k : Nat)), pm_U]) (fun k τ => (∀ q, q < 12 → jv (pm_A τ (m + 15) q) = stepC T.2 s (runC T.2 (l.take i)) q) ∧ (∀ q, q < k → jv (pm_A τ (m + 14) q) = stepC T.2 s (runC T.2 (l.take i)) q) ∧ X0 m σ0 τ) 12 ?_ ?_ 0 (Nat.zero_le _) τ3 ⟨l1, fun q hq => absurd hq (Nat.not_lt_zero _), l3⟩
          · rintro k hk τ4 ⟨n1, n2, n3⟩ next4
            have hm4 := n3.mS hm
            have qi := vi (show k < 4096 by omega) (by omega)
            have qc := vc (show k < 2000000 by omega)
            refine w_M_runs_90 ⟨fun q => ?_, fun q => ?_⟩
            · rw [i32_12 (by omega)] at q; omega
            · simp only [hm4.1, hm4.f15, hm4.t15, hm4.l15, hm4.f14, hm4.t14, hm4.l14, isr_ref, rv_ref, qi, qc, n1 k hk, true_and, forall_eq, oi_s]
              refine next4 _ ⟨fun q hq => ?_, fun q hq => ?_, n3.tr X0_14⟩
              · rw [A_sA, if_neg (by omega)]; exact n1 q hq
              · rw [A_sA]
                by_cases eq : q = k
                · rw [if_pos ⟨rfl, eq⟩, eq]; rfl
                · rw [if_neg (fun z => eq z.2)]; exact n2 q (by omega)
          · rintro τ4 ⟨n1, n2, n3⟩
            refine w_M_runs_90 ⟨fun _ => ?_, fun q => absurd (Int32.le_refl _) q⟩
            rw [oi_s]
            refine next τ4 ⟨fun q hq => ?_, n3⟩
            rw [n2 q hq]
            unfold runC
            rw [foldl_take hr]
    · rintro τ1 ⟨j1, j2⟩
      have hm1 := j2.mS hm
      have hw1 := mWo_X hw j2 (fun q => q) (by omega)
      have h1 := frX.T j2 h hT (fun q => q)
      have q6 : Int32.ofInt (l.length : Int) ≤ Int32.ofInt (l.length : Int) := Int32.le_refl _
      rw [take_len] at j1
      refine w_M_runs_31 ?_
      simp only [hm1.1, hw1.1, q6, not_true_eq_false, false_implies, true_implies, true_and, and_true, forall_eq]
      refine lp0 (fun i => [.ref m, .int (Int32.ofInt (sl : Int)), .long (sumF T.1 (runC T.2 l) i), pm_U, .int (Int32.ofInt (i : Nat))]) 12 (fun i hi next => ?_) ?_ 0 (Nat.zero_le _)
      · have qi := vi (show i < 4096 by omega) (by omega)
        have qc := vc (show i < 2000000 by omega)
        refine w_M_runs_109 ⟨fun q => ?_, fun q => ?_⟩
        · rw [i32_12 (by omega)] at q; omega
        · simp only [hm1.1, hm1.f1, hm1.t1, hm1.l1, hm1.f14, hm1.t14, hm1.l14, isr_ref, rv_ref, vs, ws, h1.1, qi, qc, j1 i hi, true_and, forall_eq, oi_s, st_has1 hT.1 hi]
          refine ⟨fun e => ?_, fun e => ?_⟩
          · rw [sumF_1 e] at next; exact next
          · rw [sumF_0 (by simpa using e)] at next
            rw [Int64.add_zero]; exact next
      · exact w_M_runs_109 ⟨fun q => hQ _ j2, fun q => absurd (Int32.le_refl _) q⟩
