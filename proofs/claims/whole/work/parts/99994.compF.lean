/-! ===== compose: the model foresees ===== -/
def cE (bs : List Rl) (e : Nat → Bool) : List Nat → Nat → Nat → Bool
  | [], _, _ => true
  | c :: cs, q, s => opn bs e (c :: cs) q s
theorem cE_opn {bs : List Rl} {e : Nat → Bool} {s q : Nat} (cs : List Nat) (h : e s = true) : cE bs e cs q s = opn bs e cs q s := by
  cases cs with
  | nil => exact h.symm
  | cons c cs => rfl
theorem ea_i (k q s : Nat) : (100 : Int32) * ((12 : Int32) * Int32.ofInt (k : Int) + Int32.ofInt (q : Int)) + Int32.ofInt (s : Int) = Int32.ofInt ((100 * (12 * k + q) + s : Nat) : Int) := by
  rw [show (12 : Int32) * Int32.ofInt (k : Int) = Int32.ofInt (12 * (k : Int)) from oi_lmul _ 12, oi_add, show (100 : Int32) * Int32.ofInt (12 * (k : Int) + (q : Int)) = Int32.ofInt (100 * (12 * (k : Int) + (q : Int))) from oi_lmul _ 100, oi_add]; congr 1
theorem s_M_endAt {k q s : Nat} {σ : pm_H} : cI 0 233 [.int (Int32.ofInt (k : Int)), .int (Int32.ofInt (q : Int)), .int (Int32.ofInt (s : Int))] σ (Int32.ofInt ((100 * (12 * k + q) + s : Nat) : Int)) := by
  refine w_M_endAt_0 ?_
  rw [ea_i]
  exact ⟨rfl, rfl⟩
theorem oi_1200 (k c : Nat) : (1200 : Int32) * Int32.ofInt (k : Int) + Int32.ofInt (c : Int) = Int32.ofInt ((1200 * k + c : Nat) : Int) := by
  rw [show (1200 : Int32) * Int32.ofInt (k : Int) = Int32.ofInt (1200 * (k : Int)) from oi_lmul _ 1200, oi_add]; congr 1
theorem i32_1200 {n : Nat} (hn : n < 100000) : ((1200 : Int32) ≤ Int32.ofInt (n : Int)) ↔ 1200 ≤ n := by
  refine (oi_lle (n := 1200) ⟨by omega, by decide⟩).trans ?_
  show (1200 : Int) ≤ (n : Int) ↔ _
  omega
def gF (m : Nat) (σ σ' : pm_H) : Prop := frX m (fun _ => False) (fun i => i = 34) (fun _ => False) σ σ'
theorem gF_sA {m k : Nat} {v : Value} {σ : pm_H} : gF m σ (pm_sA σ (m + 34) k v) := frX_sA (by omega) (by omega)
def cF (m : Nat) (bs : List Rl) (r : Rl) (τ : pm_H) (k : Nat) : Prop := ∀ q s, q < 12 → s < 100 → iv (pm_A τ (m + 34) (100 * (12 * k + q) + s)) = bI (cE bs (en r) ((rTs r).drop k) q s)
theorem s_M_foresees {σ : pm_H} {m sa sb i : Nat} {r : Rl} {A B : Tr} (hm : mS σ m) (ha : mTr σ m sa A) (hA : okTr A) (hr : A.2[i]? = some r) (hsa : sa < 4) (hb : mTr σ m sb B) (hB : okTr B) (hsb : sb < 4) : cV 3 234 [.ref m, .int (Int32.ofInt ((40 * sa + i : Nat) : Int)), .int (Int32.ofInt (sb : Int))] σ (fun σ' => (∀ k, k ≤ (rTs r).length → cF m B.2 r σ' k) ∧ gF m σ σ') := by
  have ok := hA.at hr
  have l6 := ok.2.2.2.1
  have la := ha.2.2.1
  have hi := (List.getElem?_eq_some_iff.mp hr).1
  have hmf : ∀ τ, gF m σ τ → mS τ m := fun τ f => frX.mS f hm (fun _ q => q.elim)
  have hrf : ∀ τ, gF m σ τ → mRu τ m (40 * sa + i) r := fun τ f => (frX.T f ha hA id).2.2.2 i r hr
  have hbf : ∀ τ, gF m σ τ → mTr τ m sb B := fun τ f => frX.T f hb hB id
  have vR := vi (show 40 * sa + i < 520 by omega) (by omega)
  have wR := vc (show 40 * sa + i < 2000000 by omega)
  have vs := vi (show sb < 13 by omega) (by omega)
  have ws := vc (show sb < 2000000 by omega)
  have r0 := hrf σ frX.rf
  refine w_M_foresees_0 ?_
  simp only [hm.1, hm.f7, hm.t7, hm.l7, isr_ref, rv_ref, vR, wR, r0.2.2.2.2.1, true_and, forall_eq]
  refine lp (fun c => [.ref m, .int (Int32.ofInt ((40 * sa + i : Nat) : Int)), .int (Int32.ofInt (sb : Int)), .int (Int32.ofInt ((rTs r).length : Int)), .int (Int32.ofInt (c : Nat)), pm_U, pm_U, pm_U]) (fun c τ => (∀ j, j < c → iv (pm_A τ (m + 34) (1200 * (rTs r).length + j)) = 1) ∧ gF m σ τ) 1200 (fun c hc τ hh next => ?_) (fun τ hh => ?_) 0 (Nat.zero_le _) σ ⟨fun j hj => absurd hj (Nat.not_lt_zero _), frX.rf⟩
  · obtain ⟨i1, f⟩ := hh
    have mt := hmf τ f
    have v := vi (show 1200 * (rTs r).length + c < 8400 by omega) (by omega)
    have w := vc (show 1200 * (rTs r).length + c < 2000000 by omega)
    refine w_M_foresees_7 ⟨fun q => ?_, fun _ => ?_⟩
    · rw [i32_1200 (by omega)] at q; omega
    simp only [mt.1, mt.f34, mt.t34, mt.l34, isr_ref, rv_ref, oi_1200, v, w, nb_1, true_and, forall_eq, oi_s]
    refine next _ ⟨fun j hj => ?_, frX.tr f gF_sA⟩
    rw [A_sA]
    by_cases cj : j = c
    · rw [if_pos ⟨rfl, by rw [cj]⟩]; rfl
    · rw [if_neg (fun q => cj (by omega))]; exact i1 j (by omega)
  · obtain ⟨i1, f⟩ := hh
    refine w_M_foresees_7 ⟨fun _ => ?_, fun q => absurd (Int32.le_refl _) q⟩
    rw [show Int32.ofInt ((rTs r).length : Int) - 1 = Int32.ofInt (((rTs r).length : Int) - 1) from oi_subl _ 1]
    refine lpd (fun k => [.ref m, .int (Int32.ofInt ((40 * sa + i : Nat) : Int)), .int (Int32.ofInt (sb : Int)), pm_U, .int (Int32.ofInt ((k : Nat) - 1 : Int)), pm_U, pm_U, pm_U]) (fun k τ => k ≤ (rTs r).length ∧ (∀ k', k ≤ k' → k' ≤ (rTs r).length → cF m B.2 r τ k') ∧ gF m σ τ) (fun k τ hh next => ?_) (fun τ hh => ?_) (rTs r).length τ ⟨Nat.le_refl _, fun k' h1 h2 q s hq hs => ?_, f⟩
    · obtain ⟨hkl, hop, f⟩ := hh
      have hrc := List.getElem?_eq_getElem (show k < (rTs r).length by omega)
      generalize (rTs r)[k] = c at hrc
      have okc := ok.2.2.2.2 c (List.mem_of_getElem? hrc)
      have hd := drop_c hrc
      generalize hcs : (rTs r).drop (k + 1) = cs at hd
      have ei : Int32.ofInt (((k + 1 : Nat) : Int) - 1) = Int32.ofInt (k : Int) := by congr 1; omega
      have ei2 : Int32.ofInt (k : Int) + (-1) = Int32.ofInt ((k : Int) - 1) := by
        rw [show Int32.ofInt (k : Int) + (-1) = Int32.ofInt ((k : Int) + -1) from oi_addn _ 1]; congr 1
      have keep : ∀ (τ1 τ2 : pm_H), (∀ k', k + 1 ≤ k' → k' ≤ (rTs r).length → cF m B.2 r τ1 k') → (∀ x, 1200 * (k + 1) ≤ x → pm_A τ2 (m + 34) x = pm_A τ1 (m + 34) x) → ∀ k', k + 1 ≤ k' → k' ≤ (rTs r).length → cF m B.2 r τ2 k' := fun τ1 τ2 h hf k' h1 h2 q s hq hs => by
        rw [hf _ (by omega)]; exact h k' h1 h2 q s hq hs
      rw [ei]
      refine w_M_foresees_25 ⟨fun q => ?_, fun _ => ?_⟩
      · rw [z_lt0 (nrg (by omega))] at q; omega
      refine lp (fun c => [.ref m, .int (Int32.ofInt ((40 * sa + i : Nat) : Int)), .int (Int32.ofInt (sb : Int)), pm_U, .int (Int32.ofInt (k : Int)), .int (Int32.ofInt (c : Nat)), pm_U, pm_U]) (fun c τ => (∀ k', k + 1 ≤ k' → k' ≤ (rTs r).length → cF m B.2 r τ k') ∧ (∀ j, j < c → iv (pm_A τ (m + 34) (1200 * k + j)) = 0) ∧ gF m σ τ) 1200 (fun c0 hc τ hh next1 => ?_) (fun τ hh => ?_) 0 (Nat.zero_le _) τ ⟨hop, fun j hj => absurd hj (Nat.not_lt_zero _), f⟩
      · obtain ⟨j1, j2, f⟩ := hh
        have mt := hmf τ f
        have v := vi (show 1200 * k + c0 < 8400 by omega) (by omega)
        have w := vc (show 1200 * k + c0 < 2000000 by omega)
        refine w_M_foresees_29 ⟨fun q => ?_, fun _ => ?_⟩
        · rw [i32_1200 (by omega)] at q; omega
        simp only [mt.1, mt.f34, mt.t34, mt.l34, isr_ref, rv_ref, oi_1200, v, w, nb_0, true_and, forall_eq, oi_s]
        refine next1 _ ⟨keep _ _ j1 (fun x hx => by rw [A_sA, if_neg (by omega)]), fun j hj => ?_, frX.tr f gF_sA⟩
        rw [A_sA]
        by_cases cj : j = c0
        · rw [if_pos ⟨rfl, by rw [cj]⟩]; rfl
        · rw [if_neg (fun q => cj (by omega))]; exact j2 j (by omega)
      · obtain ⟨j1, j2, f⟩ := hh
        refine w_M_foresees_29 ⟨fun _ => ?_, fun q => absurd (Int32.le_refl _) q⟩
        refine lp (fun j => [.ref m, .int (Int32.ofInt ((40 * sa + i : Nat) : Int)), .int (Int32.ofInt (sb : Int)), pm_U, .int (Int32.ofInt (k : Int)), .int (Int32.ofInt (j : Nat)), pm_U, pm_U]) (fun j τ => (∀ k', k + 1 ≤ k' → k' ≤ (rTs r).length → cF m B.2 r τ k') ∧ (∀ q s, q < 12 → s < 100 → iv (pm_A τ (m + 34) (100 * (12 * k + q) + s)) = bI (oJ B.2 (en r) c cs j q s)) ∧ gF m σ τ) B.2.length (fun j hj τ hh next1 => ?_) (fun τ hh => ?_) 0 (Nat.zero_le _) τ ⟨j1, fun q s hq hs => ?_, f⟩
        · obtain ⟨j1, j2, f⟩ := hh
          have mt := hmf τ f
          have bt := hbf τ f
          have bl := bt.2.2.1
          have ht := List.getElem?_eq_getElem hj
          generalize B.2[j] = t at ht
          have okt := hB.at ht
          have q6 : ¬ Int32.ofInt (B.2.length : Int) ≤ Int32.ofInt (j : Nat) := by rw [oi_le (by omega)]; omega
          refine w_M_foresees_45 ?_
          simp only [mt.1, mt.f2, mt.t2, mt.l2, isr_ref, rv_ref, vs, ws, bt.2.1, q6, not_false_eq_true, false_implies, true_implies, oi_row, true_and, forall_eq]
          have vJ := vi (show 40 * sb + j < 520 by omega) (by omega)
          have wJ := vc (show 40 * sb + j < 2000000 by omega)
          refine lp (fun s => [.ref m, .int (Int32.ofInt ((40 * sa + i : Nat) : Int)), .int (Int32.ofInt (sb : Int)), pm_U, .int (Int32.ofInt (k : Int)), .int (Int32.ofInt (j : Nat)), .int (Int32.ofInt ((40 * sb + j : Nat) : Int)), .int (Int32.ofInt (s : Nat))]) (fun s0 τ => (∀ k', k + 1 ≤ k' → k' ≤ (rTs r).length → cF m B.2 r τ k') ∧ (∀ q s, q < 12 → s < 100 → iv (pm_A τ (m + 34) (100 * (12 * k + q) + s)) = bI (if s < s0 then oJ B.2 (en r) c cs (j + 1) q s else oJ B.2 (en r) c cs j q s)) ∧ gF m σ τ) 100 (fun s hs τ hh next2 => ?_) (fun τ hh => ?_) 0 (Nat.zero_le _) τ ⟨j1, fun q s hq hs => by rw [if_neg (by omega)]; exact j2 q s hq hs, f⟩
          · obtain ⟨j1, j2, f⟩ := hh
            have mt := hmf τ f
            have bt := hbf τ f
            have rt := hrf τ f
            have tt := bt.2.2.2 j t ht
            -- nothing is set
            have same : (∀ q, q < 12 → oJ B.2 (en r) c cs (j + 1) q s = oJ B.2 (en r) c cs j q s) → pm_R 3 234 59 [.ref m, .int (Int32.ofInt ((40 * sa + i : Nat) : Int)), .int (Int32.ofInt (sb : Int)), pm_U, .int (Int32.ofInt (k : Int)), .int (Int32.ofInt (j : Nat)), .int (Int32.ofInt ((40 * sb + j : Nat) : Int)), .int (Int32.ofInt ((s + 1 : Nat) : Int))] [] τ (fun o σ' => o = .inl none ∧ (∀ k, k ≤ (rTs r).length → cF m B.2 r σ' k) ∧ gF m σ σ') := fun hsame => next2 τ ⟨j1, fun q s' hq hs' => by
              rw [j2 q s' hq hs']
              by_cases c1 : s' < s
              · rw [if_pos c1, if_pos (by omega)]
              · rw [if_neg c1]
                by_cases c2 : s' = s
                · subst c2; rw [if_pos (by omega), hsame q hq]
                · rw [if_neg (by omega)], f⟩
            refine w_M_foresees_59 ⟨fun q => ?_, fun _ => ⟨mt.1, gI (s_M_enables mt rt (by omega) ok.2.2.2 hs) (by omega) (fun e => ?_) (fun e => ?_)⟩⟩
            · rw [i32_100 (by omega)] at q; omega
            · rw [oi_s]
              refine same (fun q hq => ?_)
              rw [oJ_s ht]
              cases eo : opn B.2 (en r) cs (rT t) s with
              | true => rw [opn_e _ _ eo] at e; cases e
              | false => rw [Bool.and_false, Bool.and_false, Bool.or_false]
            have toT := okt.2.1
            have vT := vi (show 100 * (12 * (k + 1) + rT t) + s < 8400 by omega) (by omega)
            have wT := vc (show 100 * (12 * (k + 1) + rT t) + s < 2000000 by omega)
            have cTo := j1 (k + 1) (Nat.le_refl _) (by omega) (rT t) s toT hs
            rw [hcs, cE_opn cs e] at cTo
            simp only [mt.1, mt.f34, mt.t34, mt.l34, mt.f4, mt.t4, mt.l4, isr_ref, rv_ref, vJ, wJ, tt.2.1, true_and, forall_eq, oi_s]
            refine s_M_endAt.use (by omega) ?_
            simp only [mt.t34, mt.l34, vT, wT, cTo, true_and, forall_eq]
            rw [bI_0, Bool.not_eq_false]
            refine ⟨fun e2 => ?_, fun e2 => ?_⟩
            · refine same (fun q hq => ?_)
              rw [oJ_s ht, e2, Bool.and_false, Bool.and_false, Bool.or_false]
            have ev := en_val e hrc
            refine ⟨mt.1, (s_M_value mt rt (by omega) l6 hrc).use (by omega) ?_⟩
            obtain ⟨v, hv⟩ : ∃ v : Nat, val c s = (v : Int) := ⟨(val c s).toNat, by omega⟩
            have htk : tk c t s = en t v := by
              unfold tk
              rw [hv, decide_eq_true (by omega), Bool.true_and]; rfl
            rw [hv]
            refine ⟨mt.1, gI (s_M_enables mt tt (by omega) okt.2.2.2 (show v < 100 by omega)) (by omega) (fun e3 => ?_) (fun e3 => ?_)⟩
            · refine same (fun q hq => ?_)
              rw [oJ_s ht, htk, e3, Bool.false_and, Bool.and_false, Bool.or_false]
            have frT' := okt.1
            have vF := vi (show 100 * (12 * k + rF t) + s < 8400 by omega) (by omega)
            have wF := vc (show 100 * (12 * k + rF t) + s < 2000000 by omega)
            simp only [mt.1, mt.f34, mt.t34, mt.l34, mt.f3, mt.t3, mt.l3, isr_ref, rv_ref, vJ, wJ, tt.1, true_and, forall_eq]
            refine s_M_endAt.use (by omega) ?_
            simp only [mt.t34, mt.l34, vF, wF, nb_1, true_and, forall_eq]
            refine next2 _ ⟨keep _ _ j1 (fun x hx => by rw [A_sA, if_neg (by omega)]), fun q s' hq hs' => ?_, frX.tr f gF_sA⟩
            rw [A_sA]
            by_cases c0 : 100 * (12 * k + q) + s' = 100 * (12 * k + rF t) + s
            · have cq : q = rF t := by omega
              have cs' : s' = s := by omega
              subst cq; subst cs'
              rw [if_pos ⟨rfl, rfl⟩, if_pos (by omega), oJ_s ht, htk, e3, e2, decide_eq_true rfl]
              simp only [Bool.and_self, Bool.or_true]; rfl
            · rw [if_neg (fun x => c0 x.2), j2 q s' hq hs']
              by_cases c1 : s' < s
              · rw [if_pos c1, if_pos (by omega)]
              · rw [if_neg c1]
                by_cases c2 : s' = s
                · subst c2
                  rw [if_pos (by omega), oJ_s ht, decide_eq_false (fun x => c0 (by rw [x])), Bool.false_and, Bool.or_false]
                · rw [if_neg (by omega)]
          · obtain ⟨j1, j2, f⟩ := hh
            refine w_M_foresees_59 ⟨fun _ => ?_, fun q => absurd (Int32.le_refl _) q⟩
            rw [oi_s]
            exact next1 τ ⟨j1, fun q s hq hs => by rw [j2 q s hq hs, if_pos hs], f⟩
        · obtain ⟨j1, j2, f⟩ := hh
          have mt := hmf τ f
          have bt := hbf τ f
          refine w_M_foresees_45 ?_
          simp only [mt.1, mt.f2, mt.t2, mt.l2, isr_ref, rv_ref, vs, ws, bt.2.1, true_and, forall_eq]
          refine ⟨fun _ => ?_, fun q => absurd (Int32.le_refl _) q⟩
          rw [ei2]
          refine next τ ⟨by omega, fun k' h1 h2 => ?_, f⟩
          by_cases ck : k' = k
          · rw [ck]
            intro q s hq hs
            rw [j2 q s hq hs, oJ_all, hd]; rfl
          · exact j1 k' (by omega) h2
        · rw [show 100 * (12 * k + q) + s = 1200 * k + (100 * q + s) by omega, j2 _ (by omega)]; rfl
    · refine w_M_foresees_25 ⟨fun _ => ⟨rfl, fun k hk => hh.2.1 k (Nat.zero_le _) hk, hh.2.2⟩, fun q => absurd ?_ q⟩
      decide
    · have ek : k' = (rTs r).length := by omega
      rw [ek, List.drop_length, show 100 * (12 * (rTs r).length + q) + s = 1200 * (rTs r).length + (100 * q + s) by omega, i1 _ (by omega)]; rfl
