/-! ===== invert ===== -/
/-- the set of symbols for which something holds -/
def mkS (p : Nat → Bool) : Nat → Int64 × Int64
  | 0 => (0, 0)
  | n + 1 => if p n then (addLo (mkS p n).1 n, addHi (mkS p n).2 n) else mkS p n
theorem mkS_ok (p : Nat → Bool) : ∀ n, n ≤ 100 → okG (mkS p n).2 ∧ ∀ t, t < 100 → sy (mkS p n).1 (mkS p n).2 t = (decide (t < n) && p t) := by
  intro n
  induction n with
  | zero => intro _; exact ⟨okG_0, fun t ht => by rw [decide_eq_false (by omega), Bool.false_and]; exact (sy_z okG_0).mp ⟨rfl, rfl⟩ t ht⟩
  | succ n ih =>
    intro hn
    obtain ⟨h1, h2⟩ := ih (by omega)
    show okG (if p n then (addLo (mkS p n).1 n, addHi (mkS p n).2 n) else mkS p n).2 ∧ ∀ t, t < 100 → sy (if p n then (addLo (mkS p n).1 n, addHi (mkS p n).2 n) else mkS p n).1 (if p n then (addLo (mkS p n).1 n, addHi (mkS p n).2 n) else mkS p n).2 t = _
    cases e : p n with
    | true =>
      rw [if_pos rfl]
      refine ⟨okG_add h1 (by omega), fun t ht => ?_⟩
      rw [sy_add (by omega) ht, h2 t ht]
      by_cases c : t = n
      · rw [c, e, decide_eq_true (show n < n + 1 by omega), decide_eq_true rfl, Bool.or_true]; rfl
      · rw [decide_eq_false c, Bool.or_false]
        congr 1
        rw [decide_eq_decide]; omega
    | false =>
      rw [if_neg (by decide)]
      refine ⟨h1, fun t ht => ?_⟩
      rw [h2 t ht]
      by_cases c : t = n
      · rw [c, e, Bool.and_false, Bool.and_false]
      · congr 1
        rw [decide_eq_decide]; omega
def mk (p : Nat → Bool) : Int64 × Int64 := mkS p 100
theorem mk_g (p : Nat → Bool) : okG (mk p).2 := (mkS_ok p 100 (Nat.le_refl _)).1
theorem mk_s (p : Nat → Bool) {t : Nat} (ht : t < 100) : sy (mk p).1 (mk p).2 t = p t := by
  rw [mk, (mkS_ok p 100 (Nat.le_refl _)).2 t ht, decide_eq_true ht, Bool.true_and]
theorem mk_eq {p : Nat → Bool} {lo hi : Int64} (hg : okG hi) (h : ∀ t, t < 100 → sy lo hi t = p t) : lo = (mk p).1 ∧ hi = (mk p).2 :=
  sy_ext hg (mk_g p) (fun t ht => by rw [h t ht, mk_s p ht])
def isInv (r : Rl) : Bool := match rTs r with
  | [t] => decide (100 ≤ t)
  | _ => false
theorem isInv_iff {r : Rl} : isInv r = true ↔ ∃ t, rTs r = [t] ∧ 100 ≤ t := by
  unfold isInv
  split
  · rename_i t e
    rw [e, decide_eq_true_eq]
    exact ⟨fun h => ⟨t, rfl, h⟩, fun ⟨t', h1, h2⟩ => by cases h1; exact h2⟩
  · rename_i h
    exact ⟨fun q => (by cases q), fun ⟨t, h1, _⟩ => absurd h1 (h t)⟩
def rInv (r : Rl) : Rl := (rF r, rT r, (mk (outR r)).1, (mk (outR r)).2, (rTs r).map (fun t => 2000 - t))
def invs (rs : List Rl) : List Rl := (rs.filter ever).map rInv
theorem okR_inv {r : Rl} (ok : okR r) (hi : isInv r = true) : okR (rInv r) := by
  obtain ⟨t, e, ht⟩ := isInv_iff.mp hi
  refine ⟨ok.1, ok.2.1, mk_g _, ?_, fun u hu => ?_⟩
  · show ((rTs r).map _).length ≤ 6
    rw [e]; show 1 ≤ 6; decide
  · replace hu : u ∈ (rTs r).map (fun t => 2000 - t) := hu
    rw [e] at hu
    simp at hu
    have := ok.2.2.2.2 t (by rw [e]; simp)
    unfold okT at this ⊢
    omega
theorem invs_s {rs : List Rl} {i : Nat} {r : Rl} (h : rs[i]? = some r) : invs (rs.take (i + 1)) = if ever r then invs (rs.take i) ++ [rInv r] else invs (rs.take i) := by
  unfold invs
  rw [List.take_add_one, h]
  cases e : ever r <;> simp [e]
theorem invs_len (rs : List Rl) (i : Nat) : (invs (rs.take i)).length ≤ i := by
  unfold invs
  rw [List.length_map]
  have h1 := List.length_filter_le ever (rs.take i)
  rw [List.length_take] at h1
  omega
theorem invs_ok {T : Tr} (hT : okTr T) (h : ∀ r, r ∈ T.2 → isInv r = true) (i : Nat) : okTr (T.1, invs (T.2.take i)) := ⟨hT.1, fun r hr => by
  unfold invs at hr
  obtain ⟨r', h1, h2⟩ := List.mem_map.mp hr
  have hm := List.mem_of_mem_take (List.mem_filter.mp h1).1
  rw [← h2]; exact okR_inv (hT.2 r' hm) (h r' hm)⟩
theorem outR_1 {r : Rl} {t : Nat} (e : rTs r = [t]) (s : Nat) : outR r s = outT r t s := by
  rw [← outR_T, e]; simp
theorem s_Tr_clear0 {σ : pm_H} {a : Nat} {π : Nat → Nat} (h : isTr0 σ a π) : cV 0 95 [.ref a] σ (fun σ' => isTr σ' a (0, []) π ∧ fr (fun b => b = a) σ σ') := by
  obtain ⟨hS, hP⟩ := h
  refine w_Tr_clear_0 ?_
  simp only [hS.1, t_sF, true_and, forall_eq]
  have f : fr (fun b => b = a) σ (pm_sF (pm_sF σ 901 a (.int ((0 : Int32)))) 902 a (.int ((0 : Int32)))) := (fr_sF (P := fun b => b = a) rfl).tr (fr_sF (P := fun b => b = a) rfl)
  refine ⟨⟨⟨hS.1, ?_, hS.2.2.1, hS.2.2.2.1, fun k hk => ruS_fr (hS.2.2.2.2 k hk) f (by omega)⟩, hP, ?_, ?_, by decide, fun k r hk => ?_⟩, f⟩
  · simp only [F_sF, Nat.reduceEqDiff, false_and, if_false]; exact hS.2.1
  · simp only [F_sF, Nat.reduceEqDiff, false_and, if_false, and_self, if_true]; rfl
  · simp only [F_sF, and_self, if_true]; rfl
  · simp at hk
theorem x2000 {t : Nat} (h : t ≤ 2000) : (1000 : Int32) - (Int32.ofInt (t : Int) - 1000) = Int32.ofInt ((2000 - t : Nat) : Int) := by
  rw [oi_s1000, show (1000 : Int32) - Int32.ofInt ((t : Int) - 1000) = Int32.ofInt (1000 - ((t : Int) - 1000)) from oi_lsub _ 1000]
  congr 1; omega
theorem s_Tr_becomeInverse {σ : pm_H} {a b : Nat} {T : Tr} {π π' : Nat → Nat} (ha : isTr0 σ a π) (hb : isTr σ b T π') (hT : okTr T) (hi : ∀ r, r ∈ T.2 → isInv r = true) (hd : b + 122 ≤ a) : cV 5 108 [.ref a, .ref b] σ (fun σ' => isTr σ' a (T.1, invs T.2) π ∧ fr (pTr a) σ σ') := by
  have l40 := hb.2.2.2.2.1
  refine w_Tr_becomeInverse_0 ⟨ha.1.1, (s_Tr_clear0 ha).use (by omega) (fun σ1 p1 => ?_)⟩
  have hb1 := isTr_fr hb p1.2 (fun c hc => by unfold pTr at hc; omega)
  simp only [hb1.1.1, p1.1.1.1, hb1.2.2.2.1, true_and, forall_eq]
  have t2 := isTr_fin p1.1 T.1
  have f2 : fr (pTr a) σ (pm_sF σ1 902 a (.int (Int32.ofInt (T.1 : Int)))) := (p1.2.mono (fun c hc => by unfold pTr; omega)).tr (fr_sF (by unfold pTr; omega))
  refine lp (fun i => [.ref a, .ref b, .int (Int32.ofInt (i : Nat)), pm_U, pm_U, pm_U]) (fun i τ => isTr τ a (T.1, invs (T.2.take i)) π ∧ fr (pTr a) σ τ) T.2.length (fun i hi' τ hh next => ?_) (fun τ hh => ?_) 0 (Nat.zero_le _) _ ⟨t2, f2⟩
  · obtain ⟨ta, f⟩ := hh
    have tb := isTr_fr hb f (fun c hc => by unfold pTr at hc ⊢; omega)
    have hr := List.getElem?_eq_getElem hi'
    generalize T.2[i] = r at hr
    have ok := hT.at hr
    have ra := tb.at hr
    obtain ⟨t, et, ht100⟩ := isInv_iff.mp (hi r (List.mem_of_getElem? hr))
    have okt : okT t := ok.2.2.2.2 t (by rw [et]; simp)
    unfold okT at okt
    have hπ := (tb.2.1.1 i (by omega)).1
    have q6 : ¬ Int32.ofInt (T.2.length : Int) ≤ Int32.ofInt (i : Nat) := by rw [oi_le (by omega)]; omega
    have ll := invs_len T.2 i
    refine w_Tr_becomeInverse_8 ⟨tb.1.1, fun z ez => ⟨fun q => ?_, fun _ => ?_⟩⟩
    · rw [ez, tb.2.2.1] at q; exact absurd q q6
    simp only [tb.1.1, tb.1.2.1, tb.1.2.2.1, tb.1.2.2.2.1, ra.1, ra.2.1, ra.2.2.1, ra.2.2.2.1.1, isr_ref, rv_ref, true_and, forall_eq, oi_s]
    have es := invs_s hr
    refine gI (s_Ru_isEverEnabled ra.2.2.2 ok.2.2.1 ok.ts) (by omega) (fun e => ?_) (fun e => ?_)
    · rw [e] at es
      rw [if_neg (by decide)] at es
      exact next τ ⟨by rw [es]; exact ta, f⟩
    rw [e] at es
    rw [if_pos rfl] at es
    have ru := ra.2.2.2
    have hρ : b + 2 + 3 * π' i + 3 ≤ a := by omega
    generalize b + 2 + 3 * π' i = ρ at *
    have v06 : vp_in (0 : Int32) 6 := by rw [vp_in_iff]; decide
    have at0 := ru.2.2.2.2.2.2.2.2 0 t (by rw [et]; rfl)
    simp only [ru.1.1, ru.1.2.2.1, ru.1.2.2.2.2.1, ru.1.2.2.2.2.2, ru.2.1, ru.2.2.1, v06, c00, at0, ta.1.1, iv_int, isr_ref, rv_ref, true_and, forall_eq]
    have nl : (invs (T.2.take i)).length < 40 := by omega
    refine (s_Tr_append (x := rF r) (y := rT r) ta nl).use (by omega) (fun τ1 q1 => ?_)
    dsimp only at q1
    have hπ2 := (ta.2.1.1 _ nl).1
    have hk : (invs (T.2.take i) ++ [((rF r, rT r, 0, 0, []) : Rl)])[(invs (T.2.take i)).length]? = some (rF r, rT r, 0, 0, []) := by simp
    have rb := (q1.1.at hk).2.2.2
    have ru1 := isRu_fr ru q1.2 (fun c hc => by unfold pRu at hc; unfold pTr; omega)
    dsimp only
    simp only [rb.1.1, rb.1.2.1, rb.1.2.2.2.1, ru1.1.1, isr_ref, rv_ref, true_and, forall_eq]
    refine (s_Ru_enabledInto ru1 rb.1.2.2.2.1).use (by omega) (fun τ2 e2 => ?_)
    have g2 := isRu_guard rb (enLo r) (enHi r)
    rw [← show τ2 = uSy τ1 (a + 2 + 3 * π (invs (T.2.take i)).length + 1) (enLo r) (enHi r) from e2] at g2
    simp only [g2.1.1.1, g2.1.1.2.1, g2.1.1.2.2.2.1, isr_ref, rv_ref, true_and, forall_eq, oi_s1000]
    refine (s_shift g2.1.g (okG_en ok.2.2.1) (by rw [oi_to (by omega)]; omega)).use (by omega) (fun τ3 e3 => ?_)
    obtain ⟨l3, h3, e3, sh⟩ := e3
    rw [oi_to (by omega)] at sh
    have g3 := isRu_guard g2.1 l3 h3
    rw [← show τ3 = uSy τ2 (a + 2 + 3 * π (invs (T.2.take i)).length + 1) l3 h3 from e3] at g3
    refine ⟨g3.1.1.1, ?_⟩
    have ex : (1000 : Int32) - Int32.ofInt ((t : Int) - 1000) = Int32.ofInt ((2000 - t : Nat) : Int) := by
      rw [← oi_s1000]; exact x2000 (by omega)
    rw [ex]
    refine (s_Ru_append g3.1 (show 0 < 6 by decide) (by omega) (fun u hu => by cases hu)).use (by omega) (fun τ4 q4 => ?_)
    have bits := mk_eq (p := outR r) sh.1 (fun s hs => by
      rw [sh.2 s hs, outR_1 et, outT_off ht100]
      by_cases hin : 0 ≤ (s : Int) - ((t : Int) - 1000) ∧ (s : Int) - ((t : Int) - 1000) < 100
      · rw [decide_eq_true hin, Bool.true_and, Bool.true_and]
        exact sy_en ok.ts (by omega)
      · rw [decide_eq_false hin, Bool.false_and, Bool.false_and])
    have er : rApp (rG (rG (rF r, rT r, 0, 0, []) (enLo r) (enHi r)) l3 h3) (2000 - t) = rInv r := by
      unfold rInv
      rw [bits.1, bits.2, et]
      rfl
    have t4 := isTr_upd q1.1 (k := (invs (T.2.take i)).length) (by simp) ((g2.2.tr g3.2).tr q4.2) q4.1
    rw [er] at t4
    dsimp only at t4
    rw [mid_set rfl] at t4
    refine next τ4 ⟨by rw [es]; exact t4, f.tr (q1.2.tr (((g2.2.tr g3.2).tr q4.2).mono (fun c hc => by unfold pRu at hc; unfold pTr; omega)))⟩
  · obtain ⟨ta, f⟩ := hh
    have tb := isTr_fr hb f (fun c hc => by unfold pTr at hc ⊢; omega)
    rw [List.take_length] at ta
    refine w_Tr_becomeInverse_8 ⟨tb.1.1, fun z ez => ⟨fun _ => ⟨rfl, ta, f⟩, fun q => ?_⟩⟩
    rw [ez, tb.2.2.1] at q; exact absurd (Int32.le_refl _) q
