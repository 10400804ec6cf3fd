/-! ===== the symbols that are put out ===== -/
def outT (r : Rl) (t s : Nat) : Bool := (List.range 100).any (fun u => en r u && decide (val t u = (s : Int)))
def outR (r : Rl) (s : Nat) : Bool := (List.range 100).any (fun u => en r u && (rTs r).any (fun t => decide (val t u = (s : Int))))
theorem any_take {α : Type} {p : α → Bool} {l : List α} {i : Nat} {x : α} (h : l[i]? = some x) : (l.take (i + 1)).any p = ((l.take i).any p || p x) := by
  rw [List.take_add_one, h]
  simp
theorem outT_iff {r : Rl} {t s : Nat} : outT r t s = true ↔ ∃ u, u < 100 ∧ en r u = true ∧ val t u = (s : Int) := by
  unfold outT
  simp only [List.any_eq_true, List.mem_range, Bool.and_eq_true, decide_eq_true_eq]
theorem outR_iff {r : Rl} {s : Nat} : outR r s = true ↔ ∃ u, u < 100 ∧ en r u = true ∧ ∃ t, t ∈ rTs r ∧ val t u = (s : Int) := by
  unfold outR
  simp only [List.any_eq_true, List.mem_range, Bool.and_eq_true, decide_eq_true_eq]
theorem outR_T {r : Rl} {s : Nat} : (rTs r).any (fun t => outT r t s) = outR r s := by
  rw [Bool.eq_iff_iff, outR_iff]
  simp only [List.any_eq_true, outT_iff]
  constructor
  · rintro ⟨t, ht, u, hu, he, hv⟩; exact ⟨u, hu, he, t, ht, hv⟩
  · rintro ⟨u, hu, he, t, ht, hv⟩; exact ⟨t, ht, u, hu, he, hv⟩
theorem outT_const {r : Rl} {t s : Nat} (hev : ever r = true) (ht : t < 100) : outT r t s = decide (t = s) := by
  rw [Bool.eq_iff_iff, outT_iff, decide_eq_true_eq]
  have hv : ∀ u : Int, val t u = t := fun u => by unfold val; rw [if_pos ht]
  constructor
  · rintro ⟨u, _, _, h⟩; rw [hv] at h; omega
  · intro h
    obtain ⟨u, hu, he⟩ := ever_iff.mp hev
    exact ⟨u, hu, he, by rw [hv]; omega⟩
theorem outT_off {r : Rl} {t s : Nat} (ht : 100 ≤ t) : outT r t s = (decide (0 ≤ (s : Int) - ((t : Int) - 1000) ∧ (s : Int) - ((t : Int) - 1000) < 100) && en r ((s : Int) - ((t : Int) - 1000)).toNat) := by
  have hv : ∀ u : Int, val t u = u + t - 1000 := fun u => by unfold val; rw [if_neg (by omega)]
  rw [Bool.eq_iff_iff, outT_iff, Bool.and_eq_true, decide_eq_true_eq]
  constructor
  · rintro ⟨u, hu, he, h⟩
    rw [hv] at h
    have : ((s : Int) - ((t : Int) - 1000)) = (u : Int) := by omega
    rw [this, nat_tn]
    exact ⟨by omega, he⟩
  · rintro ⟨h, he⟩
    refine ⟨_, ?_, he, ?_⟩
    · omega
    · rw [hv]; omega
def ouE (σ : pm_H) (o : Nat) : Prop := pm_t σ o = 4 ∧ pm_F σ 305 o = .ref (o + 7) ∧ pm_F σ 306 o = .ref (o + 8) ∧ pm_t σ (o + 7) = 9 ∧ pm_t σ (o + 8) = 9
def pOe (o b : Nat) : Prop := b = o + 7 ∨ b = o + 8
theorem ouE_fr {P : Nat → Prop} {σ σ' : pm_H} {o : Nat} (h : ouE σ o) (hf : fr P σ σ') (hp : ¬ P o) : ouE σ' o := by
  unfold ouE
  rw [hf.t, hf.t, hf.t, hf.F hp, hf.F hp]; exact h
theorem oi_s1000 (t : Int) : Int32.ofInt t - 1000 = Int32.ofInt (t - 1000) := oi_subl t 1000
theorem s_Ou_includeValues {σ : pm_H} {o ρ : Nat} {r : Rl} {lo hi : Int64} (ho : ouE σ o) (hr : isRu σ ρ r) (ok : okR r) (hev : ever r = true) (hf : aSy σ (o + 8) lo hi) (hg : okG hi) (hd : ρ + 3 ≤ o) : cV 3 28 [.ref o, .ref ρ] σ (fun σ' => fr (pOe o) σ σ' ∧ ∃ lo' hi', aSy σ' (o + 8) lo' hi' ∧ okG hi' ∧ ∀ s, s < 100 → sy lo' hi' s = (sy lo hi s || outR r s)) := by
  have hl6 := ok.2.2.2.1
  refine w_Ou_includeValues_0 ?_
  refine lp_up (fun i (_ : Int64 × Int64) => [.ref o, .ref ρ, .int (Int32.ofInt (i : Nat)), pm_U]) (fun i x τ => fr (pOe o) σ τ ∧ aSy τ (o + 8) x.1 x.2 ∧ okG x.2 ∧ ∀ s, s < 100 → sy x.1 x.2 s = (sy lo hi s || ((rTs r).take i).any (fun t => outT r t s))) (rTs r).length (fun i hi' x τ h next => ?_) (fun x τ h => ?_) 0 (Nat.zero_le _) (lo, hi) σ ⟨fr.rf, hf, hg, fun s hs => by simp⟩
  · have ht := List.getElem?_eq_getElem hi'
    generalize (rTs r)[i] = t at ht
    have okt : okT t := ok.2.2.2.2 t (List.mem_of_getElem? ht)
    have t5 : t < 100000 := by unfold okT at okt; omega
    have rk := isRu_fr hr h.1 (fun a ha => by unfold pRu at ha; unfold pOe; omega)
    have ho' := ouE_fr ho h.1 (by unfold pOe; omega)
    have q : ¬ Int32.ofInt ((rTs r).length : Int) ≤ Int32.ofInt (i : Int) := by rw [oi_le (by omega)]; omega
    have v6 := vi (show i < 6 by omega) (by omega)
    have c6 := vc (show i < 2000000 by omega)
    have at' := rk.2.2.2.2.2.2.2.2 i t ht
    refine w_Ou_includeValues_2 ?_
    simp only [rk.1.1, rk.2.2.2.1, rk.1.2.2.1, rk.1.2.2.2.2.1, rk.1.2.2.2.2.2, iv_int, isr_ref, rv_ref, v6, c6, at', q, not_false_eq_true, false_implies, true_implies, true_and, forall_eq]
    refine (s_offT ⟨by omega, by omega⟩).use (by omega) ⟨fun e => ?_, fun e => ?_⟩
    · rw [bI_0, decide_eq_false_iff_not] at e
      simp only [ho'.1, ho'.2.2.1, ho'.2.2.2.2, isr_ref, rv_ref, true_and, forall_eq]
      refine (s_include h.2.1).use (by omega) (fun τ' e' => ?_)
      rw [e', oi_s]
      refine next (_, _) _ ⟨h.1.tr (fr_uSy (Or.inr rfl)), aSy_u ho'.2.2.2.2, okG_or h.2.2.1 ?_, fun s hs => ?_⟩
      · intro j hj
        by_cases hj2 : j < 64
        · rw [oi_subl, bt_mB' (by omega) (by omega) hj2, decide_eq_false_iff_not]
          show ¬ ((t : Int) - 64 ≤ j ∧ (j : Int) ≤ (t : Int) - 64)
          omega
        · exact bt_ge _ (by omega)
      · rw [sy_or, sy_mB (by omega) (by omega) hs, h.2.2.2 s hs, any_take ht, outT_const hev (by omega), Bool.or_assoc]
        congr 2
        rw [decide_eq_decide]
        omega
    · rw [bI_1, decide_eq_true_eq] at e
      simp only [ho'.1, ho'.2.1, rk.1.1, isr_ref, rv_ref, true_and, forall_eq]
      refine (s_Ru_enabledInto rk ho'.2.2.2.1).use (by omega) (fun τ1 e1 => ?_)
      have f1 : fr (pOe o) σ τ1 := by rw [e1]; exact h.1.tr (fr_uSy (Or.inl rfl))
      have g1 : aSy τ1 (o + 7) (enLo r) (enHi r) := by rw [e1]; exact aSy_u ho'.2.2.2.1
      have k1 : aSy τ1 (o + 8) x.1 x.2 := by rw [e1]; exact aSy_fr h.2.1 (fr_uSy (P := fun b => b = o + 7) rfl) (by omega)
      have ho1 := ouE_fr ho f1 (by unfold pOe; omega)
      simp only [ho1.1, ho1.2.1, ho1.2.2.2.1, isr_ref, rv_ref, true_and, forall_eq, oi_s1000]
      refine (s_shift g1 (okG_en ok.2.2.1) (by rw [oi_to (by unfold okT at okt; omega)]; unfold okT at okt; omega)).use (by omega) (fun τ2 e2 => ?_)
      obtain ⟨l2, h2, e2, sh⟩ := e2
      rw [oi_to (by unfold okT at okt; omega)] at sh
      have f2 : fr (pOe o) σ τ2 := by rw [e2]; exact f1.tr (fr_uSy (Or.inl rfl))
      have g2 : aSy τ2 (o + 7) l2 h2 := by rw [e2]; exact aSy_u ho1.2.2.2.1
      have k2 : aSy τ2 (o + 8) x.1 x.2 := by rw [e2]; exact aSy_fr k1 (fr_uSy (P := fun b => b = o + 7) rfl) (by omega)
      have ho2 := ouE_fr ho f2 (by unfold pOe; omega)
      simp only [ho2.1, ho2.2.1, ho2.2.2.1, ho2.2.2.2.2, isr_ref, rv_ref, true_and, forall_eq]
      refine (s_include2 k2 g2).use (by omega) (fun τ3 e3 => ?_)
      rw [e3, oi_s]
      refine next (_, _) _ ⟨f2.tr (fr_uSy (Or.inr rfl)), aSy_u ho2.2.2.2.2, okG_or h.2.2.1 sh.1, fun s hs => ?_⟩
      rw [sy_or, h.2.2.2 s hs, any_take ht, outT_off (by omega), Bool.or_assoc, sh.2 s hs]
      congr 2
      by_cases hin : 0 ≤ (s : Int) - ((t : Int) - 1000) ∧ (s : Int) - ((t : Int) - 1000) < 100
      · rw [decide_eq_true hin, Bool.true_and, Bool.true_and, sy_en ok.ts (by omega)]
      · rw [decide_eq_false hin, Bool.false_and, Bool.false_and]
  · have rk := isRu_fr hr h.1 (fun a ha => by unfold pRu at ha; unfold pOe; omega)
    refine w_Ou_includeValues_2 ?_
    simp only [rk.1.1, rk.2.2.2.1, iv_int, true_and, forall_eq]
    refine ⟨fun _ => ⟨h.1, x.1, x.2, h.2.1, h.2.2.1, fun s hs => ?_⟩, fun q => absurd (Int32.le_refl _) q⟩
    rw [h.2.2.2 s hs, take_len, outR_T]
def outS (T : Tr) (s : Nat) : Bool := T.2.any (fun r => useful (itR T.2 11) (itW T.2 T.1 11) r && outR r s)
theorem useful_ever {R E : Nat} {r : Rl} (h : useful R E r = true) : ever r = true := by
  unfold useful at h
  simp only [Bool.and_eq_true] at h
  exact h.2.2
theorem s_Ou_countSymbols {σ : pm_H} {o a : Nat} {T : Tr} {π : Nat → Nat} (ho : ouE σ o) (h : isTr σ a T π) (hT : okTr T) (hd : a + 122 ≤ o) : cIP 5 27 [.ref o, .ref a] σ (Int32.ofInt ((cnt (outS T) 100 : Nat) : Int)) (fun σ' => fr (pOe o) σ σ') := by
  have hR := itR_lt hT.2 11
  have hE := itW_lt hT.2 hT.1 11
  have hl40 := h.2.2.2.2.1
  refine w_Ou_countSymbols_0 ⟨h.1.1, ?_⟩
  refine (s_Tr_reached h hT).use (by omega) ⟨h.1.1, ?_⟩
  refine (s_Tr_hopeful h hT).use (by omega) ?_
  simp only [ho.1, ho.2.2.1, ho.2.2.2.2, isr_ref, rv_ref, true_and, forall_eq]
  refine (s_clear ho.2.2.2.2).use (by omega) (fun σ0 e0 => ?_)
  refine lp_up (fun i (_ : Int64 × Int64) => [.ref o, .ref a, .int (Int32.ofInt ((itR T.2 11 : Nat) : Int)), .int (Int32.ofInt ((itW T.2 T.1 11 : Nat) : Int)), .int (Int32.ofInt (i : Nat)), pm_U]) (fun i x τ => fr (pOe o) σ τ ∧ aSy τ (o + 8) x.1 x.2 ∧ okG x.2 ∧ ∀ s, s < 100 → sy x.1 x.2 s = (T.2.take i).any (fun r => useful (itR T.2 11) (itW T.2 T.1 11) r && outR r s)) T.2.length (fun i hi' x τ hh next => ?_) (fun x τ hh => ?_) 0 (Nat.zero_le _) (0, 0) σ0 ⟨by rw [e0]; exact fr_uSy (Or.inr rfl), by rw [e0]; exact aSy_u ho.2.2.2.2, okG_0, fun s hs => by simp [(sy_z okG_0).mp ⟨rfl, rfl⟩ s hs]⟩
  · have hr := List.getElem?_eq_getElem hi'
    generalize T.2[i] = r at hr
    have ok := hT.at hr
    have ht := isTr_fr h hh.1 (fun b hb => by unfold pTr at hb; unfold pOe; omega)
    have ra := ht.at hr
    have ho' := ouE_fr ho hh.1 (by unfold pOe; omega)
    have hπ := (ht.2.1.1 i (by omega)).1
    have q : ¬ Int32.ofInt (T.2.length : Int) ≤ Int32.ofInt (i : Int) := by rw [oi_le (by omega)]; omega
    refine w_Ou_countSymbols_11 ?_
    simp only [ht.1.1, ht.1.2.1, ht.1.2.2.1, ht.1.2.2.2.1, ht.2.2.1, ra.1, ra.2.1, ra.2.2.1, isr_ref, rv_ref, q, not_false_eq_true, false_implies, true_implies, true_and, forall_eq]
    refine (s_Tr_isUseful ra.2.2.2 ok hR hE).use (by omega) ⟨fun e => ?_, fun e => ?_⟩
    · rw [bI_0] at e
      rw [oi_s]
      refine next x _ ⟨hh.1, hh.2.1, hh.2.2.1, fun s hs => ?_⟩
      rw [hh.2.2.2 s hs, any_take hr, e, Bool.false_and, Bool.or_false]
    · rw [bI_1] at e
      refine ⟨ho'.1, (s_Ou_includeValues ho' ra.2.2.2 ok (useful_ever e) hh.2.1 hh.2.2.1 (by omega)).use (by omega) (fun τ' e' => ?_)⟩
      obtain ⟨f', lo', hi2, a', g', s'⟩ := e'
      rw [oi_s]
      refine next (lo', hi2) _ ⟨hh.1.tr f', a', g', fun s hs => ?_⟩
      rw [s' s hs, hh.2.2.2 s hs, any_take hr, e, Bool.true_and]
  · have ht := isTr_fr h hh.1 (fun b hb => by unfold pTr at hb; unfold pOe; omega)
    have ho' := ouE_fr ho hh.1 (by unfold pOe; omega)
    refine w_Ou_countSymbols_11 ?_
    simp only [ht.1.1, ht.2.2.1, ho'.1, ho'.2.2.1, ho'.2.2.2.2, isr_ref, rv_ref, true_and, forall_eq]
    refine ⟨fun _ => (s_Sy_size hh.2.1 hh.2.2.1).use (by omega) ⟨?_, hh.1⟩, fun q => absurd (Int32.le_refl _) q⟩
    rw [cnt_ext (q := outS T) (fun s hs => by rw [hh.2.2.2 s hs, take_len, outS])]
