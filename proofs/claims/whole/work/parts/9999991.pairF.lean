/-! ===== pairs are followed ===== -/
def prS (S S' : List Ent) : Prop := ∃ R, S' = S ++ R
theorem prS.rf {S : List Ent} : prS S S := ⟨[], (List.append_nil S).symm⟩
theorem prS.tr {S S1 S2 : List Ent} (h : prS S S1) (g : prS S1 S2) : prS S S2 := by
  obtain ⟨R, rfl⟩ := h
  obtain ⟨R', rfl⟩ := g
  exact ⟨R ++ R', List.append_assoc ..⟩
theorem prS.mem {S S' : List Ent} (h : prS S S') : ∀ e, e ∈ S → e ∈ S' := by
  obtain ⟨R, rfl⟩ := h
  exact fun e he => List.mem_append_left _ he
theorem prS.at {S S' : List Ent} {i : Nat} {e : Ent} (h : prS S S') (he : S[i]? = some e) : S'[i]? = some e := by
  obtain ⟨R, rfl⟩ := h
  rw [List.getElem?_append_left (List.getElem?_eq_some_iff.mp he).1]; exact he
theorem prS.len {S S' : List Ent} (h : prS S S') : S.length ≤ S'.length := by
  obtain ⟨R, rfl⟩ := h
  rw [List.length_append]; omega
def I0 (A B : Tr) (e N0 : Nat) (H : Nat → Bool) (k0 : Nat) (σ0 : pm_H) (S : List Ent) (τ : pm_H) : Prop := okS A B S ∧ finS A B S ∧ ∃ p k, paS τ e N0 p k H S ∧ gr e N0 k0 k σ0 τ
def folQ (A B : Tr) (e N0 : Nat) (H : Nat → Bool) (k0 : Nat) (σ0 : pm_H) (S : List Ent) (dn : List Ent → Prop) (o : pm_O) (σ' : pm_H) : Prop := ∃ b, o = .inl (some (.int (bI b))) ∧ (b = true → ∃ S', I0 A B e N0 H k0 σ0 S' σ' ∧ prS S S' ∧ dn S') ∧ (b = false → (¬ ∃ D, Cons A B D) ∧ ∃ p k, pcZ σ' e ∧ paP σ' e N0 p k ∧ gr e N0 k0 k σ0 σ')
theorem s_Pa_followRules {σ0 σ : pm_H} {A B : Tr} {e N0 ta tb ρ ρ' k0 i x : Nat} {πa πb : Nat → Nat} {H : Nat → Bool} {S : List Ent} {u v : List Nat} {r t : Rl} (hN : e + 9 ≤ N0) (hn0 : N0 ≤ pm_n σ0) (ha : isTr σ0 ta A πa) (hb : isTr σ0 tb B πb) (kA : okTr A) (kB : okTr B) (da : ta + 122 ≤ e) (db : tb + 122 ≤ e) (hH : isHop A B H) (hI : I0 A B e N0 H k0 σ0 S σ) (hi : S[i]? = some (x, u, v)) (hr : isRu σ0 ρ r) (ht : isRu σ0 ρ' t) (dr : ρ + 3 ≤ e) (dt : ρ' + 3 ≤ e) (mr : r ∈ A.2) (mt : t ∈ B.2) (hx : 12 * rF r + rF t = x) : pm_C 3 35 [.ref e, .ref ta, .ref tb, .ref ρ, .ref ρ'] σ (folQ A B e N0 H k0 σ0 S (fun S' => ∀ s, s < 100 → stpS A B S' u v r t s)) := by
  have o1 := kA.2 r mr
  have o2 := kB.2 t mt
  have x1 := o1.1
  have x2 := o1.2.1
  have x3 := o2.1
  have x4 := o2.2.1
  have lr := o1.2.2.2.1
  have lt := o2.2.2.2.1
  obtain ⟨ok, fin, p, k, hs, hg⟩ := hI
  have hz := hs.1
  have aσ := hg.Tr ha da hN
  have bσ := hg.Tr hb db hN
  have rσ := hg.Ru hr dr hN
  have tσ := hg.Ru ht dt hN
  have g144 : 12 * rT r + rT t < 144 := by omega
  have vg := vi g144 (by omega)
  have wg := vc (show 12 * rT r + rT t < 2000000 by omega)
  have stop : (Hop A B (12 * rT r + rT t) → both r t = true → False) → folQ A B e N0 H k0 σ0 S (fun S' => ∀ s, s < 100 → stpS A B S' u v r t s) (.inl (some (.int ((1 : Int32))))) σ := fun no => ⟨true, rfl, fun _ => ⟨S, ⟨ok, fin, p, k, hs, hg⟩, prS.rf, fun s hs' e1 e2 hh => (no hh (both_iff.mpr ⟨s, hs', e1, e2⟩)).elim⟩, fun q => (by cases q)⟩
  refine w_Pa_followRules_0 (rdF rσ.1.1 (ivo rσ.2.1) (rdF tσ.1.1 (ivo tσ.2.1) (rdF rσ.1.1 (ivo rσ.2.2.1) (rdF tσ.1.1 (ivo tσ.2.2.1) (rdR hz.t0 hz.f400 ?_)))))
  rw [oi_12, oi_12, hx]
  refine gA hz.t1 hz.l1 vg wg (hs.2.2.1 _ g144) ?_
  rw [bI_0]
  refine ⟨fun c => ⟨rfl, stop (fun hh _ => ?_)⟩, fun c => ⟨rσ.1.1, ?_⟩⟩
  · rw [(hH _ g144).mpr hh] at c; cases c
  rw [Bool.not_eq_false] at c
  have hop := (hH _ g144).mp c
  refine gI (s_Ru_isEnabledWith rσ tσ o1.2.2.1 o1.ts o2.ts) (by omega) (fun c2 => ⟨rfl, stop (fun _ q => by rw [c2] at q; cases q)⟩) (fun c2 => ?_)
  refine (s_Pa_isFinalPair aσ kA bσ kB g144).use (by omega) ?_
  refine lp_up (fun s (_ : List Ent) => [.ref e, pm_U, pm_U, .ref ρ, .ref ρ', .int (Int32.ofInt (x : Int)), .int (Int32.ofInt ((12 * rT r + rT t : Nat) : Int)), .int (bI (finP A B (12 * rT r + rT t))), .int (Int32.ofInt (s : Nat))]) (fun s S1 τ => I0 A B e N0 H k0 σ0 S1 τ ∧ prS S S1 ∧ ∀ s', s' < s → stpS A B S1 u v r t s') 100 (fun s hs S1 τ hh next => ?_) (fun S1 τ hh => ?_) 0 (Nat.zero_le _) S σ ⟨⟨ok, fin, p, k, hs, hg⟩, prS.rf, fun s' h => absurd h (by omega)⟩
  · obtain ⟨⟨ok, fin, p, k, hs1, hg⟩, hp, hd⟩ := hh
    have hz := hs1.1
    have rτ := hg.Ru hr dr hN
    have tτ := hg.Ru ht dt hN
    have hn : N0 ≤ pm_n τ := Nat.le_trans hn0 hg.2.1
    have same : (en r s = true → en t s = true → False) → pm_R 3 35 34 [.ref e, pm_U, pm_U, .ref ρ, .ref ρ', .int (Int32.ofInt (x : Int)), .int (Int32.ofInt ((12 * rT r + rT t : Nat) : Int)), .int (bI (finP A B (12 * rT r + rT t))), .int (Int32.ofInt ((s + 1 : Nat) : Int))] [] τ (folQ A B e N0 H k0 σ0 S (fun S' => ∀ s, s < 100 → stpS A B S' u v r t s)) := fun no => next S1 τ ⟨⟨ok, fin, p, k, hs1, hg⟩, hp, fun s' h => by
      by_cases c : s' = s
      · rw [c]; exact fun e1 e2 => (no e1 e2).elim
      · exact hd s' (by omega)⟩
    refine w_Pa_followRules_34 ⟨fun q => ?_, fun _ => ⟨rτ.1.1, ?_⟩⟩
    · rw [i32_100 (by omega)] at q; omega
    rw [oi_s]
    refine gI (s_Ru_isEnabled rτ o1.ts hs) (by omega) (fun e1 => same (fun q => by rw [e1] at q; cases q)) (fun e1 => ⟨tτ.1.1, ?_⟩)
    refine gI (s_Ru_isEnabled tτ o2.ts hs) (by omega) (fun e2 => same (fun _ q => by rw [e2] at q; cases q)) (fun e2 => ⟨hz.t0, ?_⟩)
    have hi1 := hp.at hi
    have il := (List.getElem?_eq_some_iff.mp hi1).1
    have l144 := okS_len ok
    obtain ⟨b1, b2, b3, b4, b5⟩ := ok.1 i x u v hi1
    obtain ⟨q, h2, h3, h4, h5⟩ := hs1.2.2.2.2.1
    have ent := (h5 i x u v hi1).2
    refine (s_Pa_loadAhead hz hs1.2.1 hN ent h4 b1 (by omega) b3).use (by omega) (fun σ3 p3 => ⟨(p3.2.z hz).t0, ?_⟩)
    refine (s_Pa_appendOutputs (p3.2.z hz) p3.1 (isRu_fr rτ p3.2.1 (fun b hb => by unfold pRu at hb; omega)) (isRu_fr tτ p3.2.1 (fun b hb => by unfold pRu at hb; omega)) o1 o2 hs e1 e2 dr dt (by omega) (by omega)).use (by omega) (fun σ4 p4 => ⟨(p4.2.z (p3.2.z hz)).t0, ?_⟩)
    have f4 := p3.2.tr p4.2
    have lu : (u ++ outW r s).length ≤ 864 := by rw [List.length_append, outW_len]; omega
    have lv : (v ++ outW t s).length ≤ 864 := by rw [List.length_append, outW_len]; omega
    have cu : ∀ c, c ∈ u ++ outW r s → c < 100 := fun c hc => by
      rcases List.mem_append.mp hc with w | w
      · exact b4 c w
      · exact outW_lt e1 w
    have cv : ∀ c, c ∈ v ++ outW t s → c < 100 := fun c hc => by
      rcases List.mem_append.mp hc with w | w
      · exact b5 c w
      · exact outW_lt e2 w
    have s4 := f4.S hN hs1
    have g4 := hg.tr (gr_fs (N0 := N0) (k := k) f4)
    refine pm_C_mono (pm_C_up (s_Pa_isFitting (A := A) (B := B) hN (by rw [f4.1.n]; exact hn) s4 p4.1 g144 ok lu lv cu cv) (by omega)) (fun o σ' h => ?_)
    obtain ⟨b, rfl, tr, fa⟩ := h
    cases b with
    | false =>
      obtain ⟨rfl, bad⟩ := fa rfl
      exact kI_B ⟨fun _ => ⟨rfl, false, rfl, fun q => (by cases q), fun _ => ⟨noCons kA kB ok hi1 mr mt hs hx e1 e2 hop bad, p, k, s4.1, s4.2.1, g4⟩⟩, fun q => absurd rfl q⟩
    | true =>
      obtain ⟨w, mw, ew, p', k', g5, alt⟩ := tr rfl
      refine kI_B ⟨fun q => absurd q (by decide), fun _ => ?_⟩
      rcases alt with ⟨_, mem, s5⟩ | ⟨nk, s5⟩
      · refine next S1 σ' ⟨⟨ok, fin, p', k', s5, g4.tr g5⟩, hp, fun s' h => ?_⟩
        by_cases c : s' = s
        · rw [c]; exact fun _ _ _ => ⟨w, mw, mem⟩
        · exact hd s' (by omega)
      · have pr : prS S1 (S1 ++ [(12 * rT r + rT t, w)]) := ⟨_, rfl⟩
        refine next (S1 ++ [(12 * rT r + rT t, w)]) σ' ⟨⟨okS_app kA kB ok hi1 mr mt hs hx e1 e2 hop mw nk, fun x' u' v' hm hf => ?_, p', k', s5, g4.tr g5⟩, hp.tr pr, fun s' h => ?_⟩
        · rcases List.mem_append.mp hm with c | c
          · exact fin x' u' v' c hf
          · have c := List.mem_singleton.mp c
            have q1 : x' = 12 * rT r + rT t := congrArg (fun z : Ent => z.1) c
            have q2 : (u', v') = w := congrArg (fun z : Ent => z.2) c
            rw [q1] at hf
            rw [ew hf] at q2
            exact ⟨congrArg (fun z => z.1) q2, congrArg (fun z => z.2) q2⟩
        · by_cases c : s' = s
          · rw [c]; exact fun _ _ _ => ⟨w, mw, by simp⟩
          · exact (hd s' (by omega)).up pr.mem
  · obtain ⟨hI, hp, hd⟩ := hh
    exact w_Pa_followRules_34 ⟨fun _ => ⟨rfl, true, rfl, fun _ => ⟨S1, hI, hp, hd⟩, fun q => (by cases q)⟩, fun q => absurd (Int32.le_refl _) q⟩
theorem s_Pa_follow {σ0 σ : pm_H} {A B : Tr} {e N0 ta tb k0 i x : Nat} {πa πb : Nat → Nat} {H : Nat → Bool} {S : List Ent} {u v : List Nat} (hN : e + 9 ≤ N0) (hn0 : N0 ≤ pm_n σ0) (ha : isTr σ0 ta A πa) (hb : isTr σ0 tb B πb) (kA : okTr A) (kB : okTr B) (da : ta + 122 ≤ e) (db : tb + 122 ≤ e) (hH : isHop A B H) (hI : I0 A B e N0 H k0 σ0 S σ) (hi : S[i]? = some (x, u, v)) : pm_C 4 34 [.ref e, .ref ta, .ref tb, .int (Int32.ofInt (x : Int))] σ (folQ A B e N0 H k0 σ0 S (fun S' => ∀ r t s, r ∈ A.2 → t ∈ B.2 → s < 100 → 12 * rF r + rF t = x → stpS A B S' u v r t s)) := by
  have al40 := ha.2.2.2.2.1
  have bl40 := hb.2.2.2.2.1
  have x144 := (hI.1.1 i x u v hi).1
  refine w_Pa_follow_0 ?_
  refine lp_up (fun a (_ : List Ent) => [.ref e, .ref ta, .ref tb, .int (Int32.ofInt (x : Int)), .int (Int32.ofInt (a : Nat)), pm_U, pm_U, pm_U, pm_U]) (fun a S1 τ => I0 A B e N0 H k0 σ0 S1 τ ∧ prS S S1 ∧ ∀ a', a' < a → ∀ r, A.2[a']? = some r → ∀ t s, t ∈ B.2 → s < 100 → 12 * rF r + rF t = x → stpS A B S1 u v r t s) A.2.length (fun a ha' S1 τ hh next => ?_) (fun S1 τ hh => ?_) 0 (Nat.zero_le _) S σ ⟨hI, prS.rf, fun a' h => absurd h (by omega)⟩
  · obtain ⟨hI, hp, hd⟩ := hh
    have hI' := hI
    obtain ⟨_, _, _, _, _, hg⟩ := hI'
    have aτ := hg.Tr ha da hN
    have q7 : ¬ Int32.ofInt (A.2.length : Int) ≤ Int32.ofInt (a : Nat) := by rw [oi_le (by omega)]; omega
    refine w_Pa_follow_2 (rdF aτ.1.1 aτ.2.2.1 ⟨fun q => absurd q q7, fun _ => ?_⟩)
    have hr := List.getElem?_eq_getElem ha'
    generalize A.2[a] = r at hr
    have mr := List.mem_of_getElem? hr
    refine lp_up (fun b (_ : List Ent) => [.ref e, .ref ta, .ref tb, .int (Int32.ofInt (x : Int)), .int (Int32.ofInt (a : Nat)), .int (Int32.ofInt (b : Nat)), pm_U, pm_U, pm_U]) (fun b S1 τ => I0 A B e N0 H k0 σ0 S1 τ ∧ prS S S1 ∧ (∀ a', a' < a → ∀ r, A.2[a']? = some r → ∀ t s, t ∈ B.2 → s < 100 → 12 * rF r + rF t = x → stpS A B S1 u v r t s) ∧ ∀ b', b' < b → ∀ t, B.2[b']? = some t → ∀ s, s < 100 → 12 * rF r + rF t = x → stpS A B S1 u v r t s) B.2.length (fun b hb' S1 τ hh next2 => ?_) (fun S1 τ hh => ?_) 0 (Nat.zero_le _) S1 τ ⟨hI, hp, hd, fun b' h => absurd h (by omega)⟩
    · obtain ⟨hI, hp, hd, hd2⟩ := hh
      have hI' := hI
      obtain ⟨_, _, p, k, hs, hg⟩ := hI'
      have aτ := hg.Tr ha da hN
      have bτ := hg.Tr hb db hN
      have q8 : ¬ Int32.ofInt (B.2.length : Int) ≤ Int32.ofInt (b : Nat) := by rw [oi_le (by omega)]; omega
      have ht := List.getElem?_eq_getElem hb'
      generalize B.2[b] = t at ht
      have mt := List.mem_of_getElem? ht
      have atr := aτ.at hr
      have btr := bτ.at ht
      have πa1 := (aτ.2.1.1 a (by omega)).1
      have πb1 := (bτ.2.1.1 b (by omega)).1
      have o1 := kA.2 r mr
      have o2 := kB.2 t mt
      have x1 := o1.1
      have x3 := o2.1
      refine w_Pa_follow_8 (rdF bτ.1.1 bτ.2.2.1 ⟨fun q => absurd q q8, fun _ => ?_⟩)
      refine rdR aτ.1.1 aτ.1.2.1 (gAr aτ.1.2.2.1 aτ.1.2.2.2.1 atr.1 atr.2.1 atr.2.2.1 (rdR bτ.1.1 bτ.1.2.1 (gAr bτ.1.2.2.1 bτ.1.2.2.2.1 btr.1 btr.2.1 btr.2.2.1 (rdF atr.2.2.2.1.1 (ivo atr.2.2.2.2.1) (rdF btr.2.2.2.1.1 (ivo btr.2.2.2.2.1) ?_)))))
      rw [oi_12, oi_eq (by omega)]
      refine ⟨fun c => w_Pa_follow_34 ⟨fun q => absurd q (by decide), fun _ => ⟨hs.1.t0, ?_⟩⟩, fun c => w_Pa_follow_34 ⟨fun _ => ?_, fun q => absurd rfl q⟩⟩
      · rw [oi_s]
        have c' : 12 * rF r + rF t = x := by omega
        have r0 := (ha.at hr).2.2.2
        have t0 := (hb.at ht).2.2.2
        have πa0 := (ha.2.1.1 a (by omega))
        have πb0 := (hb.2.1.1 b (by omega))
        have ea : πa a = πa a := rfl
        refine pm_C_mono (pm_C_up (s_Pa_followRules hN hn0 ha hb kA kB da db hH hI (hp.at hi) r0 t0 (by omega) (by omega) mr mt c') (by omega)) (fun o σ' h => ?_)
        obtain ⟨bb, rfl, tr, fa⟩ := h
        cases bb with
        | false => exact kI_B ⟨fun _ => ⟨rfl, false, rfl, fun q => (by cases q), fun _ => fa rfl⟩, fun q => absurd rfl q⟩
        | true =>
          obtain ⟨S2, hI2, hp2, hd3⟩ := tr rfl
          refine kI_B ⟨fun q => absurd q (by decide), fun _ => next2 S2 σ' ⟨hI2, hp.tr hp2, fun a' h r' hr' t' s' ht' hs' hx' => (hd a' h r' hr' t' s' ht' hs' hx').up hp2.mem, fun b' h t' ht' s' hs' hx' => ?_⟩⟩
          by_cases c : b' = b
          · rw [c, ht] at ht'
            cases ht'
            exact hd3 s' hs'
          · exact (hd2 b' (by omega) t' ht' s' hs' hx').up hp2.mem
      · rw [oi_s]
        refine next2 S1 τ ⟨hI, hp, hd, fun b' h t' ht' s' hs' hx' => ?_⟩
        by_cases c0 : b' = b
        · rw [c0, ht] at ht'
          cases ht'
          omega
        · exact hd2 b' (by omega) t' ht' s' hs' hx'
    · obtain ⟨hI, hp, hd, hd2⟩ := hh
      have hI' := hI
      obtain ⟨_, _, _, _, _, hg⟩ := hI'
      have bτ := hg.Tr hb db hN
      refine w_Pa_follow_8 (rdF bτ.1.1 bτ.2.2.1 ⟨fun _ => ?_, fun q => absurd (Int32.le_refl _) q⟩)
      rw [oi_s]
      refine next S1 τ ⟨hI, hp, fun a' h r' hr' t' s' ht' hs' hx' => ?_⟩
      by_cases c : a' = a
      · rw [c, hr] at hr'
        cases hr'
        obtain ⟨b', hb'⟩ := List.mem_iff_getElem?.mp ht'
        exact hd2 b' (List.getElem?_eq_some_iff.mp hb').1 t' hb' s' hs' hx'
      · exact hd a' (by omega) r' hr' t' s' ht' hs' hx'
  · obtain ⟨hI, hp, hd⟩ := hh
    have hI' := hI
    obtain ⟨_, _, _, _, _, hg⟩ := hI'
    have aτ := hg.Tr ha da hN
    refine w_Pa_follow_2 (rdF aτ.1.1 aτ.2.2.1 ⟨fun _ => ⟨rfl, true, rfl, fun _ => ⟨S1, hI, hp, fun r t s mr mt hs hx => ?_⟩, fun q => (by cases q)⟩, fun q => absurd (Int32.le_refl _) q⟩)
    obtain ⟨a', ha'⟩ := List.mem_iff_getElem?.mp mr
    exact hd a' (List.getElem?_eq_some_iff.mp ha').1 r ha' t s mt hs hx
theorem nb_b (b : Bool) : vp_nar .boolean (bI b) = bI b := by cases b <;> decide
def agQ (A B : Tr) (e N0 k : Nat) (σ : pm_H) (o : pm_O) (σ' : pm_H) : Prop := o = .inl (some (.int (bI (agB A B)))) ∧ ∃ p k', pcZ σ' e ∧ paP σ' e N0 p k' ∧ gr e N0 k k' σ σ'
theorem s_Pa_isAgreed {σ : pm_H} {A B : Tr} {e N0 ta tb p0 k0 : Nat} {πa πb : Nat → Nat} (hN : e + 9 ≤ N0) (hn0 : N0 ≤ pm_n σ) (hz : pcZ σ e) (hp : paP σ e N0 p0 k0) (ha : isTr σ ta A πa) (hb : isTr σ tb B πb) (kA : okTr A) (kB : okTr B) (da : ta + 122 ≤ e) (db : tb + 122 ≤ e) : pm_C 5 30 [.ref e, .ref ta, .ref tb] σ (agQ A B e N0 k0 σ) := by
  have hPa : isPa σ e N0 := isPa_iff.mpr ⟨hz, p0, k0, hp⟩
  have pn := hp.ne hN
  refine w_Pa_isAgreed_0 ?_
  refine lp (fun i => [.ref e, .ref ta, .ref tb, .int (Int32.ofInt (i : Nat))]) (fun i τ => fr (fun b => b = e + 1 ∨ b = e + 2) σ τ ∧ ∀ x, x < i → iv (pm_A τ (e + 1) x) = bI (finP A B x) ∧ iv (pm_A τ (e + 2) x) = 0) 144 (fun i hi τ hh next => ?_) (fun τ hh => ?_) 0 (Nat.zero_le _) σ ⟨fr.rf, fun x h => absurd h (by omega)⟩
  · obtain ⟨f, hd⟩ := hh
    have aτ := isTr_fr ha f (fun b hb => by unfold pTr at hb; omega)
    have bτ := isTr_fr hb f (fun b hb => by unfold pTr at hb; omega)
    have vi' := vi hi (by omega)
    have wi := vc (show i < 2000000 by omega)
    refine w_Pa_isAgreed_2 ⟨fun q => ?_, fun _ => ?_⟩
    · rw [z_144le (by omega)] at q; omega
    refine rdR (by rw [f.t]; exact hz.t0) (by rw [f.F (by omega)]; exact hz.f401) (wA (by rw [f.t]; exact hz.t2) (by rw [f.l]; exact hz.l2) vi' wi (fun σ2 e2 => ?_))
    have f2 : fr (fun b => b = e + 1 ∨ b = e + 2) σ σ2 := f.tr (by rw [e2]; exact fr_sA (Or.inr rfl))
    refine rdR (by rw [f2.t]; exact hz.t0) (by rw [f2.F (by omega)]; exact hz.f400) ?_
    refine (s_Pa_isFinalPair (isTr_fr ha f2 (fun b hb => by unfold pTr at hb; omega)) kA (isTr_fr hb f2 (fun b hb => by unfold pTr at hb; omega)) kB hi).use (by omega) ?_
    refine wA (by rw [f2.t]; exact hz.t1) (by rw [f2.l]; exact hz.l1) vi' wi (fun σ5 e5 => ?_)
    rw [oi_s]
    rw [nb_b] at e5
    refine next σ5 ⟨f2.tr (by rw [e5]; exact fr_sA (Or.inl rfl)), fun x hx => ?_⟩
    rw [e5, A_sA, A_sA, e2, A_sA, A_sA]
    by_cases c : x = i
    · rw [if_pos ⟨rfl, c⟩, if_neg (by omega), if_pos ⟨rfl, c⟩, c]
      exact ⟨rfl, by rw [iv_int]; decide⟩
    · rw [if_neg (fun q => c q.2), if_neg (by omega), if_neg (by omega), if_neg (fun q => c q.2)]
      exact hd x (by omega)
  · obtain ⟨f, hd⟩ := hh
    have aτ := isTr_fr ha f (fun b hb => by unfold pTr at hb; omega)
    have bτ := isTr_fr hb f (fun b hb => by unfold pTr at hb; omega)
    refine w_Pa_isAgreed_2 ⟨fun _ => ⟨by rw [f.t]; exact hz.t0, ?_⟩, fun q => absurd (Int32.le_refl _) q⟩
    refine (s_Pa_findHopeful (H := finP A B) (isPa_fr hPa f (by omega)) aτ kA bτ kB (fun x hx => (hd x hx).1) da db).use (by omega) (fun σ1 p1 => ?_)
    obtain ⟨hT1, f1'⟩ := p1
    have f1 : fr (fun b => b = e + 1 ∨ b = e + 2) σ σ1 := f.tr (f1'.mono (fun b hb => Or.inl hb))
    have hH : isHop A B (hopN A B 144 (finP A B)) := hopN_ok kA kB 144 _ (by omega) (fun _ _ h => h) (fun x hx h H' hc => hc.1 x hx h)
    generalize hopN A B 144 (finP A B) = H at hT1 hH
    refine wF (by rw [f1.t]; exact hz.t0) (fun σ2 e2 => wF (by rw [e2, t_sF, f1.t]; exact hz.t0) (fun σ3 e3 => wF (by rw [e3, t_sF, e2, t_sF, f1.t]; exact hz.t0) (fun σ4 e4 => wF (by rw [e4, t_sF, e3, t_sF, e2, t_sF, f1.t]; exact hz.t0) (fun σ5 e5 => ?_))))
    have F5 : ∀ g a, ¬ (g = 403 ∧ a = e) → ¬ (g = 407 ∧ a = e) → ¬ (g = 410 ∧ a = e) → ¬ (g = 411 ∧ a = e) → pm_F σ5 g a = pm_F σ1 g a := fun g a h1 h2 h3 h4 => by
      rw [e5, F_sF, if_neg h4, e4, F_sF, if_neg h3, e3, F_sF, if_neg h2, e2, F_sF, if_neg h1]
    have A5 : ∀ a j, pm_A σ5 a j = pm_A σ1 a j := fun a j => by rw [e5, A_sF, e4, A_sF, e3, A_sF, e2, A_sF]
    have f5 : fr (fun b => b = e ∨ b = e + 1 ∨ b = e + 2) σ σ5 := by
      refine (f1.mono (fun b hb => Or.inr hb)).tr ?_
      rw [e5, e4, e3, e2]
      exact (((fr_sF (Or.inl rfl)).tr (fr_sF (Or.inl rfl))).tr (fr_sF (Or.inl rfl))).tr (fr_sF (Or.inl rfl))
    have FF : ∀ g, g ≠ 403 → g ≠ 407 → g ≠ 410 → g ≠ 411 → pm_F σ5 g e = pm_F σ g e := fun g h1 h2 h3 h4 => by
      rw [F5 g e (fun q => h1 q.1) (fun q => h2 q.1) (fun q => h3 q.1) (fun q => h4 q.1), f1.F (by omega)]
    have z5 : pcZ σ5 e := by
      unfold pcZ
      simp only [f5.t, f5.l, FF 400 (by omega) (by omega) (by omega) (by omega), FF 401 (by omega) (by omega) (by omega) (by omega), FF 402 (by omega) (by omega) (by omega) (by omega), FF 404 (by omega) (by omega) (by omega) (by omega), FF 405 (by omega) (by omega) (by omega) (by omega), FF 408 (by omega) (by omega) (by omega) (by omega), FF 409 (by omega) (by omega) (by omega) (by omega)]
      exact hz
    have p5 : paP σ5 e N0 p0 k0 := by
      unfold paP
      simp only [f5.t, f5.l, f5.n, FF 406 (by omega) (by omega) (by omega) (by omega)]
      exact hp
    have g5 : gr e N0 k0 k0 σ σ5 := gr_fr f5 (fun a ha => Or.inl (by unfold pPa; omega))
    have h5 : hpT σ5 e H := fun x hx => by rw [A5]; exact hT1 x hx
    have b403 : iv (pm_F σ5 403 e) = 0 := by rw [e5, F_sF, if_neg (by omega), e4, F_sF, if_neg (by omega), e3, F_sF, if_neg (by omega), e2, F_sF, if_pos ⟨rfl, rfl⟩]; rfl
    have b407 : iv (pm_F σ5 407 e) = 0 := by rw [e5, F_sF, if_neg (by omega), e4, F_sF, if_neg (by omega), e3, F_sF, if_pos ⟨rfl, rfl⟩]; rfl
    have b410 : iv (pm_F σ5 410 e) = 0 := by rw [e5, F_sF, if_neg (by omega), e4, F_sF, if_pos ⟨rfl, rfl⟩]; rfl
    have b411 : iv (pm_F σ5 411 e) = 0 := by rw [e5, F_sF, if_pos ⟨rfl, rfl⟩]; rfl
    have v0 : vp_in (0 : Int32) 144 := by rw [vp_in_iff]; decide
    have s5 : paS σ5 e N0 p0 k0 H [] := by
      refine ⟨z5, p5, h5, by rw [b403]; rfl, ⟨0, by rw [b407]; rfl, Nat.zero_le _, Nat.zero_le _, fun i x u v h => by simp at h⟩, fun x hx _ => ?_⟩
      rw [A5, f1'.A (by omega)]
      exact (hd x hx).2
    refine rdR z5.t0 z5.f400 (gA z5.t1 z5.l1 v0 c00 (h5 0 (by omega)) ?_)
    rw [bI_0]
    refine ⟨fun c => ?_, fun c => ⟨z5.t0, ?_⟩⟩
    · have no : ¬ Hop A B 0 := fun q => by rw [(hH 0 (by omega)).mpr q] at c; cases c
      have ag : agB A B = true := agB_t (fun q => absurd q no)
      refine w_Pa_isAgreed_47 ⟨fun _ => ⟨rfl, ?_⟩, fun _ => rdF z5.t0 b403 ⟨fun _ => ⟨rfl, ?_⟩, fun q => absurd (Int32.le_refl _) q⟩⟩
      · exact ⟨by rw [ag]; rfl, p0, k0, z5, p5, g5⟩
      · exact ⟨by rw [ag]; rfl, p0, k0, z5, p5, g5⟩
    rw [Bool.not_eq_false] at c
    have hop0 := (hH 0 (by omega)).mp c
    have T5 : fsT σ5 e [] [] := ⟨by rw [b410]; rfl, by rw [b411]; rfl, fun i c h => by simp at h, fun i c h => by simp at h⟩
    refine (s_Pa_keepPair (A := A) (B := B) (g := 0) hN (by rw [f5.n]; exact hn0) s5 T5 (by omega) (by unfold keys; simp) (by unfold keys; simp) (fun i x u v h => by simp at h) (by simp) (by simp) (by simp)).use (by omega) (fun σ8 h8 => ?_)
    obtain ⟨p8, k8, s8, g8⟩ := h8
    have s8 : paS σ8 e N0 p8 k8 H [(0, [], [])] := s8
    have I8 : I0 A B e N0 H k0 σ [(0, [], [])] σ8 := ⟨okS_0, fun x u v h _ => by simp at h; exact ⟨h.2.1, h.2.2⟩, p8, k8, s8, g5.tr g8⟩
    have finish : ∀ S1 τ, I0 A B e N0 H k0 σ S1 τ → (∀ a, a < S1.length → ∀ (x : Nat) (u v : List Nat), S1[a]? = some (x, u, v) → ∀ r t s, r ∈ A.2 → t ∈ B.2 → s < 100 → 12 * rF r + rF t = x → stpS A B S1 u v r t s) → agQ A B e N0 k0 σ (.inl (some (.int ((1 : Int32))))) τ := fun S1 τ hI hd => by
      obtain ⟨ok, fin, p, k, hs, hg⟩ := hI
      refine ⟨?_, p, k, hs.1, hs.2.1, hg⟩
      rw [agB_t (fun _ => allCons ok fin (fun x u v hm => by
        obtain ⟨a, ha⟩ := List.mem_iff_getElem?.mp hm
        exact hd a (List.getElem?_eq_some_iff.mp ha).1 x u v ha))]
      rfl
    refine lp_up (fun i (_ : List Ent) => [.ref e, .ref ta, .ref tb, .int (Int32.ofInt (i : Nat))]) (fun i S1 τ => I0 A B e N0 H k0 σ S1 τ ∧ i ≤ S1.length ∧ ∀ a, a < i → ∀ (x : Nat) (u v : List Nat), S1[a]? = some (x, u, v) → ∀ r t s, r ∈ A.2 → t ∈ B.2 → s < 100 → 12 * rF r + rF t = x → stpS A B S1 u v r t s) 144 (fun i hi S1 τ hh next => ?_) (fun S1 τ hh => ?_) 0 (Nat.zero_le _) [(0, [], [])] σ8 ⟨I8, Nat.zero_le _, fun a h => absurd h (by omega)⟩
    · obtain ⟨hI, hle, hd⟩ := hh
      have hI' := hI
      obtain ⟨ok, fin, p, k, hs, hg⟩ := hI'
      have l144 := okS_len ok
      obtain ⟨t1, ⟨q, t2, t3, t4, t5⟩, t6⟩ := hs.2.2.2
      refine w_Pa_isAgreed_47 ⟨fun q => ?_, fun _ => rdF hs.1.t0 t1 ?_⟩
      · rw [z_144le (by omega)] at q; omega
      rw [oi_le (by omega)]
      refine ⟨fun c => ⟨rfl, finish S1 τ hI (fun a ha => hd a (by omega))⟩, fun c => ?_⟩
      have il : i < S1.length := by omega
      have he := List.getElem?_eq_getElem il
      generalize S1[i] = en0 at he
      obtain ⟨x, u, v⟩ := en0
      refine rdR hs.1.t0 hs.1.f402 (gA hs.1.t3 hs.1.l3 (vi hi (by omega)) (vc (by omega)) (t5 i x u v he).1 ⟨hs.1.t0, ?_⟩)
      refine pm_C_mono (pm_C_up (s_Pa_follow hN hn0 ha hb kA kB da db hH hI he) (by omega)) (fun o σ' h => ?_)
      obtain ⟨bb, rfl, tr, fa⟩ := h
      cases bb with
      | false =>
        obtain ⟨no, p', k', z', pp', g'⟩ := fa rfl
        exact kI_B ⟨fun _ => ⟨rfl, by rw [agB_f (fun q => no (q hop0))]; rfl, p', k', z', pp', g'⟩, fun q => absurd rfl q⟩
      | true =>
        obtain ⟨S2, hI2, hp2, hd3⟩ := tr rfl
        refine kI_B ⟨fun q => absurd q (by decide), fun _ => ?_⟩
        rw [oi_s]
        have le2 := hp2.len
        refine next S2 σ' ⟨hI2, by omega, fun a h x' u' v' hx' => ?_⟩
        by_cases c2 : a = i
        · rw [c2, hp2.at he] at hx'
          cases hx'
          exact hd3
        · have a1 : a < S1.length := by omega
          have ha1 := List.getElem?_eq_getElem a1
          have ha2 := hp2.at ha1
          rw [hx'] at ha2
          have e3 := Option.some.inj ha2
          rw [← e3] at ha1
          exact fun r t s mr mt hs' hx0 => (hd a (by omega) x' u' v' ha1 r t s mr mt hs' hx0).up hp2.mem
    · obtain ⟨hI, hle, hd⟩ := hh
      have l144 := okS_len hI.1
      exact w_Pa_isAgreed_47 ⟨fun _ => ⟨rfl, finish S1 τ hI (fun a ha => hd a (by omega))⟩, fun q => absurd (Int32.le_refl _) q⟩
