/-! ===== isFunctional, isEquivalent ===== -/
def gB (x N0 k k' : Nat) (σ σ' : pm_H) : Prop := al (fun a => a < N0 ∧ ¬ pB x a) σ σ' ∧ pm_n σ ≤ pm_n σ' ∧ k ≤ k' ∧ pm_n σ' + k ≤ pm_n σ + k' ∧ pm_w σ' + 1728 * 2 ^ k ≤ pm_w σ + 1728 * 2 ^ k'
theorem gB.rf {x N0 k : Nat} {σ : pm_H} : gB x N0 k k σ σ := ⟨fun _ _ => ⟨⟨rfl, rfl⟩, fun _ => rfl, fun _ => rfl⟩, Nat.le_refl _, Nat.le_refl _, Nat.le_refl _, Nat.le_refl _⟩
theorem gB.tr {x N0 k k1 k2 : Nat} {σ σ1 σ2 : pm_H} (h : gB x N0 k k1 σ σ1) (g : gB x N0 k1 k2 σ1 σ2) : gB x N0 k k2 σ σ2 :=
  ⟨h.1.tr g.1, Nat.le_trans h.2.1 g.2.1, Nat.le_trans h.2.2.1 g.2.2.1, by have := h.2.2.2.1; have := g.2.2.2.1; omega, by have := h.2.2.2.2; have := g.2.2.2.2; omega⟩
theorem gr.B {x N0 k k' : Nat} {σ σ' : pm_H} (h : gr (x + 1671) N0 k k' σ σ') : gB x N0 k k' σ σ' := ⟨h.1.sub (fun a ha => ⟨ha.1, fun q => ha.2 (by unfold pPa at q; unfold pB; omega)⟩), h.2⟩
theorem gB_fr {x N0 k : Nat} {P : Nat → Prop} {σ σ' : pm_H} (h : fr P σ σ') (hp : ∀ a, P a → pB x a) : gB x N0 k k σ σ' :=
  ⟨al_fr h (fun a ha q => ha.2 (hp a q)), by rw [h.n]; exact Nat.le_refl _, Nat.le_refl _, by rw [h.n]; exact Nat.le_refl _, by rw [h.w]; exact Nat.le_refl _⟩
theorem pw_le {k k' : Nat} (h : k ≤ k') : 2 ^ k ≤ 2 ^ k' := Nat.pow_le_pow_right (by decide) h
theorem gB.toB {x N0 k k' : Nat} {σ σ' : pm_H} (h : gB x N0 k k' σ σ') : fB x N0 (1 + (k' - k)) (6 + 1728 * (2 ^ k' - 2 ^ k)) σ σ' := by
  have p := pw_le h.2.2.1
  have h4 := h.2.2.2.1
  have h5 := h.2.2.2.2
  refine ⟨fun a h1 h2 => ?_, h.2.1, by omega, by omega⟩
  have q := h.1 a ⟨h1, h2⟩
  exact ⟨q.1.1, q.1.2, q.2.1, q.2.2⟩
theorem gB.toT {x N0 k k' : Nat} {σ σ' : pm_H} (h : gB x N0 k k' σ σ') : fB x N0 (1 + (k' - k)) (6 + 1728 * (2 ^ k' - 2 ^ k)) σ (pm_thr σ') := by
  have p := pw_le h.2.2.1
  have h2 := h.2.1
  have h4 := h.2.2.2.1
  have h5 := h.2.2.2.2
  have n' : pm_n (pm_thr σ') = pm_n σ' + 1 := rfl
  have w' : pm_w (pm_thr σ') = pm_w σ' + 6 := rfl
  refine ⟨fun a h1 h2 => ?_, by omega, by omega, by omega⟩
  have q := h.1 a ⟨h1, h2⟩
  exact ⟨q.1.1, q.1.2, q.2.1, q.2.2⟩
theorem paP_thr {σ : pm_H} {e N0 p k : Nat} (h : paP σ e N0 p k) : paP (pm_thr σ) e N0 p k := by
  obtain ⟨h1, h2, h3⟩ := h
  refine ⟨h1, ?_, h3⟩
  rcases h2 with q | q
  · exact Or.inl q
  · refine Or.inr ⟨q.1, Nat.lt_trans q.2 ?_⟩
    exact Nat.lt_succ_self _
/-- the outcome where the pool may have grown -/
def bOutG (x N0 kk : Nat) (σ : pm_H) (k : Int32) (v : Int64) (A' : AS) (L : Nat) (o : pm_O) (σ' : pm_H) : Prop := ∃ kk' p', paP σ' (x + 1671) N0 p' kk' ∧ kk ≤ kk' ∧ bOut x N0 (1 + (kk' - kk)) (6 + 1728 * (2 ^ kk' - 2 ^ kk)) σ k v A' L o σ'
def SB (A : AS) (x N0 k0 : Nat) (σ0 σ : pm_H) : Prop := ∃ k p, isB σ x N0 A ∧ paP σ (x + 1671) N0 p k ∧ gB x N0 k0 k σ0 σ
theorem SB.ok {A : AS} {x N0 k0 L : Nat} {σ0 σ : pm_H} {b : Bool} (h : SB A x N0 k0 σ0 σ) (hL : isL σ0 x N0 L) : (bI b = 0 → (pm_t σ L = 101 ∧ vp_in ((0 : Int32)) (pm_l σ L)) ∧ ∀ σ2, σ2 = pm_sA σ L ((0 : Int32)).toNatClampNeg (.long ((0 : Int64))) → bOutG x N0 k0 σ0 0 (if b then 1 else 0) A L (.inl (some (.int ((0 : Int32))))) σ2) ∧ (¬ bI b = 0 → (pm_t σ L = 101 ∧ vp_in ((0 : Int32)) (pm_l σ L)) ∧ ∀ σ2, σ2 = pm_sA σ L ((0 : Int32)).toNatClampNeg (.long ((1 : Int64))) → bOutG x N0 k0 σ0 0 (if b then 1 else 0) A L (.inl (some (.int ((0 : Int32))))) σ2) := by
  obtain ⟨k, p, hb, hp, hg⟩ := h
  have q := L_okB hL hb hg.toB (b := b)
  exact ⟨fun e => ⟨(q.1 e).1, fun σ2 e2 => ⟨k, p, by rw [e2]; exact hp, hg.2.2.1, (q.1 e).2 σ2 e2⟩⟩, fun e => ⟨(q.2 e).1, fun σ2 e2 => ⟨k, p, by rw [e2]; exact hp, hg.2.2.1, (q.2 e).2 σ2 e2⟩⟩⟩
theorem SB.thr {A : AS} {x N0 k0 L : Nat} {σ0 σ : pm_H} {k : Int32} (hk : k ≠ 0) (h : SB A x N0 k0 σ0 σ) : bOutG x N0 k0 σ0 k 0 A L (.inl (some (.int k))) (pm_thr σ) := by
  obtain ⟨kk, p, hb, hp, hg⟩ := h
  exact ⟨kk, p, paP_thr hp, hg.2.2.1, L_ex hk (isB_thr hb) hg.toT⟩
theorem SB.ag {A : AS} {x N0 k0 s1 s2 : Nat} {σ0 σ : pm_H} (h : SB A x N0 k0 σ0 σ) (hA : okA A) (hN : x + 1777 ≤ N0) (hn : N0 ≤ pm_n σ0) (h1 : s1 < 4) (h2 : s2 < 4) : pm_C 5 30 [.ref (x + 1671), .ref (x + 2 + 122 * s1), .ref (x + 2 + 122 * s2)] σ (fun o σ' => o = .inl (some (.int (bI (agB (aS A s1) (aS A s2))))) ∧ SB A x N0 k0 σ0 σ') := by
  obtain ⟨k, p, hb, hp, hg⟩ := h
  obtain ⟨π1, t1⟩ := hb.2.1 s1 h1
  obtain ⟨π2, t2⟩ := hb.2.1 s2 h2
  have hz := (isPa_iff.mp hb.2.2.2.2.2.2.2.2.2.1).1
  refine pm_C_mono (s_Pa_isAgreed (by omega) (Nat.le_trans hn hg.2.1) hz hp t1 t2 (hA.1 s1 h1) (hA.1 s2 h2) (by omega) (by omega)) (fun o σ' q => ?_)
  obtain ⟨rfl, p', k', z', pp', g'⟩ := q
  refine ⟨rfl, k', p', isB_al hb (g'.1.sub (fun b q => ⟨?_, q.2⟩)) (isPa_iff.mpr ⟨z', p', k', pp'⟩), pp', hg.tr g'.B⟩
  have := q.1
  unfold pB at this; omega
theorem SB.dom {A : AS} {x N0 k0 s1 s2 : Nat} {σ0 σ : pm_H} (h : SB A x N0 k0 σ0 σ) (hA : okA A) (hN : x + 1777 ≤ N0) (h1 : s1 < 4) (h2 : s2 < 4) : pm_C 3 13 [.ref (x + 1657), .ref (x + 2 + 122 * s1), .ref (x + 2 + 122 * s2)] σ (fun o σ' => o = .inl (some (.int (bI (wiB (aS A s1) (aS A s2))))) ∧ SB A x N0 k0 σ0 σ') := by
  obtain ⟨k, p, hb, hp, hg⟩ := h
  obtain ⟨π1, t1⟩ := hb.2.1 s1 h1
  obtain ⟨π2, t2⟩ := hb.2.1 s2 h2
  have hd := hb.2.2.2.2.2.2.2.2.1
  refine pm_C_mono (s_Do_isContained hd t1 t2 (hA.1 s1 h1) (hA.1 s2 h2) (by omega) (by omega)) (fun o σ' q => ?_)
  obtain ⟨rfl, p1, f⟩ := q
  have b := isB_do hb f (fun _ q => q) p1
  refine ⟨rfl, k, p, b.1, ?_, hg.tr (gB_fr f (fun a ha => by unfold pDo at ha; unfold pB; omega))⟩
  unfold paP
  rw [f.F (by unfold pDo; omega), f.t, f.l, f.n]
  exact hp
theorem J_isFunctional {x m N0 L : Nat} {A : AS} (hA : okA A) (hN : x + 1777 ≤ N0) {z1 : Int} (r1 : rg z1) : ∃ k v A', okA A' ∧ (∀ σ kk p, isB σ x N0 A → isL σ x N0 L → N0 ≤ pm_n σ → paP σ (x + 1671) N0 p kk → pm_C 39 273 [.ref x, .int (Int32.ofInt z1), .ref L] σ (bOutG x N0 kk σ k v A' L)) ∧ ∀ σ, isM σ m A → pm_C 39 229 [.ref m, .int (Int32.ofInt z1)] σ (mOutB m σ k v A') := by
  by_cases hv : 0 ≤ z1 ∧ z1 < 4
  · obtain ⟨s1, rfl⟩ : ∃ n : Nat, z1 = n := ⟨z1.toNat, by omega⟩
    have h1 : s1 < 4 := by omega
    have k1 := hA.1 s1 h1
    have v1 := vi (show s1 < 4 from h1) (by omega)
    have w1 := vc (show s1 < 2000000 by omega)
    refine ⟨0, if agB (aS A s1) (aS A s1) then 1 else 0, A, hA, fun σ kk p h hL hn hp => ?_, fun σ h => ?_⟩
    · have hz := (isPa_iff.mp h.2.2.2.2.2.2.2.2.2.1).1
      have hs : SB A x N0 kk σ σ := ⟨kk, p, h, hp, gB.rf⟩
      refine w_L_isFunctional_0 ⟨h.1.1, w_B_isFunctional_0 (q_slot r1 (fun _ => ?_) (fun n => absurd hv n))⟩
      refine rdR h.1.1 h.1.2.1.2.2.2.2.2.2.2.2.1 (rdR h.1.1 h.1.2.1.1 (gAr h.1.2.2.1 h.1.2.2.2.1 v1 w1 (h.1.2.2.2.2 s1 h1) (rdR h.1.1 h.1.2.1.1 (gAr h.1.2.2.1 h.1.2.2.2.1 v1 w1 (h.1.2.2.2.2 s1 h1) ⟨hz.t0, ?_⟩))))
      refine pm_C_mono (pm_C_up (hs.ag hA hN hn h1 h1) (by omega)) (fun o σ' q => ?_)
      obtain ⟨rfl, hs'⟩ := q
      exact kI_B ⟨bI_and _, kI_B (hs'.ok hL)⟩
    · have hm := h.1
      refine w_M_isFunctional_0 (gD (s_M_isSlot r1) (by omega) (fun n => absurd hv n) (fun _ => w_M_isFunctional_7 (thr0 hm (fun σ1 m1 f1 y1 => ?_))))
      have g1 := isM_scr h hA f1 (fun _ q => Or.inl q) (fun _ q => q.elim) (fun _ q => q.elim)
      refine ⟨m1.1, pm_C_mono (pm_C_up (s_M_agree m1 (g1.2.1 s1 h1) (g1.2.1 s1 h1) k1 k1 h1 h1) (by omega)) (fun o σ' p => ?_)⟩
      obtain ⟨rfl, f⟩ := p
      have f2 : frX m (fun f => f = 1200 ∨ f = 1234) (fun i => 21 ≤ i ∧ i ≤ 28) (fun _ => False) σ σ' := frX.tr (frX.mono f1 (fun _ q => Or.inl q) (fun _ q => q.elim) (fun _ q => q)) (frX.mono f (fun _ q => Or.inr q) (fun _ q => q) (fun _ q => q))
      have co : mCo m σ 0 A σ' := ⟨by rw [frX.F f (by omega)]; exact y1, isM_scr h hA f2 (fun f q => by omega) (fun i q => by omega) (fun _ q => q.elim), frX.fr f2⟩
      cases agB (aS A s1) (aS A s1) with
      | true => exact kI_B ⟨fun q => absurd q (by decide), fun _ => ⟨rfl, ⟨true, rfl, fun _ => rfl⟩, co⟩⟩
      | false => exact kI_B ⟨fun _ => ⟨rfl, ⟨false, rfl, fun _ => rfl⟩, co⟩, fun q => absurd rfl q⟩
  · refine ⟨1, 0, A, hA, fun σ kk p h hL hn hp => ?_, fun σ h => ?_⟩
    · have hs : SB A x N0 kk σ σ := ⟨kk, p, h, hp, gB.rf⟩
      exact w_L_isFunctional_0 ⟨h.1.1, w_B_isFunctional_0 (q_slot r1 (fun s => absurd s hv) (fun n => k_L_isFunctional_12 (hs.thr i1_ne)))⟩
    · exact w_M_isFunctional_0 (gD (s_M_isSlot r1) (by omega) (fun n => w_M_isFunctional_7 (thrK h.1 i1_ne (fun σ1 m1 f1 y1 => ⟨rfl, mOutB_e i1_ne h hA f1 y1⟩))) (fun s => absurd s hv))
theorem J_isEquivalent {x m N0 L : Nat} {A : AS} (hA : okA A) (hN : x + 1777 ≤ N0) {z1 z2 : Int} (r1 : rg z1) (r2 : rg z2) : ∃ k v A', okA A' ∧ (∀ σ kk p, isB σ x N0 A → isL σ x N0 L → N0 ≤ pm_n σ → paP σ (x + 1671) N0 p kk → pm_C 39 274 [.ref x, .int (Int32.ofInt z1), .int (Int32.ofInt z2), .ref L] σ (bOutG x N0 kk σ k v A' L)) ∧ ∀ σ, isM σ m A → pm_C 39 232 [.ref m, .int (Int32.ofInt z1), .int (Int32.ofInt z2)] σ (mOutB m σ k v A') := by
  by_cases hv : (0 ≤ z1 ∧ z1 < 4) ∧ (0 ≤ z2 ∧ z2 < 4)
  · obtain ⟨s1, rfl⟩ : ∃ n : Nat, z1 = n := ⟨z1.toNat, by omega⟩
    obtain ⟨s2, rfl⟩ : ∃ n : Nat, z2 = n := ⟨z2.toNat, by omega⟩
    have h1 : s1 < 4 := by omega
    have h2 : s2 < 4 := by omega
    have k1 := hA.1 s1 h1
    have k2 := hA.1 s2 h2
    have v1 := vi (show s1 < 4 from h1) (by omega)
    have w1 := vc (show s1 < 2000000 by omega)
    have v2 := vi (show s2 < 4 from h2) (by omega)
    have w2 := vc (show s2 < 2000000 by omega)
    -- the class, whatever the answers are
    have cls : ∀ (k : Int32) (v : Int64), (k = if agB (aS A s1) (aS A s1) && agB (aS A s2) (aS A s2) then 0 else 2) → (v = if agB (aS A s1) (aS A s1) && agB (aS A s2) (aS A s2) then (if (wiB (aS A s1) (aS A s2) && wiB (aS A s2) (aS A s1) && agB (aS A s1) (aS A s2)) then 1 else 0) else 0) → ∀ σ kk p, isB σ x N0 A → isL σ x N0 L → N0 ≤ pm_n σ → paP σ (x + 1671) N0 p kk → pm_C 39 274 [.ref x, .int (Int32.ofInt (s1 : Int)), .int (Int32.ofInt (s2 : Int)), .ref L] σ (bOutG x N0 kk σ k v A L) := by
      intro k v ek ev σ kk p h hL hn hp
      have hz := (isPa_iff.mp h.2.2.2.2.2.2.2.2.2.1).1
      have hs : SB A x N0 kk σ σ := ⟨kk, p, h, hp, gB.rf⟩
      have hd : ∀ {τ}, SB A x N0 kk σ τ → isHd τ x ∧ pm_t τ (x + 1671) = 5 ∧ pm_t τ (x + 1657) = 2 := fun hs' => by
        obtain ⟨_, _, hb, _, _⟩ := hs'
        exact ⟨hb.1, hb.2.2.2.2.2.2.2.2.2.1.1, hb.2.2.2.2.2.2.2.2.1.1.1⟩
      refine w_L_isEquivalent_0 ⟨h.1.1, w_B_isEquivalent_0 (q_slot r1 (fun _ => q_slot r2 (fun _ => ?_) (fun n => absurd hv.2 n)) (fun n => absurd hv.1 n))⟩
      refine rdR h.1.1 h.1.2.1.1 (gAr h.1.2.2.1 h.1.2.2.2.1 v1 w1 (h.1.2.2.2.2 s1 h1) (rdR h.1.1 h.1.2.1.1 (gAr h.1.2.2.1 h.1.2.2.2.1 v2 w2 (h.1.2.2.2.2 s2 h2) (rdR h.1.1 h.1.2.1.2.2.2.2.2.2.2.2.1 ⟨hz.t0, ?_⟩))))
      refine pm_C_mono (pm_C_up (hs.ag hA hN hn h1 h1) (by omega)) (fun o σ1 q => ?_)
      obtain ⟨rfl, S1⟩ := q
      refine kI_B ?_
      rw [bI_0, Bool.not_eq_false]
      refine ⟨fun c => ?_, fun c => ?_⟩
      · rw [c] at ek ev
        have ek : k = 2 := ek
        have ev : v = 0 := ev
        rw [ek, ev]
        exact k_L_isEquivalent_16 (S1.thr i2_ne)
      have H1 := hd S1
      refine rdR H1.1.1 H1.1.2.1.2.2.2.2.2.2.2.2.1 ⟨H1.2.1, ?_⟩
      refine pm_C_mono (pm_C_up (S1.ag hA hN hn h2 h2) (by omega)) (fun o σ2 q => ?_)
      obtain ⟨rfl, S2⟩ := q
      refine kI_B ?_
      rw [bI_0, Bool.not_eq_false]
      refine ⟨fun c2 => ?_, fun c2 => ?_⟩
      · rw [c, c2] at ek ev
        have ek : k = 2 := ek
        have ev : v = 0 := ev
        rw [ek, ev]
        exact k_L_isEquivalent_16 (S2.thr i2_ne)
      have H2 := hd S2
      rw [c, c2] at ek ev
      have ek : k = 0 := ek
      have ev : v = (if (wiB (aS A s1) (aS A s2) && wiB (aS A s2) (aS A s1) && agB (aS A s1) (aS A s2)) then 1 else 0) := ev
      rw [ek, ev]
      refine rdR H2.1.1 H2.1.2.1.2.2.2.2.2.2.2.1 ⟨H2.2.2, ?_⟩
      refine pm_C_mono (pm_C_up (S2.dom hA hN h1 h2) (by omega)) (fun o σ3 q => ?_)
      obtain ⟨rfl, S3⟩ := q
      refine kI_B ?_
      rw [bI_0, Bool.not_eq_false]
      refine ⟨fun c3 => ⟨rfl, kI_B ?_⟩, fun c3 => ?_⟩
      · rw [c3]
        exact S3.ok (b := false) hL
      have H3 := hd S3
      refine rdR H3.1.1 H3.1.2.1.2.2.2.2.2.2.2.1 ⟨H3.2.2, ?_⟩
      refine pm_C_mono (pm_C_up (S3.dom hA hN h2 h1) (by omega)) (fun o σ4 q => ?_)
      obtain ⟨rfl, S4⟩ := q
      refine kI_B ?_
      rw [bI_0, Bool.not_eq_false]
      refine ⟨fun c4 => ⟨rfl, kI_B ?_⟩, fun c4 => ?_⟩
      · rw [c3, c4]
        exact S4.ok (b := false) hL
      have H4 := hd S4
      refine rdR H4.1.1 H4.1.2.1.2.2.2.2.2.2.2.2.1 ⟨H4.2.1, ?_⟩
      refine pm_C_mono (pm_C_up (S4.ag hA hN hn h1 h2) (by omega)) (fun o σ5 q => ?_)
      obtain ⟨rfl, S5⟩ := q
      refine kI_B ?_
      rw [bI_0, Bool.not_eq_false]
      refine ⟨fun c5 => ⟨rfl, kI_B ?_⟩, fun c5 => ⟨rfl, kI_B ?_⟩⟩
      · rw [c3, c4, c5]
        exact S5.ok (b := false) hL
      · rw [c3, c4, c5]
        exact S5.ok (b := true) hL
    refine ⟨_, _, A, hA, cls _ _ rfl rfl, fun σ h => ?_⟩
    have hm := h.1
    refine w_M_isEquivalent_0 (gD (s_M_isSlot r1) (by omega) (fun n => absurd hv.1 n) (fun _ => gD (s_M_isSlot r2) (by omega) (fun n => absurd hv.2 n) (fun _ => w_M_isEquivalent_10 (thr0 hm (fun σ1 m1 f1 y1 => ⟨m1.1, ?_⟩)))))
    let XZ := fun σ σ' : pm_H => frX m (fun f => f = 1200 ∨ f = 1234) (fun i => 14 ≤ i) (fun _ => False) σ σ'
    have x1 : XZ σ σ1 := frX.mono f1 (fun _ q => Or.inl q) (fun _ q => q.elim) (fun _ q => q)
    have st : ∀ {τ}, XZ σ τ → isM τ m A := fun f => isM_scr h hA f (fun f q => by omega) (fun i q => by omega) (fun _ q => q.elim)
    have xp : ∀ {τ τ'}, XZ σ τ → XP m τ τ' → XZ σ τ' := fun f g => frX.tr f (frX.mono g (fun _ q => Or.inr q) (fun i q => by omega) (fun _ q => q))
    have xi : ∀ {τ τ'}, XZ σ τ → XI m τ τ' → XZ σ τ' := fun f g => frX.tr f (frX.mono g (fun _ q => Or.inr q) (fun i q => by omega) (fun _ q => q))
    have xt : ∀ {τ τ'}, XZ σ τ → frT m (fun _ => False) (fun _ => False) τ τ' → XZ σ τ' := fun f g => frX.tr f (frX.mono g (fun _ q => Or.inl q) (fun _ q => q.elim) (fun _ q => q))
    have co : ∀ {τ} {k : Int32}, XZ σ τ → iv (pm_F τ 1200 m) = k → mCo m σ k A τ := fun f e => ⟨e, st f, frX.fr f⟩
    have bad : ∀ {τ}, XZ σ τ → pm_R 39 232 30 [.ref m, .int (Int32.ofInt (s1 : Int)), .int (Int32.ofInt (s2 : Int))] [.int ((2 : Int32)), .ref m] τ (mOutB m σ 2 0 A) := fun f => w_M_isEquivalent_30 (thrK (st f).1 i2_ne (fun σ1 m1 f1 y1 => ⟨rfl, ⟨false, rfl, fun q => absurd q (by decide)⟩, co (xt f f1) y1⟩))
    refine pm_C_mono (pm_C_up (s_M_agree m1 ((st x1).2.1 s1 h1) ((st x1).2.1 s1 h1) k1 k1 h1 h1) (by omega)) (fun o σ3 q => ?_)
    obtain ⟨rfl, f3⟩ := q
    have x3 := xp x1 f3
    refine kI_B ?_
    rw [bI_0, Bool.not_eq_false]
    refine ⟨fun c => ?_, fun c => ⟨(st x3).1.1, ?_⟩⟩
    · rw [c]; exact bad x3
    refine pm_C_mono (pm_C_up (s_M_agree (st x3).1 ((st x3).2.1 s2 h2) ((st x3).2.1 s2 h2) k2 k2 h2 h2) (by omega)) (fun o σ4 q => ?_)
    obtain ⟨rfl, f4⟩ := q
    have x4 := xp x3 f4
    refine kI_B ?_
    rw [bI_0, Bool.not_eq_false]
    refine ⟨fun c2 => ?_, fun c2 => ?_⟩
    · rw [c, c2]; exact bad x4
    rw [c, c2]
    refine w_M_isEquivalent_30 (thr0 (st x4).1 (fun σ5 m5 f5 y5 => ⟨m5.1, ?_⟩))
    have x5 := xt x4 f5
    have no : ∀ {τ}, XZ σ τ → iv (pm_F τ 1200 m) = 0 → ∀ w : Int64, w = 0 → mOutB m σ 0 w A (.inl (some (.int ((0 : Int32))))) τ := fun f e w ew => ⟨⟨false, rfl, fun _ => ew⟩, co f e⟩
    refine pm_C_mono (pm_C_up (s_M_isIn m5 ((st x5).2.1 s1 h1) ((st x5).2.1 s2 h2) k1 k2 h1 h2) (by omega)) (fun o σ6 q => ?_)
    obtain ⟨rfl, f6⟩ := q
    have x6 := xi x5 f6
    have y6 : iv (pm_F σ6 1200 m) = 0 := by rw [frX.F f6 (by omega)]; exact y5
    refine kI_B ?_
    rw [bI_0, Bool.not_eq_false]
    refine ⟨fun c3 => ⟨rfl, no x6 y6 _ (by rw [c3]; rfl)⟩, fun c3 => ⟨(st x6).1.1, ?_⟩⟩
    refine pm_C_mono (pm_C_up (s_M_isIn (st x6).1 ((st x6).2.1 s2 h2) ((st x6).2.1 s1 h1) k2 k1 h2 h1) (by omega)) (fun o σ7 q => ?_)
    obtain ⟨rfl, f7⟩ := q
    have x7 := xi x6 f7
    have y7 : iv (pm_F σ7 1200 m) = 0 := by rw [frX.F f7 (by omega)]; exact y6
    refine kI_B ?_
    rw [bI_0, Bool.not_eq_false]
    refine ⟨fun c4 => ⟨rfl, no x7 y7 _ (by rw [c3, c4]; rfl)⟩, fun c4 => ⟨(st x7).1.1, ?_⟩⟩
    refine pm_C_mono (pm_C_up (s_M_agree (st x7).1 ((st x7).2.1 s1 h1) ((st x7).2.1 s2 h2) k1 k2 h1 h2) (by omega)) (fun o σ8 q => ?_)
    obtain ⟨rfl, f8⟩ := q
    have x8 := xp x7 f8
    have y8 : iv (pm_F σ8 1200 m) = 0 := by rw [frX.F f8 (by omega)]; exact y7
    refine kI_B ?_
    rw [bI_0, Bool.not_eq_false]
    refine ⟨fun c5 => ⟨rfl, no x8 y8 _ (by rw [c3, c4, c5]; rfl)⟩, fun c5 => ⟨rfl, ⟨true, rfl, fun _ => by rw [c3, c4, c5]; rfl⟩, co x8 y8⟩⟩
  · refine ⟨1, 0, A, hA, fun σ kk p h hL hn hp => ?_, fun σ h => ?_⟩
    · have hs : SB A x N0 kk σ σ := ⟨kk, p, h, hp, gB.rf⟩
      exact w_L_isEquivalent_0 ⟨h.1.1, w_B_isEquivalent_0 (q_slot r1 (fun s => q_slot r2 (fun s' => absurd ⟨s, s'⟩ hv) (fun n => k_L_isEquivalent_13 (hs.thr i1_ne))) (fun n => k_L_isEquivalent_13 (hs.thr i1_ne)))⟩
    · have fin : pm_R 39 232 10 [.ref m, .int (Int32.ofInt z1), .int (Int32.ofInt z2)] [.int ((1 : Int32)), .ref m] σ (mOutB m σ 1 0 A) := w_M_isEquivalent_10 (thrK h.1 i1_ne (fun σ1 m1 f1 y1 => ⟨rfl, mOutB_e i1_ne h hA f1 y1⟩))
      exact w_M_isEquivalent_0 (gD (s_M_isSlot r1) (by omega) (fun n => fin) (fun s => gD (s_M_isSlot r2) (by omega) (fun n => fin) (fun s' => absurd ⟨s, s'⟩ hv)))
