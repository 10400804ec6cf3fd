/-! ===== the law: what holds between two calls ===== -/
theorem mTab_34 : ∀ e, e ∈ mTab → e.2.1 ≤ 34 := by decide
theorem isM_al {σ σ' : pm_H} {m : Nat} {A : AS} (h : isM σ m A) (e : al (fun b => m ≤ b ∧ b ≤ m + 34) σ σ') : isM σ' m A := by
  have e0 := e m ⟨Nat.le_refl _, by omega⟩
  have E : ∀ i, i ≤ 34 → ∀ j, pm_A σ' (m + i) j = pm_A σ (m + i) j := fun i hi j => (e (m + i) ⟨by omega, by omega⟩).2.2 j
  have T : ∀ sl T, mTr σ m sl T → mTr σ' m sl T := fun sl T ht => by
    unfold mTr mRu at ht ⊢
    simp only [E 1 (by omega), E 2 (by omega), E 3 (by omega), E 4 (by omega), E 5 (by omega), E 6 (by omega), E 7 (by omega), E 8 (by omega), E 9 (by omega)]
    exact ht
  obtain ⟨⟨h1, h2⟩, h3, h4, h5, h6, h7⟩ := h
  refine ⟨⟨by rw [e0.1.1]; exact h1, fun f k t l hm => ?_⟩, fun i hi => T _ _ (h3 i hi), ?_, ?_, ?_, ?_⟩
  · have k34 : k ≤ 34 := mTab_34 _ hm
    have ek := e (m + k) ⟨by omega, by omega⟩
    rw [e0.2.1, ek.1.1, ek.1.2]
    exact h2 f k t l hm
  · exact ⟨by rw [e0.2.1]; exact h4.1, h4.2.1, fun i x hx => ⟨T _ _ (h4.2.2 i x hx).1, by rw [E 10 (by omega)]; exact (h4.2.2 i x hx).2⟩⟩
  · exact ⟨by rw [e0.2.1]; exact h5.1, h5.2.1, fun i c hc => by rw [E 11 (by omega)]; exact h5.2.2 i c hc⟩
  · exact ⟨by rw [e0.2.1]; exact h6.1, h6.2.1, fun i c hc => by rw [E 12 (by omega)]; exact h6.2.2 i c hc⟩
  · exact ⟨by rw [e0.2.1]; exact h7.1, h7.2.1, fun i c hc => by rw [E 13 (by omega)]; exact h7.2.2 i c hc⟩
theorem isB_out {P : Nat → Prop} {σ σ' : pm_H} {x N0 : Nat} {A : AS} (h : isB σ x N0 A) (f : fr P σ σ') (hp : ∀ b, pB x b → ¬ P b) : isB σ' x N0 A := by
  refine isB_mk h f ⟨hp _ (by unfold pB; omega), hp _ (by unfold pB; omega)⟩ (fun i hi => Or.inl ⟨fun b hb => hp b ?_, rfl⟩) (Or.inl (fun b hb => hp b ?_)) (Or.inl ⟨fun b hb => hp b ?_, rfl⟩) (Or.inl ⟨fun b hb => hp b ?_, rfl⟩) (Or.inl ⟨fun b hb => hp b ?_, rfl⟩) (Or.inl ⟨fun b hb => hp b ?_, rfl⟩) (Or.inl (fun b hb => hp b ?_)) (Or.inl (fun b hb => hp b ?_)) (Or.inl (hp _ (by unfold pB; omega))) (Or.inl (fun b hb => hp b ?_))
  · unfold pTr at hb; unfold pB; omega
  · unfold pTr at hb; unfold pB; omega
  · unfold pHi at hb; unfold pB; omega
  · unfold pRe at hb; unfold pB; omega
  · unfold pWo at hb; unfold pB; omega
  · unfold pWo at hb; unfold pB; omega
  · unfold pO at hb; unfold pB; omega
  · unfold pDo at hb; unfold pB; omega
  · unfold pCo at hb; unfold pB; omega
/-- script, cells for answers, room -/
def rst (b Ls x : Nat) (xs : Nat → Int32) (c kk : Nat) (σ : pm_H) : Prop := isL σ x (x + 1814) (x + 1812) ∧ isLD σ x (x + 1814) (x + 1813) ∧ (pm_t σ b = 200 ∧ pm_l σ b = Ls ∧ ∀ j, iv (pm_A σ b j) = xs j) ∧ x + 1814 ≤ pm_n σ ∧ (∃ p, paP σ (x + 1671) (x + 1814) p kk) ∧ pm_n σ ≤ x + 1814 + c + kk ∧ pm_w σ + 1728 ≤ 305425 + 6 * c + 1728 * 2 ^ kk
/-- the class at A, the model at A' -/
def ST (b Ls x : Nat) (xs : Nat → Int32) (A A' : AS) (c : Nat) (σ : pm_H) : Prop := ∃ kk, isB σ x (x + 1814) A ∧ isM σ (x + 1777) A' ∧ rst b Ls x xs c kk σ
theorem ob_out {x N0 c w L : Nat} {σ σ' τ : pm_H} (f : fB x N0 c w σ τ) (h : σ' = τ ∨ ∃ u : Value, σ' = pm_sA τ L 0 u) : al (fun a => a < N0 ∧ ¬ pB x a ∧ a ≠ L) σ σ' ∧ (∀ a, a < N0 → ¬ pB x a → pm_t σ' a = pm_t σ a ∧ pm_l σ' a = pm_l σ a) ∧ pm_n σ ≤ pm_n σ' ∧ pm_n σ' ≤ pm_n σ + c ∧ pm_w σ' ≤ pm_w σ + w := by
  rcases h with e | ⟨u, e⟩
  · rw [e]
    exact ⟨fun a ha => ⟨⟨(f.1 a ha.1 ha.2.1).1, (f.1 a ha.1 ha.2.1).2.1⟩, (f.1 a ha.1 ha.2.1).2.2⟩, fun a h1 h2 => ⟨(f.1 a h1 h2).1, (f.1 a h1 h2).2.1⟩, f.2.1, f.2.2.1, f.2.2.2⟩
  · rw [e]
    refine ⟨fun a ha => ⟨⟨(f.1 a ha.1 ha.2.1).1, (f.1 a ha.1 ha.2.1).2.1⟩, (f.1 a ha.1 ha.2.1).2.2.1, fun j => ?_⟩, fun a h1 h2 => ⟨(f.1 a h1 h2).1, (f.1 a h1 h2).2.1⟩, f.2.1, f.2.2.1, f.2.2.2⟩
    rw [A_sA, if_neg (fun q => ha.2.2 q.1)]
    exact (f.1 a ha.1 ha.2.1).2.2.2 j
/-- the class has answered -/
theorem st_cls0 {b Ls x c kk kk' w L : Nat} {xs : Nat → Int32} {A' A0 : AS} {σ σ' τ : pm_H} (hb : b < x) (hL : L = x + 1812 ∨ L = x + 1813) (hM : isM σ (x + 1777) A0) (hr : rst b Ls x xs c kk σ) (hB : isB σ' x (x + 1814) A') (hp : ∃ p, paP σ' (x + 1671) (x + 1814) p kk') (hk : kk ≤ kk') (hw : w = 6 + 1728 * (2 ^ kk' - 2 ^ kk)) (f : fB x (x + 1814) (1 + (kk' - kk)) w σ τ) (h : σ' = τ ∨ ∃ u : Value, σ' = pm_sA τ L 0 u) : ST b Ls x xs A' A0 (c + 1) σ' := by
  obtain ⟨g1, g2, g3, g4, g5⟩ := ob_out f h
  obtain ⟨r1, r2, r3, r4, r5, r6, r7⟩ := hr
  have pw := pw_le hk
  refine ⟨kk', hB, isM_al hM (g1.sub (fun a ha => ⟨by omega, by unfold pB; omega, by omega⟩)), ⟨r1.1, r1.2.1, ?_, ?_⟩, ⟨r2.1, r2.2.1, ?_, ?_⟩, ?_, by omega, hp, by omega, by omega⟩
  · rw [(g2 _ r1.1 r1.2.1).1]; exact r1.2.2.1
  · rw [(g2 _ r1.1 r1.2.1).2]; exact r1.2.2.2
  · rw [(g2 _ r2.1 r2.2.1).1]; exact r2.2.2.1
  · rw [(g2 _ r2.1 r2.2.1).2]; exact r2.2.2.2
  · have q := g1 b ⟨by omega, by unfold pB; omega, by omega⟩
    exact ⟨by rw [q.1.1]; exact r3.1, by rw [q.1.2]; exact r3.2.1, fun j => by rw [q.2.2]; exact r3.2.2 j⟩
/-- the pool is as it was -/
theorem paP_fx {n x p kk : Nat} {σ σ' : pm_H} (hp : paP σ (x + 1671) (x + 1814) p kk) (hn : x + 1814 ≤ pm_n σ) (f : fx_rel n σ σ') (hf : 406 ∉ (fx n).1) : paP σ' (x + 1671) (x + 1814) p kk := by
  obtain ⟨h1, h2, h3, h4, h5, h6⟩ := hp
  have pn : p < pm_n σ := by
    rcases h2 with q | q
    · omega
    · exact q.2
  have tl := f.1.2.2.1 p pn
  refine ⟨by rw [f.1.2.2.2.1 406 hf _ (by omega)]; exact h1, ?_, ?_, h4, ?_, h6⟩
  · rcases h2 with q | q
    · exact Or.inl q
    · exact Or.inr ⟨q.1, Nat.lt_of_lt_of_le q.2 f.1.1⟩
  · unfold pm_t at h3 ⊢; rw [tl]; exact h3
  · unfold pm_l at h5 ⊢; rw [tl]; exact h5
theorem st_cls {n b Ls x c : Nat} {xs : Nat → Int32} {A A' : AS} {σ σ' : pm_H} {k : Int32} {v : Int64} {o : pm_O} (hb : b < x) (h : ST b Ls x xs A A c σ) (hf : 406 ∉ (fx n).1) (p : bOut x (x + 1814) 1 6 σ k v A' (x + 1812) o σ' ∧ fx_rel n σ σ') : o = .inl (some (.int k)) ∧ (k = 0 → jv (pm_A σ' (x + 1812) 0) = v) ∧ ST b Ls x xs A' A (c + 1) σ' := by
  obtain ⟨kk, hB, hM, hr⟩ := h
  obtain ⟨⟨p1, p2, p3, τ, p4, p5⟩, pf⟩ := p
  obtain ⟨pp, hp⟩ := hr.2.2.2.2.1
  refine ⟨p1, p3, st_cls0 hb (Or.inl rfl) hM hr p2 ⟨pp, paP_fx hp hr.2.2.2.1 pf hf⟩ (Nat.le_refl _) rfl (τ := τ) (by rw [Nat.sub_self, Nat.sub_self]; exact p4) ?_⟩
  rcases p5 with q | ⟨u, q⟩
  · exact Or.inl q
  · exact Or.inr ⟨_, q⟩
theorem st_clsD {n b Ls x c : Nat} {xs : Nat → Int32} {A A' : AS} {σ σ' : pm_H} {k : Int32} {v : UInt64} {o : pm_O} (hb : b < x) (h : ST b Ls x xs A A c σ) (hf : 406 ∉ (fx n).1) (p : bOutD x (x + 1814) 1 6 σ k v A' (x + 1813) o σ' ∧ fx_rel n σ σ') : o = .inl (some (.int k)) ∧ (k = 0 → dv (pm_A σ' (x + 1813) 0) = v) ∧ ST b Ls x xs A' A (c + 1) σ' := by
  obtain ⟨kk, hB, hM, hr⟩ := h
  obtain ⟨⟨p1, p2, p3, τ, p4, p5⟩, pf⟩ := p
  obtain ⟨pp, hp⟩ := hr.2.2.2.2.1
  refine ⟨p1, p3, st_cls0 hb (Or.inr rfl) hM hr p2 ⟨pp, paP_fx hp hr.2.2.2.1 pf hf⟩ (Nat.le_refl _) rfl (τ := τ) (by rw [Nat.sub_self, Nat.sub_self]; exact p4) ?_⟩
  rcases p5 with q | ⟨u, q⟩
  · exact Or.inl q
  · exact Or.inr ⟨_, q⟩
theorem st_cls1 {n b Ls x c : Nat} {xs : Nat → Int32} {A A' : AS} {σ σ' : pm_H} {v : Int32} {o : pm_O} (hb : b < x) (h : ST b Ls x xs A A c σ) (hf : 406 ∉ (fx n).1) (p : bOut0 x (x + 1814) 1 6 σ v A' o σ' ∧ fx_rel n σ σ') : o = .inl (some (.int v)) ∧ ST b Ls x xs A' A (c + 1) σ' := by
  obtain ⟨kk, hB, hM, hr⟩ := h
  obtain ⟨⟨p1, p2, p4⟩, pf⟩ := p
  obtain ⟨pp, hp⟩ := hr.2.2.2.2.1
  exact ⟨p1, st_cls0 (L := x + 1812) hb (Or.inl rfl) hM hr p2 ⟨pp, paP_fx hp hr.2.2.2.1 pf hf⟩ (Nat.le_refl _) rfl (τ := σ') (by rw [Nat.sub_self, Nat.sub_self]; exact p4) (Or.inl rfl)⟩
theorem st_clsG {b Ls x c kk : Nat} {xs : Nat → Int32} {A' A0 : AS} {σ σ' : pm_H} {k : Int32} {v : Int64} {o : pm_O} (hb : b < x) (hM : isM σ (x + 1777) A0) (hr : rst b Ls x xs c kk σ) (p : bOutG x (x + 1814) kk σ k v A' (x + 1812) o σ') : o = .inl (some (.int k)) ∧ (k = 0 → jv (pm_A σ' (x + 1812) 0) = v) ∧ ST b Ls x xs A' A0 (c + 1) σ' := by
  obtain ⟨kk', p', q1, q2, p1, p2, p3, τ, p4, p5⟩ := p
  refine ⟨p1, p3, st_cls0 hb (Or.inl rfl) hM hr p2 ⟨p', q1⟩ q2 rfl (τ := τ) p4 ?_⟩
  rcases p5 with q | ⟨u, q⟩
  · exact Or.inl q
  · exact Or.inr ⟨_, q⟩
/-- the model has answered -/
theorem st_mod {b Ls x c : Nat} {xs : Nat → Int32} {A' A0 : AS} {σ σ' : pm_H} {k : Int32} (hb : b < x) (h : ST b Ls x xs A' A0 c σ) (p : mCo (x + 1777) σ k A' σ') : ST b Ls x xs A' A' c σ' ∧ pm_A σ' (x + 1812) = pm_A σ (x + 1812) ∧ pm_A σ' (x + 1813) = pm_A σ (x + 1813) ∧ iv (pm_F σ' 1200 (x + 1777)) = k := by
  obtain ⟨kk, hB, hM, r1, r2, r3, r4, ⟨pp, hp⟩, r6, r7⟩ := h
  obtain ⟨p1, p2, f⟩ := p
  refine ⟨⟨kk, isB_out hB f (fun a ha q => ?_), p2, ⟨r1.1, r1.2.1, by rw [f.t]; exact r1.2.2.1, by rw [f.l]; exact r1.2.2.2⟩, ⟨r2.1, r2.2.1, by rw [f.t]; exact r2.2.2.1, by rw [f.l]; exact r2.2.2.2⟩, ⟨by rw [f.t]; exact r3.1, by rw [f.l]; exact r3.2.1, fun j => by rw [f.A (by omega)]; exact r3.2.2 j⟩, by rw [f.n]; exact r4, ⟨pp, ?_⟩, by rw [f.n]; exact r6, by rw [f.w]; exact r7⟩, funext (fun j => f.A (by omega)), funext (fun j => f.A (by omega)), p1⟩
  · unfold pB at ha; omega
  · unfold paP
    rw [f.F (by omega), f.t, f.l, f.n]
    exact hp
theorem ST.tM {b Ls x c : Nat} {xs : Nat → Int32} {A A' : AS} {σ : pm_H} (h : ST b Ls x xs A A' c σ) : pm_t σ (x + 1777) = 13 := by
  obtain ⟨_, _, hM, _⟩ := h
  exact hM.1.1
theorem ST.tL {b Ls x c : Nat} {xs : Nat → Int32} {A A' : AS} {σ : pm_H} (h : ST b Ls x xs A A' c σ) : isL σ x (x + 1814) (x + 1812) := by
  obtain ⟨_, _, _, hr⟩ := h
  exact hr.1
theorem ST.tD {b Ls x c : Nat} {xs : Nat → Int32} {A A' : AS} {σ : pm_H} (h : ST b Ls x xs A A' c σ) : isLD σ x (x + 1814) (x + 1813) := by
  obtain ⟨_, _, _, hr⟩ := h
  exact hr.2.1
theorem ST.B {b Ls x c : Nat} {xs : Nat → Int32} {A A' : AS} {σ : pm_H} (h : ST b Ls x xs A A' c σ) : isB σ x (x + 1814) A := by
  obtain ⟨_, hB, _, _⟩ := h
  exact hB
theorem ST.M {b Ls x c : Nat} {xs : Nat → Int32} {A A' : AS} {σ : pm_H} (h : ST b Ls x xs A A' c σ) : isM σ (x + 1777) A' := by
  obtain ⟨_, _, hM, _⟩ := h
  exact hM
/-- a number of the script is read -/
theorem gS {b Ls x c i k : Nat} {xs : Nat → Int32} {A A' : AS} {σ : pm_H} {j w : Int32} {K : Int32 → Prop} (h : ST b Ls x xs A A' c σ) (hj : j = Int32.ofInt ((6 * i + k : Nat) : Int)) (hk : 6 * i + k < Ls) (hL : Ls ≤ 3072) (hw : xs (6 * i + k) = w) (hK : K w) : (pm_t σ b = 200 ∧ vp_in j (pm_l σ b)) ∧ ∀ z, z = iv (pm_A σ b j.toNatClampNeg) → K z := by
  obtain ⟨_, _, _, hr⟩ := h
  obtain ⟨r1, r2, r3⟩ := hr.2.2.1
  refine gA r1 r2 ?_ ?_ (r3 (6 * i + k)) (by rw [hw]; exact hK)
  · rw [hj]; exact vi hk (by omega)
  · rw [hj]; exact vc (by omega)
theorem sc1 (i : Nat) : Int32.ofInt ((6 * i : Nat) : Int) + 1 = Int32.ofInt ((6 * i + 1 : Nat) : Int) := by rw [show Int32.ofInt ((6 * i : Nat) : Int) + 1 = Int32.ofInt (((6 * i : Nat) : Int) + 1) from oi_addl _ 1]; congr 1
theorem sc2 (i : Nat) : Int32.ofInt ((6 * i : Nat) : Int) + 2 = Int32.ofInt ((6 * i + 2 : Nat) : Int) := by rw [show Int32.ofInt ((6 * i : Nat) : Int) + 2 = Int32.ofInt (((6 * i : Nat) : Int) + 2) from oi_addl _ 2]; congr 1
theorem sc3 (i : Nat) : Int32.ofInt ((6 * i : Nat) : Int) + 3 = Int32.ofInt ((6 * i + 3 : Nat) : Int) := by rw [show Int32.ofInt ((6 * i : Nat) : Int) + 3 = Int32.ofInt (((6 * i : Nat) : Int) + 3) from oi_addl _ 3]; congr 1
theorem sc4 (i : Nat) : Int32.ofInt ((6 * i : Nat) : Int) + 4 = Int32.ofInt ((6 * i + 4 : Nat) : Int) := by rw [show Int32.ofInt ((6 * i : Nat) : Int) + 4 = Int32.ofInt (((6 * i : Nat) : Int) + 4) from oi_addl _ 4]; congr 1
theorem sc5 (i : Nat) : Int32.ofInt ((6 * i : Nat) : Int) + 5 = Int32.ofInt ((6 * i + 5 : Nat) : Int) := by rw [show Int32.ofInt ((6 * i : Nat) : Int) + 5 = Int32.ofInt (((6 * i : Nat) : Int) + 5) from oi_addl _ 5]; congr 1
theorem sc6 (i : Nat) : Int32.ofInt ((6 * i : Nat) : Int) + 6 = Int32.ofInt ((6 * (i + 1) : Nat) : Int) := by rw [show Int32.ofInt ((6 * i : Nat) : Int) + 6 = Int32.ofInt (((6 * i : Nat) : Int) + 6) from oi_addl _ 6]; congr 1
/-- the answers are compared -/
theorem fin_J {x : Nat} {σ : pm_H} {k : Int32} {v r : Int64} {R X Y : Prop} (hL : isL σ x (x + 1814) (x + 1812)) (hv : k = 0 → jv (pm_A σ (x + 1812) 0) = v) (hr : k = 0 → r = v) (nx : R) : (k = k → ((k = 0 → (pm_t σ (x + 1812) = 101 ∧ vp_in (0 : Int32) (pm_l σ (x + 1812))) ∧ ∀ z, z = jv (pm_A σ (x + 1812) (0 : Int32).toNatClampNeg) → ((lg_cmp z r = 0 → R) ∧ (¬ lg_cmp z r = 0 → X))) ∧ (¬ k = 0 → R))) ∧ (¬ k = k → Y) := by
  refine ⟨fun _ => ⟨fun k0 => ⟨⟨hL.2.2.1, by rw [hL.2.2.2]; exact v01⟩, fun z ez => ⟨fun _ => nx, fun q => ?_⟩⟩, fun _ => nx⟩, fun q => absurd rfl q⟩
  refine absurd ?_ q
  rw [lg_cmp_eq, ez, c00, hv k0, hr k0]
theorem fin_B {x : Nat} {σ : pm_H} {k : Int32} {v : Int64} {r : Bool} {R X Y X' : Prop} (hL : isL σ x (x + 1814) (x + 1812)) (hv : k = 0 → jv (pm_A σ (x + 1812) 0) = v) (hr : k = 0 → v = if r then 1 else 0) (nx : R) : (k = k → ((k = 0 → (pm_t σ (x + 1812) = 101 ∧ vp_in (0 : Int32) (pm_l σ (x + 1812))) ∧ ∀ z, z = jv (pm_A σ (x + 1812) (0 : Int32).toNatClampNeg) → ((bI r = 0 → ((lg_cmp z (0 : Int64) = 0 → R) ∧ (¬ lg_cmp z (0 : Int64) = 0 → X))) ∧ (¬ bI r = 0 → ((lg_cmp z (1 : Int64) = 0 → R) ∧ (¬ lg_cmp z (1 : Int64) = 0 → X'))))) ∧ (¬ k = 0 → R))) ∧ (¬ k = k → Y) := by
  refine ⟨fun _ => ⟨fun k0 => ⟨⟨hL.2.2.1, by rw [hL.2.2.2]; exact v01⟩, fun z ez => ⟨fun b0 => ⟨fun _ => nx, fun q => ?_⟩, fun b1 => ⟨fun _ => nx, fun q => ?_⟩⟩⟩, fun _ => nx⟩, fun q => absurd rfl q⟩
  · refine absurd ?_ q
    rw [lg_cmp_eq, ez, c00, hv k0, hr k0, bI_0.mp b0]; rfl
  · refine absurd ?_ q
    rw [lg_cmp_eq, ez, c00, hv k0, hr k0, bI_1.mp b1]; rfl
theorem z63 (z : Int32) : ∃ t : Nat, t < 64 ∧ z &&& 63 = Int32.ofInt (t : Int) := by
  refine ⟨z.toBitVec.toNat &&& 63, Nat.lt_of_le_of_lt Nat.and_le_right (by decide), ?_⟩
  have e : z = Int32.ofInt ((z.toBitVec.toNat : Nat) : Int) := by
    rw [← oi_nat, ← Int32.toBitVec_inj, Int32.toBitVec_ofNat', BitVec.ofNat_toNat, BitVec.setWidth_eq]
  have g := i_andN z.toBitVec.toNat 63
  rw [← e] at g
  exact g
theorem zch (z : Int32) : ∃ c : Nat, c < 65536 ∧ (z.toUInt32 % 65536).toInt32 = Int32.ofInt (c : Int) := by
  refine ⟨(z.toUInt32 % 65536).toNat, ?_, ?_⟩
  · rw [UInt32.toNat_mod]
    exact Nat.mod_lt _ (by decide)
  · generalize z.toUInt32 % 65536 = u
    rw [← oi_nat, ← Int32.toBitVec_inj, Int32.toBitVec_ofNat']
    show u.toBitVec = BitVec.ofNat 32 u.toBitVec.toNat
    rw [BitVec.ofNat_toNat, BitVec.setWidth_eq]
