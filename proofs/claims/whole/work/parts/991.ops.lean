/-! ===== what the operations share ===== -/
def rg (z : Int) : Prop := -2147483648 ≤ z ∧ z < 2147483648
theorem gI {d d' m : Nat} {As : List Value} {σ : pm_H} {b : Bool} {A B : pm_H → Prop} {X : Nat → pm_H → Prop} (h : cI d m As σ (bI b)) (hd : d ≤ d') (h0 : b = false → A σ) (h1 : b = true → B σ) : pm_C d' m As σ (pm_kI (fun r σ1 => ((r = 0 → A σ1) ∧ (¬ r = 0 → B σ1))) X) := h.use hd ⟨fun e => h0 (bI_0.mp e), fun e => h1 (bI_1.mp e)⟩
theorem gD {d d' m : Nat} {As : List Value} {σ : pm_H} {p : Prop} [Decidable p] {A B : pm_H → Prop} {X : Nat → pm_H → Prop} (h : cI d m As σ (bI (decide p))) (hd : d ≤ d') (h0 : ¬ p → A σ) (h1 : p → B σ) : pm_C d' m As σ (pm_kI (fun r σ1 => ((r = 0 → A σ1) ∧ (¬ r = 0 → B σ1))) X) := gI h hd (fun e => h0 (of_decide_eq_false e)) (fun e => h1 (of_decide_eq_true e))
theorem z_lt0 {z : Int} (hz : rg z) : Int32.ofInt z < 0 ↔ z < 0 := oi_ltl ⟨hz, by decide⟩
theorem z_lt4 {z : Int} (hz : rg z) : Int32.ofInt z < 4 ↔ z < 4 := oi_ltl ⟨hz, by decide⟩
theorem z_lt6 {z : Int} (hz : rg z) : Int32.ofInt z < 6 ↔ z < 6 := oi_ltl ⟨hz, by decide⟩
theorem z_lt12 {z : Int} (hz : rg z) : Int32.ofInt z < 12 ↔ z < 12 := oi_ltl ⟨hz, by decide⟩
theorem z_lt100 {z : Int} (hz : rg z) : Int32.ofInt z < 100 ↔ z < 100 := oi_ltl ⟨hz, by decide⟩
theorem z_le5 {z : Int} (hz : rg z) : Int32.ofInt z ≤ 5 ↔ z ≤ 5 := oi_lel ⟨hz, by decide⟩
theorem z_le8 {z : Int} (hz : rg z) : Int32.ofInt z ≤ 8 ↔ z ≤ 8 := oi_lel ⟨hz, by decide⟩
theorem z_100le {z : Int} (hz : rg z) : (100 : Int32) ≤ Int32.ofInt z ↔ 100 ≤ z := oi_lle ⟨hz, by decide⟩
theorem z_eq0 {z : Int} (hz : rg z) : Int32.ofInt z = 0 ↔ z = 0 := oi_eql ⟨hz, by decide⟩
theorem z_eq1 {z : Int} (hz : rg z) : Int32.ofInt z = 1 ↔ z = 1 := oi_eql ⟨hz, by decide⟩
theorem z_eq6 {z : Int} (hz : rg z) : Int32.ofInt z = 6 ↔ z = 6 := oi_eql ⟨hz, by decide⟩
theorem z_eq10 {z : Int} (hz : rg z) : Int32.ofInt z = 10 ↔ z = 10 := oi_eql ⟨hz, by decide⟩
theorem z_eq40 {z : Int} (hz : rg z) : Int32.ofInt z = 40 ↔ z = 40 := oi_eql ⟨hz, by decide⟩
theorem z_eq99 {z : Int} (hz : rg z) : Int32.ofInt z = 99 ↔ z = 99 := oi_eql ⟨hz, by decide⟩
theorem z_eq120 {z : Int} (hz : rg z) : Int32.ofInt z = 120 ↔ z = 120 := oi_eql ⟨hz, by decide⟩
theorem z_lt10 {z : Int} (hz : rg z) : Int32.ofInt z < 10 ↔ z < 10 := oi_ltl ⟨hz, by decide⟩
theorem z_lt120 {z : Int} (hz : rg z) : Int32.ofInt z < 120 ↔ z < 120 := oi_ltl ⟨hz, by decide⟩
theorem z_le10 {z : Int} (hz : rg z) : Int32.ofInt z ≤ 10 ↔ z ≤ 10 := oi_lel ⟨hz, by decide⟩
theorem nrg {n : Nat} (h : n < 2000000) : rg (n : Int) := ⟨by omega, by omega⟩
theorem q_slot {z : Int} {d : Nat} {σ : pm_H} {K : pm_H → Prop} {X : Nat → pm_H → Prop} (hz : rg z) (h1 : 0 ≤ z ∧ z < 4 → K σ) (h0 : ¬ (0 ≤ z ∧ z < 4) → X 0 (pm_thr σ)) : pm_C d 151 [.int (Int32.ofInt z)] σ (pm_kV K X) := by
  refine w_B_requireSlot_0 (Q := pm_kV K X) ?_
  rw [z_lt0 hz, z_lt4 hz]
  exact ⟨fun e => h0 (by omega), fun e => ⟨fun e2 => h1 (by omega), fun e2 => h0 (by omega)⟩⟩
theorem q_state {z : Int} {d : Nat} {σ : pm_H} {K : pm_H → Prop} {X : Nat → pm_H → Prop} (hz : rg z) (h1 : 0 ≤ z ∧ z < 12 → K σ) (h0 : ¬ (0 ≤ z ∧ z < 12) → X 0 (pm_thr σ)) : pm_C d 152 [.int (Int32.ofInt z)] σ (pm_kV K X) := by
  refine w_B_requireState_0 (Q := pm_kV K X) ?_
  rw [z_lt0 hz, z_lt12 hz]
  exact ⟨fun e => h0 (by omega), fun e => ⟨fun e2 => h1 (by omega), fun e2 => h0 (by omega)⟩⟩
theorem q_counted {z : Int} {d : Nat} {σ : pm_H} {K : pm_H → Prop} {X : Nat → pm_H → Prop} (hz : rg z) (h1 : 0 ≤ z ∧ z ≤ 8 → K σ) (h0 : ¬ (0 ≤ z ∧ z ≤ 8) → X 0 (pm_thr σ)) : pm_C d 154 [.int (Int32.ofInt z)] σ (pm_kV K X) := by
  refine w_B_requireCounted_0 (Q := pm_kV K X) ?_
  rw [z_lt0 hz, z_le8 hz]
  exact ⟨fun e => h0 (by omega), fun e => ⟨fun e2 => h1 (by omega), fun e2 => h0 (by omega)⟩⟩
theorem q_symbols {z y : Int} {d : Nat} {σ : pm_H} {K : pm_H → Prop} {X : Nat → pm_H → Prop} (hz : rg z) (hy : rg y) (h1 : 0 ≤ z ∧ z ≤ y ∧ y < 100 → K σ) (h0 : ¬ (0 ≤ z ∧ z ≤ y ∧ y < 100) → X 0 (pm_thr σ)) : pm_C d 153 [.int (Int32.ofInt z), .int (Int32.ofInt y)] σ (pm_kV K X) := by
  refine w_B_requireSymbols_0 (Q := pm_kV K X) ?_
  rw [z_lt0 hz, z_100le hy, oi_le ⟨hz, hy⟩]
  exact ⟨fun e => h0 (by omega), fun e => ⟨fun e2 => h0 (by omega), fun e2 => ⟨fun e3 => h1 (by omega), fun e3 => h0 (by omega)⟩⟩⟩
theorem q_rule {z : Int} {sl x N0 d : Nat} {σ : pm_H} {A : AS} {K : pm_H → Prop} {X : Nat → pm_H → Prop} (h : isB σ x N0 A) (hz : rg z) (hsl : sl < 4) (h1 : 0 ≤ z ∧ z < (aS A sl).2.length → K σ) (h0 : ¬ (0 ≤ z ∧ z < (aS A sl).2.length) → X 2 (pm_thr σ)) : pm_C d 155 [.ref x, .int (Int32.ofInt (sl : Int)), .int (Int32.ofInt z)] σ (pm_kV K X) := by
  obtain ⟨π, ht⟩ := h.2.1 sl hsl
  have hl40 := ht.2.2.2.2.1
  have vs := vi (show sl < 4 from hsl) (by omega)
  have ws := vc (show sl < 2000000 by omega)
  refine w_B_requireRule_0 (Q := pm_kV K X) ?_
  rw [z_lt0 hz]
  refine ⟨fun e => h0 (by omega), fun e => ?_⟩
  simp only [h.1.1, h.1.2.1.1, h.1.2.2.1, h.1.2.2.2.1, h.1.2.2.2.2 sl hsl, isr_ref, rv_ref, vs, ws, ht.1.1, ht.2.2.1, true_and, forall_eq]
  rw [oi_lt ⟨hz, by omega⟩]
  exact ⟨fun e2 => h1 (by omega), fun e2 => h0 (by omega)⟩
theorem q_term {z : Int} {ρ d : Nat} {σ : pm_H} {r : Rl} {K : pm_H → Prop} {X : Nat → pm_H → Prop} (h : isRu σ ρ r) (ok : okR r) (hz : rg z) (h1 : 0 ≤ z ∧ z < (rTs r).length → K σ) (h0 : ¬ (0 ≤ z ∧ z < (rTs r).length) → X 2 (pm_thr σ)) : pm_C d 156 [.ref ρ, .int (Int32.ofInt z)] σ (pm_kV K X) := by
  have hl6 := ok.2.2.2.1
  refine w_B_requireTerm_0 (Q := pm_kV K X) ?_
  rw [z_lt0 hz]
  refine ⟨fun e => h0 (by omega), fun e => ?_⟩
  simp only [h.1.1, h.2.2.2.1, iv_int, true_and, forall_eq]
  rw [oi_lt ⟨hz, by omega⟩]
  exact ⟨fun e2 => h1 (by omega), fun e2 => h0 (by omega)⟩
theorem q_index {z : Int} {w d : Nat} {σ : pm_H} {l : List Nat} {K : pm_H → Prop} {X : Nat → pm_H → Prop} (h : isWo σ w l) (hz : rg z) (h1 : 0 ≤ z ∧ z < l.length → K σ) (h0 : ¬ (0 ≤ z ∧ z < l.length) → X 2 (pm_thr σ)) : pm_C d 157 [.ref w, .int (Int32.ofInt z)] σ (pm_kV K X) := by
  have hl6 := h.2.2.1
  refine w_B_requireIndex_0 (Q := pm_kV K X) ?_
  rw [z_lt0 hz]
  refine ⟨fun e => h0 (by omega), fun e => ?_⟩
  simp only [h.1.1, h.2.1, true_and, forall_eq]
  rw [oi_lt ⟨hz, by omega⟩]
  exact ⟨fun e2 => h1 (by omega), fun e2 => h0 (by omega)⟩
/-- a slot is changed, what it was goes into the history -/
def chg (A : AS) (sl : Nat) (T : Tr) : AS := (updS (aS A) sl T, hPush (aH A) (sl, aS A sl), aL A, aW A, aR A)
theorem okH_push {hs : List (Nat × Tr)} {e : Nat × Tr} (h : okH hs) (he : e.1 < 4 ∧ okTr e.2) : okH (hPush hs e) := by
  intro y hy
  unfold hPush at hy
  rw [List.mem_append] at hy
  rcases hy with hy | hy
  · by_cases c : hs.length = 8
    · rw [if_pos c] at hy; exact h y (List.mem_of_mem_drop hy)
    · rw [if_neg c] at hy; exact h y hy
  · rw [List.mem_singleton] at hy; rw [hy]; exact he
theorem okA_chg {A : AS} {sl : Nat} {T : Tr} (h : okA A) (hsl : sl < 4) (hT : okTr T) : okA (chg A sl T) := by
  refine ⟨fun i hi => ?_, okH_push h.2.1 ⟨hsl, h.1 sl hsl⟩, h.2.2.1, h.2.2.2.1, h.2.2.2.2⟩
  show okTr (updS (aS A) sl T i)
  unfold updS
  by_cases e : i = sl
  · rw [if_pos e]; exact hT
  · rw [if_neg e]; exact h.1 i hi
theorem isB_chg {σ σ1 σ2 : pm_H} {x N0 sl : Nat} {A : AS} {T : Tr} (h : isB σ x N0 A) (hsl : sl < 4) (p1 : isHi σ1 (x + 612) (hPush (aH A) (sl, aS A sl))) (f1 : fr (pHi (x + 612)) σ σ1) (f2 : fr (pTr (x + 2 + 122 * sl)) σ1 σ2) (t2 : ∃ π, isTr σ2 (x + 2 + 122 * sl) T π) : isB σ2 x N0 (chg A sl T) ∧ fB x N0 1 6 σ σ2 := by
  have f : fr (fun b => pHi (x + 612) b ∨ pTr (x + 2 + 122 * sl) b) σ σ2 := (f1.mono (fun _ q => Or.inl q)).tr (f2.mono (fun _ q => Or.inr q))
  refine ⟨isB_mk h f ⟨?_, ?_⟩ (fun i hi => ?_) (Or.inl (fun b hb => ?_)) (Or.inr (isHi_fr p1 f2 (fun b hb => ?_))) (Or.inl ⟨fun b hb => ?_, rfl⟩) (Or.inl ⟨fun b hb => ?_, rfl⟩) (Or.inl ⟨fun b hb => ?_, rfl⟩) (Or.inl (fun b hb => ?_)) (Or.inl (fun b hb => ?_)) (Or.inl ?_) (Or.inl (fun b hb => ?_)), fB_fr f (fun b hb => ?_)⟩
  · unfold pHi pTr; omega
  · unfold pHi pTr; omega
  · by_cases e : i = sl
    · refine Or.inr ?_
      subst e
      show ∃ π, isTr σ2 _ (updS (aS A) i T i) π
      rw [updS_eq]; exact t2
    · refine Or.inl ⟨fun b hb => ?_, updS_ne e⟩
      unfold pTr at hb
      unfold pHi pTr; omega
  · unfold pTr at hb; unfold pHi pTr; omega
  · unfold pHi at hb; unfold pTr; omega
  · unfold pRe at hb; unfold pHi pTr; omega
  · unfold pWo at hb; unfold pHi pTr; omega
  · unfold pWo at hb; unfold pHi pTr; omega
  · unfold pO at hb; unfold pHi pTr; omega
  · unfold pDo at hb; unfold pHi pTr; omega
  · unfold pHi pTr; omega
  · unfold pCo at hb; unfold pHi pTr; omega
  · unfold pHi pTr at hb; unfold pB; omega
theorem isM_chg {σ σ1 σ2 σ3 : pm_H} {m sl : Nat} {A : AS} {T : Tr} {As0 Fs As Sl : Nat → Prop} (h : isM σ m A) (hA : okA A) (hsl : sl < 4) (f0 : frT m As0 (fun s => s = 4) σ σ1) (hA0 : ∀ i, As0 i → i ≤ 9 ∨ 14 ≤ i) (p1 : mHi σ2 m (hPush (aH A) (sl, aS A sl))) (f1 : frX m (fun f => f = 1211) (fun i => 1 ≤ i ∧ i ≤ 10) (fun s => 5 ≤ s) σ1 σ2) (f2 : frX m Fs As Sl σ2 σ3) (hF : ∀ f, Fs f → f = 1200) (hAs : ∀ i, As i → i ≤ 9 ∨ 14 ≤ i) (hSl : ∀ s, Sl s → s = sl) (t2 : mTr σ3 m sl T) : isM σ3 m (chg A sl T) ∧ fr (fun b => m ≤ b ∧ b ≤ m + 34) σ σ3 := by
  have hp := okH_push (e := (sl, aS A sl)) hA.2.1 ⟨hsl, hA.1 sl hsl⟩
  have f : frX m (fun f => f = 1200 ∨ f = 1211) (fun i => i ≤ 10 ∨ 14 ≤ i) (fun s => s = 4 ∨ 5 ≤ s ∨ s = sl) σ σ3 := ((frX.mono f0 (fun _ q => Or.inl q) (fun i q => by have := hA0 i q; omega) (fun _ q => Or.inl q)).tr (f1.mono (fun _ q => Or.inr q) (fun i q => by omega) (fun _ q => Or.inr (Or.inl q)))).tr (f2.mono (fun f q => Or.inl (hF f q)) (fun i q => by have := hAs i q; omega) (fun s q => Or.inr (Or.inr (hSl s q))))
  refine ⟨isM_mk h hA f (fun f hf => ?_) (fun i hi => ?_) (Or.inr (mHi_X p1 hp f2 (fun q => ?_) (fun q => ?_) (fun s hs q => ?_))) (Or.inl ⟨by omega, by omega, rfl⟩) (Or.inl ⟨by omega, by omega, rfl⟩) (Or.inl ⟨by omega, by omega, rfl⟩), f.fr⟩
  · rcases hf with e | e <;> (rw [e]; decide)
  · by_cases e : i = sl
    · refine Or.inr ?_
      subst e
      show mTr σ3 m i (updS (aS A) i T i)
      rw [updS_eq]; exact t2
    · exact Or.inl ⟨by omega, updS_ne e⟩
  · have := hF _ q; omega
  · have := hAs _ q; omega
  · have := hSl s q; omega
/-- the cell of the answers -/
def isL (σ : pm_H) (x N0 L : Nat) : Prop := L < N0 ∧ ¬ pB x L ∧ pm_t σ L = 101 ∧ pm_l σ L = 1
theorem c00 : (0 : Int32).toNatClampNeg = 0 := by decide
theorem v01 : vp_in (0 : Int32) 1 := by rw [vp_in_iff]; decide
theorem isB_L {σ : pm_H} {x N0 L : Nat} {A : AS} {v : Value} (h : isB σ x N0 A) (hL : isL σ x N0 L) : isB (pm_sA σ L 0 v) x N0 A := by
  have hn := hL.2.1
  unfold pB at hn
  refine isB_mk h (P := fun b => b = L) (fr_sA rfl) ⟨by omega, by omega⟩ (fun i hi => Or.inl ⟨fun b hb => ?_, rfl⟩) (Or.inl (fun b hb => ?_)) (Or.inl ⟨fun b hb => ?_, rfl⟩) (Or.inl ⟨fun b hb => ?_, rfl⟩) (Or.inl ⟨fun b hb => ?_, rfl⟩) (Or.inl ⟨fun b hb => ?_, rfl⟩) (Or.inl (fun b hb => ?_)) (Or.inl (fun b hb => ?_)) (Or.inl (by omega)) (Or.inl (fun b hb => ?_))
  · unfold pTr at hb; omega
  · unfold pTr at hb; omega
  · unfold pHi at hb; omega
  · unfold pRe at hb; omega
  · unfold pWo at hb; omega
  · unfold pWo at hb; omega
  · unfold pO at hb; omega
  · unfold pDo at hb; omega
  · unfold pCo at hb; omega
theorem fB.L {σ σ' : pm_H} {x N0 c w L : Nat} (h : fB x N0 c w σ σ') (hL : isL σ x N0 L) : isL σ' x N0 L := by
  refine ⟨hL.1, hL.2.1, ?_, ?_⟩
  · rw [(h.1 L hL.1 hL.2.1).1]; exact hL.2.2.1
  · rw [(h.1 L hL.1 hL.2.1).2.1]; exact hL.2.2.2
/-- the answer of a call is kept -/
theorem L_okJ {σ σ1 : pm_H} {x N0 c w L : Nat} {A : AS} {v : Int64} (hL : isL σ x N0 L) (h : isB σ1 x N0 A) (f : fB x N0 c w σ σ1) : (pm_t σ1 L = 101 ∧ vp_in ((0 : Int32)) (pm_l σ1 L)) ∧ ∀ σ2, σ2 = pm_sA σ1 L ((0 : Int32)).toNatClampNeg (.long v) → bOut x N0 c w σ 0 v A L (.inl (some (.int ((0 : Int32))))) σ2 := by
  have g := f.L hL
  refine ⟨⟨g.2.2.1, by rw [g.2.2.2]; exact v01⟩, fun σ2 e => ?_⟩
  rw [c00] at e
  refine ⟨rfl, by rw [e]; exact isB_L h g, fun _ => ?_, σ1, f, Or.inr ⟨_, e⟩⟩
  rw [e, A_sA, if_pos ⟨rfl, rfl⟩]; rfl
theorem L_ok {σ σ1 : pm_H} {x N0 c w L : Nat} {A : AS} {v : Int32} (hL : isL σ x N0 L) (h : isB σ1 x N0 A) (f : fB x N0 c w σ σ1) : (pm_t σ1 L = 101 ∧ vp_in ((0 : Int32)) (pm_l σ1 L)) ∧ ∀ σ2, σ2 = pm_sA σ1 L ((0 : Int32)).toNatClampNeg (.long v.toInt64) → bOut x N0 c w σ 0 v.toInt64 A L (.inl (some (.int ((0 : Int32))))) σ2 := L_okJ hL h f
theorem L_okB {σ σ1 : pm_H} {x N0 c w L : Nat} {A : AS} {b : Bool} (hL : isL σ x N0 L) (h : isB σ1 x N0 A) (f : fB x N0 c w σ σ1) : (bI b = 0 → (pm_t σ1 L = 101 ∧ vp_in ((0 : Int32)) (pm_l σ1 L)) ∧ ∀ σ2, σ2 = pm_sA σ1 L ((0 : Int32)).toNatClampNeg (.long ((0 : Int64))) → bOut x N0 c w σ 0 (if b then 1 else 0) A L (.inl (some (.int ((0 : Int32))))) σ2) ∧ (¬ bI b = 0 → (pm_t σ1 L = 101 ∧ vp_in ((0 : Int32)) (pm_l σ1 L)) ∧ ∀ σ2, σ2 = pm_sA σ1 L ((0 : Int32)).toNatClampNeg (.long ((1 : Int64))) → bOut x N0 c w σ 0 (if b then 1 else 0) A L (.inl (some (.int ((0 : Int32))))) σ2) := by
  cases b with
  | true => exact ⟨fun q => absurd (bI_0.mp q) (by decide), fun _ => L_okJ hL h f⟩
  | false => exact ⟨fun _ => L_okJ hL h f, fun q => absurd (bI_1.mp q) (by decide)⟩
theorem L_okJ2 {σ σ1 : pm_H} {x N0 c w L : Nat} {A : AS} {v : Int64} (hL : isL σ x N0 L) (h : isB σ1 x N0 A) (f : fB x N0 c w σ σ1) : (pm_t σ1 L = 101 ∧ vp_in ((0 : Int32)) (pm_l σ1 L)) ∧ bOut x N0 c w σ 0 v A L (.inl (some (.int ((0 : Int32))))) (pm_sA σ1 L ((0 : Int32)).toNatClampNeg (.long v)) := ⟨(L_okJ (v := v) hL h f).1, (L_okJ (v := v) hL h f).2 _ rfl⟩
theorem L_ok2 {σ σ1 : pm_H} {x N0 c w L : Nat} {A : AS} {v : Int32} (hL : isL σ x N0 L) (h : isB σ1 x N0 A) (f : fB x N0 c w σ σ1) : (pm_t σ1 L = 101 ∧ vp_in ((0 : Int32)) (pm_l σ1 L)) ∧ bOut x N0 c w σ 0 v.toInt64 A L (.inl (some (.int ((0 : Int32))))) (pm_sA σ1 L ((0 : Int32)).toNatClampNeg (.long v.toInt64)) := L_okJ2 hL h f
theorem L_okB2 {σ σ1 : pm_H} {x N0 c w L : Nat} {A : AS} {b : Bool} (hL : isL σ x N0 L) (h : isB σ1 x N0 A) (f : fB x N0 c w σ σ1) : (bI b = 0 → (pm_t σ1 L = 101 ∧ vp_in ((0 : Int32)) (pm_l σ1 L)) ∧ bOut x N0 c w σ 0 (if b then 1 else 0) A L (.inl (some (.int ((0 : Int32))))) (pm_sA σ1 L ((0 : Int32)).toNatClampNeg (.long ((0 : Int64))))) ∧ (¬ bI b = 0 → (pm_t σ1 L = 101 ∧ vp_in ((0 : Int32)) (pm_l σ1 L)) ∧ bOut x N0 c w σ 0 (if b then 1 else 0) A L (.inl (some (.int ((0 : Int32))))) (pm_sA σ1 L ((0 : Int32)).toNatClampNeg (.long ((1 : Int64))))) := by
  have q := L_okB hL h f (b := b)
  exact ⟨fun e => ⟨(q.1 e).1, (q.1 e).2 _ rfl⟩, fun e => ⟨(q.2 e).1, (q.2 e).2 _ rfl⟩⟩
theorem L_ex {σ σ1 : pm_H} {x N0 c w L : Nat} {A : AS} {k : Int32} (hk : k ≠ 0) (h : isB σ1 x N0 A) (f : fB x N0 c w σ σ1) : bOut x N0 c w σ k 0 A L (.inl (some (.int k))) σ1 := ⟨rfl, h, fun q => absurd q hk, σ1, f, Or.inl rfl⟩
theorem L_thr {σ : pm_H} {x N0 L : Nat} {A : AS} {k : Int32} (hk : k ≠ 0) (h : isB σ x N0 A) : bOut x N0 1 6 σ k 0 A L (.inl (some (.int k))) (pm_thr σ) := L_ex hk (isB_thr h) (fB_thr (P := fun _ => False) fr.rf (fun _ q => q.elim))
theorem mCo_e {σ σ1 : pm_H} {m : Nat} {A : AS} {k : Int32} (h : isM σ m A) (hA : okA A) (f : frT m (fun _ => False) (fun _ => False) σ σ1) (z : iv (pm_F σ1 1200 m) = k) : mCo m σ k A σ1 := ⟨z, isM_scr h hA f (fun _ q => Or.inl q) (fun _ q => q.elim) (fun _ q => q.elim), frX.fr f⟩
theorem mOut_e {σ σ1 : pm_H} {m : Nat} {A : AS} {k r : Int32} (hk : k ≠ 0) (h : isM σ m A) (hA : okA A) (f : frT m (fun _ => False) (fun _ => False) σ σ1) (z : iv (pm_F σ1 1200 m) = k) : mOut m σ k 0 A (.inl (some (.int r))) σ1 := ⟨⟨r, rfl, fun q => absurd q hk⟩, mCo_e h hA f z⟩
theorem mOutJ_e {σ σ1 : pm_H} {m : Nat} {A : AS} {k : Int32} {r : Int64} (hk : k ≠ 0) (h : isM σ m A) (hA : okA A) (f : frT m (fun _ => False) (fun _ => False) σ σ1) (z : iv (pm_F σ1 1200 m) = k) : mOutJ m σ k 0 A (.inl (some (.long r))) σ1 := ⟨⟨r, rfl, fun q => absurd q hk⟩, mCo_e h hA f z⟩
theorem mOutB_e {σ σ1 : pm_H} {m : Nat} {A : AS} {k : Int32} (hk : k ≠ 0) (h : isM σ m A) (hA : okA A) (f : frT m (fun _ => False) (fun _ => False) σ σ1) (z : iv (pm_F σ1 1200 m) = k) : mOutB m σ k 0 A (.inl (some (.int ((0 : Int32))))) σ1 := ⟨⟨false, rfl, fun q => absurd q hk⟩, mCo_e h hA f z⟩
