/-! ===== steps of rows, one at a time ===== -/
theorem rdR {σ : pm_H} {a b k f : Nat} {K : Nat → Prop} (h1 : pm_t σ a = k) (h2 : pm_F σ f a = .ref b) (h : K b) : (pm_t σ a = k ∧ isr (pm_F σ f a) = true) ∧ ∀ z, z = rv (pm_F σ f a) → K z := by
  rw [h2]; exact ⟨⟨h1, rfl⟩, fun z ez => by rw [ez]; exact h⟩
theorem rdF {σ : pm_H} {a k f : Nat} {c : Int32} {K : Int32 → Prop} (h1 : pm_t σ a = k) (h2 : iv (pm_F σ f a) = c) (h : K c) : pm_t σ a = k ∧ ∀ z, z = iv (pm_F σ f a) → K z := ⟨h1, fun z ez => by rw [ez, h2]; exact h⟩
theorem gA {σ : pm_H} {a k i len : Nat} {j c : Int32} {K : Int32 → Prop} (h1 : pm_t σ a = k) (h2 : pm_l σ a = len) (h3 : vp_in j len) (h4 : j.toNatClampNeg = i) (h5 : iv (pm_A σ a i) = c) (h : K c) : (pm_t σ a = k ∧ vp_in j (pm_l σ a)) ∧ ∀ z, z = iv (pm_A σ a j.toNatClampNeg) → K z :=
  ⟨⟨h1, by rw [h2]; exact h3⟩, fun z ez => by rw [ez, h4, h5]; exact h⟩
theorem gAr {σ : pm_H} {a k i len b : Nat} {j : Int32} {K : Nat → Prop} (h1 : pm_t σ a = k) (h2 : pm_l σ a = len) (h3 : vp_in j len) (h4 : j.toNatClampNeg = i) (h5 : pm_A σ a i = .ref b) (h : K b) : (pm_t σ a = k ∧ vp_in j (pm_l σ a) ∧ isr (pm_A σ a j.toNatClampNeg) = true) ∧ ∀ z, z = rv (pm_A σ a j.toNatClampNeg) → K z := by
  rw [h4, h5]
  exact ⟨⟨h1, by rw [h2]; exact h3, rfl⟩, fun z ez => by rw [ez]; exact h⟩
theorem ivq {v v' : Value} {c : Int32} (he : v' = v) (h : iv v = c) : iv v' = c := by rw [he]; exact h
theorem ivo {v : Value} {z : Int32} (h : v = .int z) : iv v = z := by rw [h]; rfl
theorem wF {σ : pm_H} {a k f : Nat} {v : Value} {K : pm_H → Prop} (h1 : pm_t σ a = k) (h : ∀ σ', σ' = pm_sF σ f a v → K σ') : pm_t σ a = k ∧ ∀ σ', σ' = pm_sF σ f a v → K σ' := ⟨h1, h⟩
theorem wA {σ : pm_H} {a k i len : Nat} {j : Int32} {v : Value} {K : pm_H → Prop} (h1 : pm_t σ a = k) (h2 : pm_l σ a = len) (h3 : vp_in j len) (h4 : j.toNatClampNeg = i) (h : ∀ σ', σ' = pm_sA σ a i v → K σ') : (pm_t σ a = k ∧ vp_in j (pm_l σ a)) ∧ ∀ σ', σ' = pm_sA σ a j.toNatClampNeg v → K σ' :=
  ⟨⟨h1, by rw [h2]; exact h3⟩, fun σ' e => h σ' (by rw [e, h4])⟩
/-! ===== the pairing's cells ===== -/
def pcZ (σ : pm_H) (e : Nat) : Prop := pm_t σ e = 5 ∧ (pm_F σ 400 e = .ref (e + 1) ∧ pm_F σ 401 e = .ref (e + 2) ∧ pm_F σ 402 e = .ref (e + 3) ∧ pm_F σ 404 e = .ref (e + 4) ∧ pm_F σ 405 e = .ref (e + 5) ∧ pm_F σ 408 e = .ref (e + 7) ∧ pm_F σ 409 e = .ref (e + 8)) ∧ (pm_t σ (e + 1) = 102 ∧ pm_l σ (e + 1) = 144 ∧ pm_t σ (e + 2) = 102 ∧ pm_l σ (e + 2) = 144 ∧ pm_t σ (e + 3) = 100 ∧ pm_l σ (e + 3) = 144 ∧ pm_t σ (e + 4) = 100 ∧ pm_l σ (e + 4) = 144 ∧ pm_t σ (e + 5) = 100 ∧ pm_l σ (e + 5) = 144 ∧ pm_t σ (e + 7) = 100 ∧ pm_l σ (e + 7) = 864 ∧ pm_t σ (e + 8) = 100 ∧ pm_l σ (e + 8) = 864)
def paP (σ : pm_H) (e N0 p k : Nat) : Prop := pm_F σ 406 e = .ref p ∧ (p = e + 6 ∨ (N0 ≤ p ∧ p < pm_n σ)) ∧ pm_t σ p = 100 ∧ k ≤ 8 ∧ pm_l σ p = 864 * 2 ^ k ∧ ((k = 0 ∧ p = e + 6) ∨ N0 ≤ p)
theorem pcZ.t0 {σ : pm_H} {e : Nat} (h : pcZ σ e) : pm_t σ e = 5 := h.1
theorem pcZ.f400 {σ : pm_H} {e : Nat} (h : pcZ σ e) : pm_F σ 400 e = .ref (e + 1) := h.2.1.1
theorem pcZ.f401 {σ : pm_H} {e : Nat} (h : pcZ σ e) : pm_F σ 401 e = .ref (e + 2) := h.2.1.2.1
theorem pcZ.f402 {σ : pm_H} {e : Nat} (h : pcZ σ e) : pm_F σ 402 e = .ref (e + 3) := h.2.1.2.2.1
theorem pcZ.f404 {σ : pm_H} {e : Nat} (h : pcZ σ e) : pm_F σ 404 e = .ref (e + 4) := h.2.1.2.2.2.1
theorem pcZ.f405 {σ : pm_H} {e : Nat} (h : pcZ σ e) : pm_F σ 405 e = .ref (e + 5) := h.2.1.2.2.2.2.1
theorem pcZ.f408 {σ : pm_H} {e : Nat} (h : pcZ σ e) : pm_F σ 408 e = .ref (e + 7) := h.2.1.2.2.2.2.2.1
theorem pcZ.f409 {σ : pm_H} {e : Nat} (h : pcZ σ e) : pm_F σ 409 e = .ref (e + 8) := h.2.1.2.2.2.2.2.2
theorem pcZ.t1 {σ : pm_H} {e : Nat} (h : pcZ σ e) : pm_t σ (e + 1) = 102 := h.2.2.1
theorem pcZ.l1 {σ : pm_H} {e : Nat} (h : pcZ σ e) : pm_l σ (e + 1) = 144 := h.2.2.2.1
theorem pcZ.t2 {σ : pm_H} {e : Nat} (h : pcZ σ e) : pm_t σ (e + 2) = 102 := h.2.2.2.2.1
theorem pcZ.l2 {σ : pm_H} {e : Nat} (h : pcZ σ e) : pm_l σ (e + 2) = 144 := h.2.2.2.2.2.1
theorem pcZ.t3 {σ : pm_H} {e : Nat} (h : pcZ σ e) : pm_t σ (e + 3) = 100 := h.2.2.2.2.2.2.1
theorem pcZ.l3 {σ : pm_H} {e : Nat} (h : pcZ σ e) : pm_l σ (e + 3) = 144 := h.2.2.2.2.2.2.2.1
theorem pcZ.t4 {σ : pm_H} {e : Nat} (h : pcZ σ e) : pm_t σ (e + 4) = 100 := h.2.2.2.2.2.2.2.2.1
theorem pcZ.l4 {σ : pm_H} {e : Nat} (h : pcZ σ e) : pm_l σ (e + 4) = 144 := h.2.2.2.2.2.2.2.2.2.1
theorem pcZ.t5 {σ : pm_H} {e : Nat} (h : pcZ σ e) : pm_t σ (e + 5) = 100 := h.2.2.2.2.2.2.2.2.2.2.1
theorem pcZ.l5 {σ : pm_H} {e : Nat} (h : pcZ σ e) : pm_l σ (e + 5) = 144 := h.2.2.2.2.2.2.2.2.2.2.2.1
theorem pcZ.t7 {σ : pm_H} {e : Nat} (h : pcZ σ e) : pm_t σ (e + 7) = 100 := h.2.2.2.2.2.2.2.2.2.2.2.2.1
theorem pcZ.l7 {σ : pm_H} {e : Nat} (h : pcZ σ e) : pm_l σ (e + 7) = 864 := h.2.2.2.2.2.2.2.2.2.2.2.2.2.1
theorem pcZ.t8 {σ : pm_H} {e : Nat} (h : pcZ σ e) : pm_t σ (e + 8) = 100 := h.2.2.2.2.2.2.2.2.2.2.2.2.2.2.1
theorem pcZ.l8 {σ : pm_H} {e : Nat} (h : pcZ σ e) : pm_l σ (e + 8) = 864 := h.2.2.2.2.2.2.2.2.2.2.2.2.2.2.2
theorem isPa_iff {σ : pm_H} {e N0 : Nat} : isPa σ e N0 ↔ pcZ σ e ∧ ∃ p k, paP σ e N0 p k := by
  constructor
  · rintro ⟨h1, h2, h3, p, h4, h5, h6, k, h7, h8, h9⟩
    exact ⟨⟨h1, h2, h3⟩, p, k, h4, h5, h6, h7, h8, h9⟩
  · rintro ⟨⟨h1, h2, h3⟩, p, k, h4, h5, h6, h7, h8, h9⟩
    exact ⟨h1, h2, h3, p, h4, h5, h6, k, h7, h8, h9⟩
/-- the scratch of outputs changes only -/
def fs (e : Nat) (σ σ' : pm_H) : Prop := fr (fun b => b = e ∨ b = e + 7 ∨ b = e + 8) σ σ' ∧ ∀ f, f ≠ 410 → f ≠ 411 → pm_F σ' f e = pm_F σ f e
theorem fs.rf {e : Nat} {σ : pm_H} : fs e σ σ := ⟨fr.rf, fun _ _ _ => rfl⟩
theorem fs.tr {e : Nat} {σ σ1 σ2 : pm_H} (h : fs e σ σ1) (g : fs e σ1 σ2) : fs e σ σ2 := ⟨h.1.tr g.1, fun f a b => (g.2 f a b).trans (h.2 f a b)⟩
theorem fs_sF {e f : Nat} {v : Value} {σ : pm_H} (hf : f = 410 ∨ f = 411) : fs e σ (pm_sF σ f e v) := by
  refine ⟨fr_sF (Or.inl rfl), fun g h1 h2 => ?_⟩
  rw [F_sF, if_neg (by omega)]
theorem fs_sA {e a i : Nat} {v : Value} {σ : pm_H} (ha : a = e + 7 ∨ a = e + 8) : fs e σ (pm_sA σ a i v) := ⟨fr_sA (Or.inr ha), fun _ _ _ => rfl⟩
theorem fs_cp {e a0 sp a dp n : Nat} {σ : pm_H} (ha : a = e + 7 ∨ a = e + 8) : fs e σ (pm_cp σ a0 sp a dp n) := ⟨fr_cp (Or.inr ha), fun _ _ _ => rfl⟩
theorem fs.A {e a : Nat} {σ σ' : pm_H} (h : fs e σ σ') (h1 : a ≠ e) (h2 : a ≠ e + 7) (h3 : a ≠ e + 8) (j : Nat) : pm_A σ' a j = pm_A σ a j := h.1.A (by omega)
theorem fs.z {e : Nat} {σ σ' : pm_H} (h : fs e σ σ') (hz : pcZ σ e) : pcZ σ' e := by
  unfold pcZ
  simp only [h.1.t, h.1.l, h.2 400 (by omega) (by omega), h.2 401 (by omega) (by omega), h.2 402 (by omega) (by omega), h.2 404 (by omega) (by omega), h.2 405 (by omega) (by omega), h.2 408 (by omega) (by omega), h.2 409 (by omega) (by omega)]
  exact hz
theorem fs.p {e N0 p k : Nat} {σ σ' : pm_H} (h : fs e σ σ') (hp : paP σ e N0 p k) : paP σ' e N0 p k := by
  unfold paP
  simp only [h.1.t, h.1.l, h.1.n, h.2 406 (by omega) (by omega)]
  exact hp
theorem fs.h {e : Nat} {σ σ' : pm_H} {H : Nat → Bool} (h : fs e σ σ') (hh : hpT σ e H) : hpT σ' e H := fun p hp => by rw [h.A (by omega) (by omega) (by omega)]; exact hh p hp
/-- the pool is none of the other cells -/
theorem paP.ne {σ : pm_H} {e N0 p k : Nat} (h : paP σ e N0 p k) (hN : e + 9 ≤ N0) : p = e + 6 ∨ e + 9 ≤ p := by
  rcases h.2.1 with q | q
  · exact Or.inl q
  · exact Or.inr (by omega)
/-- what is known of an entry -/
def entC (σ : pm_H) (e p : Nat) (q x : Nat) (u v : List Nat) : Prop := iv (pm_A σ (e + 2) x) = 1 ∧ iv (pm_A σ (e + 4) x) = Int32.ofInt ((u.length : Int) - (v.length : Int)) ∧ ∃ st : Nat, iv (pm_A σ (e + 5) x) = Int32.ofInt (st : Int) ∧ st + u.length + v.length ≤ q ∧ ∀ j c : Nat, (u ++ v)[j]? = some c → iv (pm_A σ p (st + j)) = Int32.ofInt (c : Int)
def tabC (σ : pm_H) (e p : Nat) (S : List Ent) : Prop := iv (pm_F σ 403 e) = Int32.ofInt (S.length : Int) ∧ (∃ q : Nat, iv (pm_F σ 407 e) = Int32.ofInt (q : Int) ∧ q ≤ 864 * S.length ∧ q ≤ pm_l σ p ∧ ∀ (i x : Nat) (u v : List Nat), S[i]? = some (x, u, v) → iv (pm_A σ (e + 3) i) = Int32.ofInt (x : Int) ∧ entC σ e p q x u v) ∧ ∀ x, x < 144 → x ∉ keys S → iv (pm_A σ (e + 2) x) = 0
theorem fs.e {e p q x : Nat} {u v : List Nat} {σ σ' : pm_H} (h : fs e σ σ') (hp : p = e + 6 ∨ e + 9 ≤ p) (he : entC σ e p q x u v) : entC σ' e p q x u v := by
  obtain ⟨h1, h2, st, h3, h4, h5⟩ := he
  refine ⟨?_, ?_, st, ?_, h4, fun j c hc => ?_⟩
  · rw [h.A (by omega) (by omega) (by omega)]; exact h1
  · rw [h.A (by omega) (by omega) (by omega)]; exact h2
  · rw [h.A (by omega) (by omega) (by omega)]; exact h3
  · rw [h.A (by omega) (by omega) (by omega)]; exact h5 j c hc
theorem fs.tb {e p : Nat} {S : List Ent} {σ σ' : pm_H} (h : fs e σ σ') (hp : p = e + 6 ∨ e + 9 ≤ p) (ht : tabC σ e p S) : tabC σ' e p S := by
  obtain ⟨h1, ⟨q, h2, h3, h4, h5⟩, h6⟩ := ht
  refine ⟨by rw [h.2 403 (by omega) (by omega)]; exact h1, ⟨q, by rw [h.2 407 (by omega) (by omega)]; exact h2, h3, by rw [h.1.l]; exact h4, fun i x u v hi => ⟨?_, h.e hp (h5 i x u v hi).2⟩⟩, fun x hx hn => ?_⟩
  · rw [h.A (by omega) (by omega) (by omega)]; exact (h5 i x u v hi).1
  · rw [h.A (by omega) (by omega) (by omega)]; exact h6 x hx hn
/-- both outputs -/
def wdT (σ : pm_H) (a : Nat) (w : List Nat) : Prop := ∀ i c : Nat, w[i]? = some c → iv (pm_A σ a i) = Int32.ofInt (c : Int)
def fsT (σ : pm_H) (e : Nat) (x y : List Nat) : Prop := iv (pm_F σ 410 e) = Int32.ofInt (x.length : Int) ∧ iv (pm_F σ 411 e) = Int32.ofInt (y.length : Int) ∧ wdT σ (e + 7) x ∧ wdT σ (e + 8) y
theorem mx0 {a : Int} (h : -2000000 < a ∧ a < 2000000) : (if Int32.ofInt a < 0 then 0 else Int32.ofInt a) = Int32.ofInt (if a < 0 then 0 else a) := by
  have : Int32.ofInt a < 0 ↔ a < 0 := z_lt0 ⟨by omega, by omega⟩
  by_cases c : a < 0
  · rw [if_pos (this.mpr c), if_pos c]; rfl
  · rw [if_neg (fun q => c (this.mp q)), if_neg c]
theorem n32 {n : Nat} (h : n < 2000000) : ¬ Int32.ofInt (n : Int) < 0 := by
  rw [z_lt0 ⟨by omega, by omega⟩]; omega
theorem s_Pa_loadAhead {σ : pm_H} {e N0 p k q x : Nat} {u v : List Nat} (hz : pcZ σ e) (hp : paP σ e N0 p k) (hN : e + 9 ≤ N0) (he : entC σ e p q x u v) (hq : q ≤ pm_l σ p) (hx : x < 144) (hl : u.length + v.length ≤ 864) (ho : u = [] ∨ v = []) : cV 0 36 [.ref e, .int (Int32.ofInt (x : Int))] σ (fun σ' => fsT σ' e u v ∧ fs e σ σ') := by
  have vx := vi (show x < 144 from hx) (by omega)
  have wx := vc (show x < 2000000 by omega)
  have pn := hp.ne hN
  have hk := hp.2.2.2.1
  have hlp := hp.2.2.2.2.1
  have p28 : 2 ^ k ≤ 2 ^ 8 := Nat.pow_le_pow_right (by decide) hk
  obtain ⟨a1, a2, st, a3, a4, a5⟩ := he
  have a6 : st + u.length + v.length < 2000000 := by omega
  have uv : (if (u.length : Int) - (v.length : Int) < 0 then (0 : Int) else (u.length : Int) - (v.length : Int)) = (u.length : Int) ∧ (if (v.length : Int) - (u.length : Int) < 0 then (0 : Int) else (v.length : Int) - (u.length : Int)) = (v.length : Int) := by
    rcases ho with c | c
    · rw [c]; simp; omega
    · rw [c]; simp; omega
  refine w_Pa_loadAhead_0 ?_
  refine rdR hz.t0 hz.f404 ?_
  refine gA hz.t4 hz.l4 vx wx a2 ?_
  refine wF hz.t0 (fun σ3 e3 => ?_)
  rw [mx0 (by omega), uv.1] at e3
  have f3 : fs e σ σ3 := by rw [e3]; exact fs_sF (Or.inl rfl)
  have z3 := f3.z hz
  have b3 : iv (pm_F σ3 410 e) = Int32.ofInt (u.length : Int) := by rw [e3, F_sF, if_pos ⟨rfl, rfl⟩]; rfl
  refine rdR z3.t0 z3.f404 ?_
  refine gA z3.t4 z3.l4 vx wx (ivq (f3.A (by omega) (by omega) (by omega) _) a2) ?_
  refine wF z3.t0 (fun σ6 e6 => ?_)
  rw [oi_negs, show -((u.length : Int) - (v.length : Int)) = (v.length : Int) - (u.length : Int) by omega, mx0 (by omega), uv.2] at e6
  have f6' : fs e σ3 σ6 := by rw [e6]; exact fs_sF (Or.inr rfl)
  have f6 := f3.tr f6'
  have z6 := f6.z hz
  have p6 := f6.p hp
  have b6 : iv (pm_F σ6 410 e) = Int32.ofInt (u.length : Int) := by rw [e6, F_sF, if_neg (by omega)]; exact b3
  have c6 : iv (pm_F σ6 411 e) = Int32.ofInt (v.length : Int) := by rw [e6, F_sF, if_pos ⟨rfl, rfl⟩]; rfl
  refine rdR z6.t0 p6.1 ?_
  refine rdR z6.t0 z6.f405 ?_
  refine gA z6.t5 z6.l5 vx wx (ivq (f6.A (by omega) (by omega) (by omega) _) a3) ?_
  refine rdR z6.t0 z6.f408 ?_
  refine rdF z6.t0 b6 ?_
  have wst := vc (show st < 2000000 by omega)
  have wu := vc (show u.length < 2000000 by omega)
  have wv := vc (show v.length < 2000000 by omega)
  refine ⟨⟨p6.2.2.1, z6.t7, n32 (by omega), i32_00, n32 (by omega), ?_, ?_⟩, fun σ12 e12 => ?_⟩
  · rw [wst, wu, f6.1.l]; omega
  · rw [c00, wu, z6.l7]; omega
  rw [wst, wu, c00] at e12
  have f12 : fs e σ6 σ12 := by rw [e12]; exact fs_cp (Or.inl rfl)
  have g12 := f6.tr f12
  have z12 := g12.z hz
  have p12 := g12.p hp
  refine rdR z12.t0 p12.1 ?_
  refine rdR z12.t0 z12.f405 ?_
  refine gA z12.t5 z12.l5 vx wx (ivq (g12.A (by omega) (by omega) (by omega) _) a3) ?_
  refine rdR z12.t0 z12.f409 ?_
  refine rdF z12.t0 (ivq (by rw [e12, F_cp]) c6) ?_
  refine ⟨⟨p12.2.2.1, z12.t8, n32 (by omega), i32_00, n32 (by omega), ?_, ?_⟩, fun σ18 e18 => ?_⟩
  · rw [wst, wv, g12.1.l]; omega
  · rw [c00, wv, z12.l8]; omega
  rw [wst, wv, c00] at e18
  have f18 : fs e σ12 σ18 := by rw [e18]; exact fs_cp (Or.inr rfl)
  refine ⟨rfl, ⟨?_, ?_, fun i c hc => ?_, fun i c hc => ?_⟩, g12.tr f18⟩
  · rw [e18, F_cp, e12, F_cp]; exact b6
  · rw [e18, F_cp, e12, F_cp]; exact c6
  · have il := (List.getElem?_eq_some_iff.mp hc).1
    rw [e18, A_cp, if_neg (by omega), e12, A_cp, if_pos ⟨rfl, by omega, by omega⟩, f6.A (by omega) (by omega) (by omega), Nat.sub_zero]
    exact a5 i c (by rw [List.getElem?_append_left il]; exact hc)
  · have il := (List.getElem?_eq_some_iff.mp hc).1
    rw [e18, A_cp, if_pos ⟨rfl, by omega, by omega⟩, g12.A (by omega) (by omega) (by omega), Nat.sub_zero]
    rcases ho with c0 | c0
    · exact a5 i c (by rw [c0]; exact hc)
    · rw [c0] at il; simp at il
theorem wdT_app {σ : pm_H} {a i : Nat} {c : Nat} {w : List Nat} (h : wdT σ a w) (hi : i = w.length) : wdT (pm_sA σ a i (.int (Int32.ofInt (c : Int)))) a (w ++ [c]) := fun j d hd => by
  rw [A_sA]
  rcases getA hd with q | ⟨q1, q2⟩
  · have := (List.getElem?_eq_some_iff.mp q).1
    rw [if_neg (by omega)]; exact h j d q
  · rw [if_pos ⟨rfl, by omega⟩, q2]; rfl
theorem z_864le {n : Nat} (hn : n < 100000) : (864 : Int32) ≤ Int32.ofInt (n : Int) ↔ 864 ≤ n := by
  refine (oi_lle (n := 864) ⟨by omega, by decide⟩).trans ?_
  show (864 : Int) ≤ (n : Int) ↔ _
  omega
theorem s_Pa_appendOutputs {σ : pm_H} {e ρ ρ' s : Nat} {u v : List Nat} {r t : Rl} (hz : pcZ σ e) (hT : fsT σ e u v) (hr : isRu σ ρ r) (ht : isRu σ ρ' t) (o1 : okR r) (o2 : okR t) (hs : s < 100) (e1 : en r s = true) (e2 : en t s = true) (d1 : ρ + 3 ≤ e) (d2 : ρ' + 3 ≤ e) (l1 : u.length + (rTs r).length ≤ 864) (l2 : v.length + (rTs t).length ≤ 864) : cV 2 37 [.ref e, .ref ρ, .ref ρ', .int (Int32.ofInt (s : Int))] σ (fun σ' => fsT σ' e (u ++ outW r s) (v ++ outW t s) ∧ fs e σ σ') := by
  have hl6 := o1.2.2.2.1
  have hl6' := o2.2.2.2.1
  have snd : ∀ τ, fs e σ τ → fsT τ e (u ++ outW r s) v → pm_R 2 37 29 [.ref e, pm_U, .ref ρ', .int (Int32.ofInt (s : Int)), .int ((0 : Int32))] [] τ (fun o σ' => o = .inl none ∧ fsT σ' e (u ++ outW r s) (v ++ outW t s) ∧ fs e σ σ') := by
    intro τ fτ hτ
    refine lp (d := 2) (m := 37) (k := 29) (fun i => [.ref e, pm_U, .ref ρ', .int (Int32.ofInt (s : Int)), .int (Int32.ofInt (i : Nat))]) (fun i τ => fsT τ e (u ++ outW r s) (v ++ (outW t s).take i) ∧ fs e σ τ) (rTs t).length ?_ ?_ 0 (Nat.zero_le _) τ ⟨by simpa using hτ, fτ⟩
    · rintro i hi τ ⟨i1, i3⟩ next
      have zτ := i3.z hz
      have i2 := isRu_fr ht i3.1 (fun b hb => by unfold pRu at hb; omega)
      have hk := List.getElem?_eq_getElem hi
      generalize (rTs t)[i] = tt at hk
      have q6 : ¬ Int32.ofInt ((rTs t).length : Int) ≤ Int32.ofInt (i : Nat) := by rw [oi_le (by omega)]; omega
      have hv := en_val e2 hk
      have hoo : (outW t s)[i]? = some (val tt s).toNat := by unfold outW; rw [List.getElem?_map, hk]; rfl
      have hlo := outW_len t s
      have ll : (v ++ (outW t s).take i).length = v.length + i := by rw [List.length_append, List.length_take]; omega
      have vl := vi (show v.length + i < 864 by omega) (by omega)
      have wl := vc (show v.length + i < 2000000 by omega)
      obtain ⟨k1, k2, k3, k4⟩ := i1
      rw [ll] at k2
      refine w_Pa_appendOutputs_29 (rdF i2.1.1 (ivo i2.2.2.2.1) ⟨fun q => absurd q q6, fun _ => rdF zτ.t0 k2 ⟨fun q => ?_, fun _ => ?_⟩⟩)
      · rw [z_864le (by omega)] at q; omega
      refine rdR zτ.t0 zτ.f409 (rdF zτ.t0 k2 ⟨i2.1.1, ?_⟩)
      refine (s_Ru_valueAt i2 hl6' hk (o2.ts tt (List.mem_of_getElem? hk)) (by omega)).use (by omega) ?_
      have ev : Int32.ofInt (val tt s) = Int32.ofInt (((val tt s).toNat : Nat) : Int) := by congr 1; omega
      rw [ev]
      refine wA zτ.t8 zτ.l8 vl wl (fun σ6 e6 => ?_)
      have f6 : fs e τ σ6 := by rw [e6]; exact fs_sA (Or.inr rfl)
      have z6 := f6.z zτ
      refine rdF z6.t0 (ivq (by rw [e6, F_sA]) k2) (wF z6.t0 (fun σ8 e8 => ?_))
      rw [oi_s]
      rw [oi_s] at e8
      have f8 : fs e σ6 σ8 := by rw [e8]; exact fs_sF (Or.inr rfl)
      refine next σ8 ⟨⟨?_, ?_, fun j c hc => ?_, ?_⟩, i3.tr (f6.tr f8)⟩
      · rw [e8, F_sF, if_neg (by omega), e6, F_sA]; exact k1
      · rw [e8, F_sF, if_pos ⟨rfl, rfl⟩]
        have : (v ++ (outW t s).take (i + 1)).length = v.length + i + 1 := by rw [List.length_append, List.length_take]; omega
        rw [this]; rfl
      · rw [e8, A_sF, e6, A_sA, if_neg (by omega)]; exact k3 j c hc
      · rw [List.take_add_one, hoo, Option.toList_some, ← List.append_assoc]
        have := wdT_app (c := (val tt s).toNat) k4 ll.symm
        intro j c hc
        rw [e8, A_sF, e6]
        exact this j c hc
    · rintro τ ⟨i1, i3⟩
      have i2 := isRu_fr ht i3.1 (fun b hb => by unfold pRu at hb; omega)
      rw [← outW_len t s, List.take_length] at i1
      exact w_Pa_appendOutputs_29 (rdF i2.1.1 (ivo i2.2.2.2.1) ⟨fun _ => ⟨rfl, i1, i3⟩, fun q => absurd (Int32.le_refl _) q⟩)
  refine w_Pa_appendOutputs_0 ?_
  refine lp (d := 2) (m := 37) (k := 2) (fun i => [.ref e, .ref ρ, .ref ρ', .int (Int32.ofInt (s : Int)), .int (Int32.ofInt (i : Nat))]) (fun i τ => fsT τ e (u ++ (outW r s).take i) v ∧ fs e σ τ) (rTs r).length ?_ ?_ 0 (Nat.zero_le _) σ ⟨by simpa using hT, fs.rf⟩
  · rintro i hi τ ⟨i1, i3⟩ next
    have zτ := i3.z hz
    have i2 := isRu_fr hr i3.1 (fun b hb => by unfold pRu at hb; omega)
    have hk := List.getElem?_eq_getElem hi
    generalize (rTs r)[i] = tt at hk
    have q6 : ¬ Int32.ofInt ((rTs r).length : Int) ≤ Int32.ofInt (i : Nat) := by rw [oi_le (by omega)]; omega
    have hv := en_val e1 hk
    have hoo : (outW r s)[i]? = some (val tt s).toNat := by unfold outW; rw [List.getElem?_map, hk]; rfl
    have hlo := outW_len r s
    have ll : (u ++ (outW r s).take i).length = u.length + i := by rw [List.length_append, List.length_take]; omega
    have vl := vi (show u.length + i < 864 by omega) (by omega)
    have wl := vc (show u.length + i < 2000000 by omega)
    obtain ⟨k1, k2, k3, k4⟩ := i1
    rw [ll] at k1
    refine w_Pa_appendOutputs_2 (rdF i2.1.1 (ivo i2.2.2.2.1) ⟨fun q => absurd q q6, fun _ => rdF zτ.t0 k1 ⟨fun q => ?_, fun _ => ?_⟩⟩)
    · rw [z_864le (by omega)] at q; omega
    refine rdR zτ.t0 zτ.f408 (rdF zτ.t0 k1 ⟨i2.1.1, ?_⟩)
    refine (s_Ru_valueAt i2 hl6 hk (o1.ts tt (List.mem_of_getElem? hk)) (by omega)).use (by omega) ?_
    have ev : Int32.ofInt (val tt s) = Int32.ofInt (((val tt s).toNat : Nat) : Int) := by congr 1; omega
    rw [ev]
    refine wA zτ.t7 zτ.l7 vl wl (fun σ6 e6 => ?_)
    have f6 : fs e τ σ6 := by rw [e6]; exact fs_sA (Or.inl rfl)
    have z6 := f6.z zτ
    refine rdF z6.t0 (ivq (by rw [e6, F_sA]) k1) (wF z6.t0 (fun σ8 e8 => ?_))
    rw [oi_s]
    rw [oi_s] at e8
    have f8 : fs e σ6 σ8 := by rw [e8]; exact fs_sF (Or.inl rfl)
    refine next σ8 ⟨⟨?_, ?_, ?_, fun j c hc => ?_⟩, i3.tr (f6.tr f8)⟩
    · rw [e8, F_sF, if_pos ⟨rfl, rfl⟩]
      have : (u ++ (outW r s).take (i + 1)).length = u.length + i + 1 := by rw [List.length_append, List.length_take]; omega
      rw [this]; rfl
    · rw [e8, F_sF, if_neg (by omega), e6, F_sA]; exact k2
    · rw [List.take_add_one, hoo, Option.toList_some, ← List.append_assoc]
      have := wdT_app (c := (val tt s).toNat) k3 ll.symm
      intro j c hc
      rw [e8, A_sF, e6]
      exact this j c hc
    · rw [e8, A_sF, e6, A_sA, if_neg (by omega)]; exact k4 j c hc
  · rintro τ ⟨i1, i3⟩
    have i2 := isRu_fr hr i3.1 (fun b hb => by unfold pRu at hb; omega)
    rw [← outW_len r s, List.take_length] at i1
    exact w_Pa_appendOutputs_2 (rdF i2.1.1 (ivo i2.2.2.2.1) ⟨fun _ => snd τ i3 i1, fun q => absurd (Int32.le_refl _) q⟩)
