/-! ===== the bench as a whole ===== -/
abbrev AS : Type := (Nat → Tr) × List (Nat × Tr) × List Nat × List Nat × List Nat
def aS (A : AS) : Nat → Tr := A.1
def aH (A : AS) : List (Nat × Tr) := A.2.1
def aL (A : AS) : List Nat := A.2.2.1
def aW (A : AS) : List Nat := A.2.2.2.1
def aR (A : AS) : List Nat := A.2.2.2.2
def okA (A : AS) : Prop := (∀ i, i < 4 → okTr (aS A i)) ∧ okH (aH A) ∧ ((aL A).length ≤ 120 ∧ ∀ c, c ∈ aL A → c < 65536) ∧ ((aW A).length ≤ 10 ∧ ∀ c, c ∈ aW A → c < 100) ∧ ((aR A).length ≤ 60 ∧ ∀ c, c ∈ aR A → c < 100)
def updS (S : Nat → Tr) (i : Nat) (T : Tr) (j : Nat) : Tr := if j = i then T else S j
theorem updS_eq {S : Nat → Tr} {i : Nat} {T : Tr} : updS S i T i = T := if_pos rfl
theorem updS_ne {S : Nat → Tr} {i j : Nat} {T : Tr} (h : j ≠ i) : updS S i T j = S j := if_neg h
/-- the reader -/
def reS (σ : pm_H) (e : Nat) : Prop := pm_t σ e = 6 ∧ pm_F σ 500 e = .ref (e + 1) ∧ pm_t σ (e + 1) = 104 ∧ pm_l σ (e + 1) = 120 ∧ pm_F σ 504 e = .ref (e + 2) ∧ ruS σ (e + 2)
def isRe (σ : pm_H) (e : Nat) (l : List Nat) : Prop := reS σ e ∧ iv (pm_F σ 501 e) = Int32.ofInt l.length ∧ l.length ≤ 120 ∧ ∀ (i c : Nat), l[i]? = some c → iv (pm_A σ (e + 1) i) = Int32.ofInt (c : Int)
def pRe (e b : Nat) : Prop := e ≤ b ∧ b < e + 5
theorem reS_fr {P : Nat → Prop} {σ σ' : pm_H} {e : Nat} (h : reS σ e) (hf : fr P σ σ') (hp : ¬ P e ∧ ¬ P (e + 2)) : reS σ' e := by
  unfold reS
  rw [hf.t, hf.t, hf.l, hf.F hp.1, hf.F hp.1]
  exact ⟨h.1, h.2.1, h.2.2.1, h.2.2.2.1, h.2.2.2.2.1, ruS_fr h.2.2.2.2.2 hf hp.2⟩
theorem isRe_fr {P : Nat → Prop} {σ σ' : pm_H} {e : Nat} {l : List Nat} (h : isRe σ e l) (hf : fr P σ σ') (hp : ∀ b, pRe e b → ¬ P b) : isRe σ' e l := by
  have h0 := hp e ⟨by omega, by omega⟩
  have h1 := hp (e + 1) ⟨by omega, by omega⟩
  have h2 := hp (e + 2) ⟨by omega, by omega⟩
  refine ⟨reS_fr h.1 hf ⟨h0, h2⟩, by rw [hf.F h0]; exact h.2.1, h.2.2.1, fun i c hc => by rw [hf.A h1]; exact h.2.2.2 i c hc⟩
/-- domains -/
def doS (σ : pm_H) (e : Nat) : Prop := pm_t σ e = 2 ∧ (pm_F σ 100 e = .ref (e + 1) ∧ pm_F σ 101 e = .ref (e + 3) ∧ pm_F σ 102 e = .ref (e + 5) ∧ pm_F σ 103 e = .ref (e + 6) ∧ pm_F σ 105 e = .ref (e + 7) ∧ pm_F σ 106 e = .ref (e + 8) ∧ pm_F σ 107 e = .ref (e + 9) ∧ pm_F σ 108 e = .ref (e + 10) ∧ pm_F σ 111 e = .ref (e + 11) ∧ pm_F σ 112 e = .ref (e + 12) ∧ pm_F σ 113 e = .ref (e + 13)) ∧ (pm_t σ (e + 5) = 100 ∧ pm_l σ (e + 5) = 100 ∧ pm_t σ (e + 6) = 100 ∧ pm_l σ (e + 6) = 100 ∧ pm_t σ (e + 7) = 101 ∧ pm_l σ (e + 7) = 4096 ∧ pm_t σ (e + 8) = 101 ∧ pm_l σ (e + 8) = 4096 ∧ pm_t σ (e + 9) = 100 ∧ pm_l σ (e + 9) = 4096 ∧ pm_t σ (e + 10) = 100 ∧ pm_l σ (e + 10) = 4096 ∧ pm_t σ (e + 11) = 100 ∧ pm_l σ (e + 11) = 4096 ∧ pm_t σ (e + 12) = 100 ∧ pm_l σ (e + 12) = 4096 ∧ pm_t σ (e + 13) = 100 ∧ pm_l σ (e + 13) = 12) ∧ stS σ (e + 1) ∧ stS σ (e + 3)
def isDo (σ : pm_H) (e : Nat) : Prop := doS σ e ∧ ∀ j, j < 4096 → jv (pm_A σ (e + 8) j) = 0
def pDo (e b : Nat) : Prop := e ≤ b ∧ b < e + 14
theorem doS_fr {P : Nat → Prop} {σ σ' : pm_H} {e : Nat} (h : doS σ e) (hf : fr P σ σ') (hp : ¬ P e ∧ ¬ P (e + 1) ∧ ¬ P (e + 3)) : doS σ' e := by
  unfold doS
  simp only [hf.t, hf.l, hf.F hp.1]
  exact ⟨h.1, h.2.1, h.2.2.1, stS_fr h.2.2.2.1 hf hp.2.1, stS_fr h.2.2.2.2 hf hp.2.2⟩
theorem isDo_fr {P : Nat → Prop} {σ σ' : pm_H} {e : Nat} (h : isDo σ e) (hf : fr P σ σ') (hp : ∀ b, pDo e b → ¬ P b) : isDo σ' e :=
  ⟨doS_fr h.1 hf ⟨hp e ⟨by omega, by omega⟩, hp (e + 1) ⟨by omega, by omega⟩, hp (e + 3) ⟨by omega, by omega⟩⟩, fun j hj => by rw [hf.A (hp (e + 8) ⟨by omega, by omega⟩)]; exact h.2 j hj⟩
/-- pairing; the pool may have moved -/
def isPa (σ : pm_H) (e N0 : Nat) : Prop := pm_t σ e = 5 ∧ (pm_F σ 400 e = .ref (e + 1) ∧ pm_F σ 401 e = .ref (e + 2) ∧ pm_F σ 402 e = .ref (e + 3) ∧ pm_F σ 404 e = .ref (e + 4) ∧ pm_F σ 405 e = .ref (e + 5) ∧ pm_F σ 408 e = .ref (e + 7) ∧ pm_F σ 409 e = .ref (e + 8)) ∧ (pm_t σ (e + 1) = 102 ∧ pm_l σ (e + 1) = 144 ∧ pm_t σ (e + 2) = 102 ∧ pm_l σ (e + 2) = 144 ∧ pm_t σ (e + 3) = 100 ∧ pm_l σ (e + 3) = 144 ∧ pm_t σ (e + 4) = 100 ∧ pm_l σ (e + 4) = 144 ∧ pm_t σ (e + 5) = 100 ∧ pm_l σ (e + 5) = 144 ∧ pm_t σ (e + 7) = 100 ∧ pm_l σ (e + 7) = 864 ∧ pm_t σ (e + 8) = 100 ∧ pm_l σ (e + 8) = 864) ∧ ∃ p, pm_F σ 406 e = .ref p ∧ (p = e + 6 ∨ (N0 ≤ p ∧ p < pm_n σ)) ∧ pm_t σ p = 100 ∧ ∃ k, k ≤ 8 ∧ pm_l σ p = 864 * 2 ^ k ∧ ((k = 0 ∧ p = e + 6) ∨ N0 ≤ p)
def pPa (e b : Nat) : Prop := e ≤ b ∧ b < e + 9
/-- the composer -/
def isCo (σ : pm_H) (e : Nat) : Prop := pm_t σ e = 1 ∧ (pm_F σ 0 e = .ref (e + 1) ∧ pm_F σ 2 e = .ref (e + 2) ∧ pm_F σ 3 e = .ref (e + 3) ∧ pm_F σ 4 e = .ref (e + 4) ∧ pm_F σ 5 e = .ref (e + 5)) ∧ (pm_t σ (e + 1) = 100 ∧ pm_l σ (e + 1) = 12 ∧ pm_t σ (e + 2) = 100 ∧ pm_l σ (e + 2) = 6 ∧ pm_t σ (e + 3) = 128 ∧ pm_l σ (e + 3) = 7 ∧ pm_t σ (e + 4) = 128 ∧ pm_l σ (e + 4) = 84 ∧ pm_t σ (e + 5) = 9) ∧ (∀ i, i < 7 → pm_A σ (e + 3) i = .ref (e + 6 + i) ∧ pm_t σ (e + 6 + i) = 9) ∧ ∀ i, i < 84 → pm_A σ (e + 4) i = .ref (e + 13 + i) ∧ pm_t σ (e + 13 + i) = 9
def pCo (e b : Nat) : Prop := e ≤ b ∧ b < e + 97
theorem isCo_fr {P : Nat → Prop} {σ σ' : pm_H} {e : Nat} (h : isCo σ e) (hf : fr P σ σ') (hp : ¬ P e ∧ ¬ P (e + 3) ∧ ¬ P (e + 4)) : isCo σ' e := by
  unfold isCo
  simp only [hf.t, hf.l, hf.F hp.1, hf.A hp.2.1, hf.A hp.2.2]
  exact h
theorem isPa_fr {P : Nat → Prop} {σ σ' : pm_H} {e N0 : Nat} (h : isPa σ e N0) (hf : fr P σ σ') (hp : ¬ P e) : isPa σ' e N0 := by
  unfold isPa
  simp only [hf.t, hf.l, hf.n, hf.F hp]
  exact h
/-- the ten objects of the bench -/
def isHd (σ : pm_H) (x : Nat) : Prop := pm_t σ x = 12 ∧ (pm_F σ 1100 x = .ref (x + 1) ∧ pm_F σ 1101 x = .ref (x + 490) ∧ pm_F σ 1102 x = .ref (x + 612) ∧ pm_F σ 1103 x = .ref (x + 1591) ∧ pm_F σ 1104 x = .ref (x + 1596) ∧ pm_F σ 1105 x = .ref (x + 1598) ∧ pm_F σ 1106 x = .ref (x + 1600) ∧ pm_F σ 1107 x = .ref (x + 1657) ∧ pm_F σ 1108 x = .ref (x + 1671) ∧ pm_F σ 1109 x = .ref (x + 1680)) ∧ pm_t σ (x + 1) = 129 ∧ pm_l σ (x + 1) = 4 ∧ ∀ i, i < 4 → pm_A σ (x + 1) i = .ref (x + 2 + 122 * i)
theorem isHd_fr {P : Nat → Prop} {σ σ' : pm_H} {x : Nat} (h : isHd σ x) (hf : fr P σ σ') (hp : ¬ P x ∧ ¬ P (x + 1)) : isHd σ' x := by
  unfold isHd
  simp only [hf.t, hf.l, hf.F hp.1, hf.A hp.2]
  exact h
def isOu (σ : pm_H) (o : Nat) : Prop := ouS σ o ∧ ouW σ o ∧ ouE σ o
theorem isOu_fr {P : Nat → Prop} {σ σ' : pm_H} {o : Nat} (h : isOu σ o) (hf : fr P σ σ') (hp : ∀ b, pO o b → ¬ P b) : isOu σ' o :=
  ⟨ouS_fr h.1 hf (hp o ⟨by omega, by omega⟩), ouW_fr h.2.1 hf (fun b h1 h2 => hp b ⟨h1, h2⟩), ouE_fr h.2.2 hf (hp o ⟨by omega, by omega⟩)⟩
def isB (σ : pm_H) (x N0 : Nat) (A : AS) : Prop := isHd σ x ∧ (∀ i, i < 4 → ∃ π, isTr σ (x + 2 + 122 * i) (aS A i) π) ∧ (∃ π, isTr0 σ (x + 490) π) ∧ isHi σ (x + 612) (aH A) ∧ isRe σ (x + 1591) (aL A) ∧ isWo σ (x + 1596) (aW A) ∧ isWo σ (x + 1598) (aR A) ∧ isOu σ (x + 1600) ∧ isDo σ (x + 1657) ∧ isPa σ (x + 1671) N0 ∧ isCo σ (x + 1680)
theorem isB_mk {P : Nat → Prop} {σ σ' : pm_H} {x N0 : Nat} {A A' : AS} (h : isB σ x N0 A) (hf : fr P σ σ') (hx : ¬ P x ∧ ¬ P (x + 1))
    (c3 : ∀ i, i < 4 → ((∀ b, pTr (x + 2 + 122 * i) b → ¬ P b) ∧ aS A' i = aS A i) ∨ ∃ π, isTr σ' (x + 2 + 122 * i) (aS A' i) π)
    (c4 : (∀ b, pTr (x + 490) b → ¬ P b) ∨ ∃ π, isTr0 σ' (x + 490) π)
    (c5 : ((∀ b, pHi (x + 612) b → ¬ P b) ∧ aH A' = aH A) ∨ isHi σ' (x + 612) (aH A'))
    (c6 : ((∀ b, pRe (x + 1591) b → ¬ P b) ∧ aL A' = aL A) ∨ isRe σ' (x + 1591) (aL A'))
    (c7 : ((∀ b, pWo (x + 1596) b → ¬ P b) ∧ aW A' = aW A) ∨ isWo σ' (x + 1596) (aW A'))
    (c8 : ((∀ b, pWo (x + 1598) b → ¬ P b) ∧ aR A' = aR A) ∨ isWo σ' (x + 1598) (aR A'))
    (c9 : (∀ b, pO (x + 1600) b → ¬ P b) ∨ isOu σ' (x + 1600))
    (c10 : (∀ b, pDo (x + 1657) b → ¬ P b) ∨ isDo σ' (x + 1657))
    (c11 : ¬ P (x + 1671) ∨ isPa σ' (x + 1671) N0)
    (c12 : (∀ b, pCo (x + 1680) b → ¬ P b) ∨ isCo σ' (x + 1680)) : isB σ' x N0 A' := by
  obtain ⟨h1, h3, h4, h5, h6, h7, h8, h9, h10, h11, h12⟩ := h
  refine ⟨isHd_fr h1 hf hx, fun i hi => ?_, ?_, ?_, ?_, ?_, ?_, ?_, ?_, ?_, ?_⟩
  · rcases c3 i hi with ⟨c, e⟩ | c
    · obtain ⟨π, q⟩ := h3 i hi
      rw [e]; exact ⟨π, isTr_fr q hf c⟩
    · exact c
  · rcases c4 with c | c
    · obtain ⟨π, q⟩ := h4
      exact ⟨π, isTr0_fr q hf c⟩
    · exact c
  · rcases c5 with ⟨c, e⟩ | c
    · rw [e]; exact isHi_fr h5 hf c
    · exact c
  · rcases c6 with ⟨c, e⟩ | c
    · rw [e]; exact isRe_fr h6 hf c
    · exact c
  · rcases c7 with ⟨c, e⟩ | c
    · rw [e]; exact isWo_fr h7 hf c
    · exact c
  · rcases c8 with ⟨c, e⟩ | c
    · rw [e]; exact isWo_fr h8 hf c
    · exact c
  · rcases c9 with c | c
    · exact isOu_fr h9 hf c
    · exact c
  · rcases c10 with c | c
    · exact isDo_fr h10 hf c
    · exact c
  · rcases c11 with c | c
    · exact isPa_fr h11 hf c
    · exact c
  · rcases c12 with c | c
    · exact isCo_fr h12 hf ⟨c _ ⟨by omega, by omega⟩, c _ ⟨by omega, by omega⟩, c _ ⟨by omega, by omega⟩⟩
    · exact c
/-- a frame inside the bench -/
def pB (x b : Nat) : Prop := x ≤ b ∧ b < x + 1777
theorem isB_thr {σ : pm_H} {x N0 : Nat} {A : AS} (h : isB σ x N0 A) : isB (pm_thr σ) x N0 A := by
  obtain ⟨h1, h3, h4, h5, h6, h7, h8, h9, h10, h11, h12⟩ := h
  refine ⟨h1, h3, h4, h5, h6, h7, h8, h9, h10, ?_, h12⟩
  obtain ⟨p1, p2, p3, p, q1, q2, q3⟩ := h11
  refine ⟨p1, p2, p3, p, q1, ?_, q3⟩
  rcases q2 with q | q
  · exact Or.inl q
  · refine Or.inr ⟨q.1, Nat.lt_trans q.2 ?_⟩
    exact Nat.lt_succ_self _
/-- what the bench leaves alone outside its cells: all below N0; what it costs -/
def fB (x N0 c w : Nat) (σ σ' : pm_H) : Prop := (∀ a, a < N0 → ¬ pB x a → pm_t σ' a = pm_t σ a ∧ pm_l σ' a = pm_l σ a ∧ (∀ f, pm_F σ' f a = pm_F σ f a) ∧ ∀ j, pm_A σ' a j = pm_A σ a j) ∧ pm_n σ ≤ pm_n σ' ∧ pm_n σ' ≤ pm_n σ + c ∧ pm_w σ' ≤ pm_w σ + w
theorem fB_fr {P : Nat → Prop} {σ σ' : pm_H} {x N0 : Nat} (hf : fr P σ σ') (hp : ∀ b, P b → pB x b) : fB x N0 1 6 σ σ' :=
  ⟨fun a _ ha => ⟨hf.t a, hf.l a, fun f => hf.F (fun q => ha (hp a q)), fun j => hf.A (fun q => ha (hp a q))⟩, by rw [hf.n]; omega, by rw [hf.n]; omega, by rw [hf.w]; omega⟩
theorem fB_thr {P : Nat → Prop} {σ σ' : pm_H} {x N0 : Nat} (hf : fr P σ σ') (hp : ∀ b, P b → pB x b) : fB x N0 1 6 σ (pm_thr σ') := by
  refine ⟨fun a _ ha => ⟨hf.t a, hf.l a, fun f => hf.F (fun q => ha (hp a q)), fun j => hf.A (fun q => ha (hp a q))⟩, ?_, ?_, ?_⟩
  · have : pm_n (pm_thr σ') = pm_n σ' + 1 := rfl
    rw [this, hf.n]; omega
  · have : pm_n (pm_thr σ') = pm_n σ' + 1 := rfl
    rw [this, hf.n]; omega
  · have : pm_w (pm_thr σ') = pm_w σ' + 6 := rfl
    rw [this, hf.w]; omega
/-- the model as a whole -/
def mLt (σ : pm_H) (m : Nat) (l : List Nat) : Prop := iv (pm_F σ 1213 m) = Int32.ofInt l.length ∧ l.length ≤ 120 ∧ ∀ (i c : Nat), l[i]? = some c → iv (pm_A σ (m + 11) i) = Int32.ofInt (c : Int)
def isM (σ : pm_H) (m : Nat) (A : AS) : Prop := mS σ m ∧ (∀ i, i < 4 → mTr σ m i (aS A i)) ∧ mHi σ m (aH A) ∧ mLt σ m (aL A) ∧ mWo σ m (aW A) ∧ mRes σ m (aR A)
theorem mLt_X {m : Nat} {Fs As Sl : Nat → Prop} {σ σ' : pm_H} {l : List Nat} (h : mLt σ m l) (f : frX m Fs As Sl σ σ') (h1 : ¬ Fs 1213) (h2 : ¬ As 11) : mLt σ' m l :=
  ⟨by rw [f.F h1]; exact h.1, h.2.1, fun i c hc => by rw [f.A (by omega) h2]; exact h.2.2 i c hc⟩
theorem mRes_X {m : Nat} {Fs As Sl : Nat → Prop} {σ σ' : pm_H} {l : List Nat} (h : mRes σ m l) (f : frX m Fs As Sl σ σ') (h1 : ¬ Fs 1220) (h2 : ¬ As 13) : mRes σ' m l :=
  ⟨by rw [f.F h1]; exact h.1, h.2.1, fun i c hc => by rw [f.A (by omega) h2]; exact h.2.2 i c hc⟩
theorem mHi_X {m : Nat} {Fs As Sl : Nat → Prop} {σ σ' : pm_H} {hs : List (Nat × Tr)} (h : mHi σ m hs) (hok : okH hs) (f : frX m Fs As Sl σ σ') (h1 : ¬ Fs 1211) (h2 : ¬ As 10) (h3 : ∀ s, 5 ≤ s → ¬ Sl s) : mHi σ' m hs :=
  ⟨by rw [f.F h1]; exact h.1, h.2.1, fun i e he => ⟨f.T (h.2.2 i e he).1 (hok.at he).2 (h3 _ (by omega)), by rw [f.A (by omega) h2]; exact (h.2.2 i e he).2⟩⟩
theorem isM_mk {m : Nat} {Fs As Sl : Nat → Prop} {σ σ' : pm_H} {A A' : AS} (h : isM σ m A) (hok : okA A) (f : frX m Fs As Sl σ σ') (hF : ∀ f, Fs f → f ∉ mTab.map (fun e => e.1))
    (c1 : ∀ i, i < 4 → (¬ Sl i ∧ aS A' i = aS A i) ∨ mTr σ' m i (aS A' i))
    (c2 : (¬ Fs 1211 ∧ ¬ As 10 ∧ (∀ s, 5 ≤ s → ¬ Sl s) ∧ aH A' = aH A) ∨ mHi σ' m (aH A'))
    (c3 : (¬ Fs 1213 ∧ ¬ As 11 ∧ aL A' = aL A) ∨ mLt σ' m (aL A'))
    (c4 : (¬ Fs 1218 ∧ ¬ As 12 ∧ aW A' = aW A) ∨ mWo σ' m (aW A'))
    (c5 : (¬ Fs 1220 ∧ ¬ As 13 ∧ aR A' = aR A) ∨ mRes σ' m (aR A')) : isM σ' m A' := by
  refine ⟨f.mS h.1 hF, fun i hi => ?_, ?_, ?_, ?_, ?_⟩
  · rcases c1 i hi with ⟨q, e⟩ | q
    · rw [e]; exact f.T (h.2.1 i hi) (hok.1 i hi) q
    · exact q
  · rcases c2 with ⟨q1, q2, q3, e⟩ | q
    · rw [e]; exact mHi_X h.2.2.1 hok.2.1 f q1 q2 q3
    · exact q
  · rcases c3 with ⟨q1, q2, e⟩ | q
    · rw [e]; exact mLt_X h.2.2.2.1 f q1 q2
    · exact q
  · rcases c4 with ⟨q1, q2, e⟩ | q
    · rw [e]; exact mWo_X h.2.2.2.2.1 f q1 q2
    · exact q
  · rcases c5 with ⟨q1, q2, e⟩ | q
    · rw [e]; exact mRes_X h.2.2.2.2.2 f q1 q2
    · exact q
/-- scratch of the model changed only -/
theorem isM_scr {m : Nat} {Fs As Sl : Nat → Prop} {σ σ' : pm_H} {A : AS} (h : isM σ m A) (hok : okA A) (f : frX m Fs As Sl σ σ') (hF : ∀ f, Fs f → f = 1200 ∨ f = 1214 ∨ f = 1215 ∨ f = 1216 ∨ f = 1234 ∨ f = 1240 ∨ f = 1241) (hA : ∀ i, As i → i ≤ 9 ∨ 14 ≤ i) (hS : ∀ s, Sl s → s = 4) : isM σ' m A := by
  refine isM_mk h hok f (fun f hf => ?_) (fun i hi => Or.inl ⟨fun q => ?_, rfl⟩) (Or.inl ⟨fun q => ?_, fun q => ?_, fun s hs q => ?_, rfl⟩) (Or.inl ⟨fun q => ?_, fun q => ?_, rfl⟩) (Or.inl ⟨fun q => ?_, fun q => ?_, rfl⟩) (Or.inl ⟨fun q => ?_, fun q => ?_, rfl⟩)
  · rcases hF f hf with e | e | e | e | e | e | e <;> (rw [e]; decide)
  · have := hS i q; omega
  · have := hF _ q; omega
  · have := hA _ q; omega
  · have := hS s q; omega
  · have := hF _ q; omega
  · have := hA _ q; omega
  · have := hF _ q; omega
  · have := hA _ q; omega
  · have := hF _ q; omega
  · have := hA _ q; omega
/-- the outcome of a call at the bench and at the model: code, value, state -/
def bOut (x N0 c w : Nat) (σ : pm_H) (k : Int32) (v : Int64) (A' : AS) (L : Nat) (o : pm_O) (σ' : pm_H) : Prop := o = .inl (some (.int k)) ∧ isB σ' x N0 A' ∧ (k = 0 → jv (pm_A σ' L 0) = v) ∧ ∃ τ, fB x N0 c w σ τ ∧ (σ' = τ ∨ ∃ u : Int64, σ' = pm_sA τ L 0 (.long u))
def mCo (m : Nat) (σ : pm_H) (k : Int32) (A' : AS) (σ' : pm_H) : Prop := iv (pm_F σ' 1200 m) = k ∧ isM σ' m A' ∧ fr (fun b => m ≤ b ∧ b ≤ m + 34) σ σ'
def mOut (m : Nat) (σ : pm_H) (k : Int32) (v : Int64) (A' : AS) (o : pm_O) (σ' : pm_H) : Prop := (∃ r : Int32, o = .inl (some (.int r)) ∧ (k = 0 → r.toInt64 = v)) ∧ mCo m σ k A' σ'
def mOutJ (m : Nat) (σ : pm_H) (k : Int32) (v : Int64) (A' : AS) (o : pm_O) (σ' : pm_H) : Prop := (∃ r : Int64, o = .inl (some (.long r)) ∧ (k = 0 → r = v)) ∧ mCo m σ k A' σ'
def mOutB (m : Nat) (σ : pm_H) (k : Int32) (v : Int64) (A' : AS) (o : pm_O) (σ' : pm_H) : Prop := (∃ b : Bool, o = .inl (some (.int (bI b))) ∧ (k = 0 → v = if b then 1 else 0)) ∧ mCo m σ k A' σ'
