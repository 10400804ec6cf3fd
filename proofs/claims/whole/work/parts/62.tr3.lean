/-! ===== transducers: restricting, trimming ===== -/
def rG (r : Rl) (lo hi : Int64) : Rl := (rF r, rT r, lo, hi, rTs r)
theorem isRu_guard {σ : pm_H} {ρ : Nat} {r : Rl} (h : isRu σ ρ r) (lo hi : Int64) : isRu (uSy σ (ρ + 1) lo hi) ρ (rG r lo hi) ∧ fr (pRu ρ) σ (uSy σ (ρ + 1) lo hi) := by
  have p1 : pRu ρ (ρ + 1) := ⟨by omega, by omega⟩
  obtain ⟨⟨h1, h2, h3, h4, h5, h6⟩, g1, g2, g3, g4, g5, g6, g7, g8⟩ := h
  refine ⟨⟨⟨h1, ?_, ?_, h4, h5, h6⟩, ?_, ?_, ?_, ?_, ?_, ?_, ?_, fun k t ht => g8 k t ht⟩, fr_uSy p1⟩
  · simp only [uSy, F_sF, Nat.reduceEqDiff, false_and, if_false, h2]
  · simp only [uSy, F_sF, Nat.reduceEqDiff, false_and, if_false, h3]
  · simp only [uSy, F_sF, Nat.reduceEqDiff, false_and, if_false, g1]; rfl
  · simp only [uSy, F_sF, Nat.reduceEqDiff, false_and, if_false, g2]; rfl
  · simp only [uSy, F_sF, Nat.reduceEqDiff, false_and, if_false, g3]; rfl
  · simp only [uSy, F_sF, Nat.reduceEqDiff, false_and, if_false, g4]; rfl
  · simp only [uSy, F_sF, Nat.reduceEqDiff, false_and, if_false, g5]; rfl
  · simp only [uSy, F_sF, Nat.reduceEqDiff, false_and, if_false, true_and, if_true]; rfl
  · simp only [uSy, F_sF, true_and, if_true]; rfl
def rKeep (x y : Int) (r : Rl) : Rl := rG r (rLo r &&& mB (Int32.ofInt x) (Int32.ofInt y)) (rHi r &&& mB (Int32.ofInt x - 64) (Int32.ofInt y - 64))
def rEmp (r : Rl) : Bool := decide (rLo r = 0 ∧ rHi r = 0)
theorem okR_G {r : Rl} {lo hi : Int64} (h : okR r) (hg : okG hi) : okR (rG r lo hi) := ⟨h.1, h.2.1, hg, h.2.2.2⟩
theorem okR_keep {x y : Int} {r : Rl} (h : okR r) : okR (rKeep x y r) := okR_G h (okG_and h.2.2.1)
/-- the rules from a place on are changed and some are dropped -/
def fmF (f : Rl → Rl) (p : Rl → Bool) (i : Nat) (rs : List Rl) : List Rl := rs.take i ++ ((rs.drop i).map f).filter p
theorem fmF_n {f : Rl → Rl} {p : Rl → Bool} {rs : List Rl} : fmF f p rs.length rs = rs := by
  unfold fmF; simp
theorem fmF_0 {f : Rl → Rl} {p : Rl → Bool} {rs : List Rl} : fmF f p 0 rs = (rs.map f).filter p := by
  unfold fmF; simp
theorem fmF_s {f : Rl → Rl} {p : Rl → Bool} {rs : List Rl} {i : Nat} {r : Rl} (h : rs[i]? = some r) : fmF f p (i + 1) rs = rs.take i ++ r :: ((rs.drop (i + 1)).map f).filter p := by
  unfold fmF
  rw [List.take_add_one, h]
  simp
theorem fmF_t {f : Rl → Rl} {p : Rl → Bool} {rs : List Rl} {i : Nat} {r : Rl} (h : rs[i]? = some r) : fmF f p i rs = if p (f r) then rs.take i ++ f r :: ((rs.drop (i + 1)).map f).filter p else rs.take i ++ ((rs.drop (i + 1)).map f).filter p := by
  unfold fmF
  have hi := (List.getElem?_eq_some_iff.mp h)
  obtain ⟨h1, h2⟩ := hi
  rw [List.drop_eq_getElem_cons h1, h2, List.map_cons, List.filter_cons]
  split <;> rfl
theorem mid_get {A X : List Rl} {x : Rl} {i : Nat} (h : A.length = i) : (A ++ x :: X)[i]? = some x := by subst h; simp
theorem mid_set {A X : List Rl} {x y : Rl} {i : Nat} (h : A.length = i) : (A ++ x :: X).set i y = A ++ y :: X := by subst h; simp
theorem mid_erase {A X : List Rl} {x : Rl} {i : Nat} (h : A.length = i) : (A ++ x :: X).eraseIdx i = A ++ X := by
  subst h
  rw [List.eraseIdx_append_of_length_le (Nat.le_refl _), Nat.sub_self]
  rfl
theorem take_lenL {rs : List Rl} {i : Nat} (h : i < rs.length) : (rs.take i).length = i := by rw [List.length_take]; omega
theorem oi_m1 (k : Nat) : Int32.ofInt ((k + 1 : Nat) : Int) + (-1) = Int32.ofInt (k : Int) := by
  rw [show (-1 : Int32) = Int32.ofInt (-1) from rfl, oi_add]; congr 1; omega
theorem oi_neg1 : Int32.ofInt ((0 : Nat) : Int) + (-1) = Int32.ofInt (-1) := rfl
/-- a place below i, or -1 -/
def dn (i : Nat) : Int := (i : Int) - 1
theorem dn_m1 (i : Nat) : Int32.ofInt (dn (i + 1)) + (-1) = Int32.ofInt (dn i) := by
  unfold dn
  rw [show (-1 : Int32) = Int32.ofInt (-1) from rfl, oi_add]; congr 1; omega
theorem dn_s (i : Nat) : dn (i + 1) = (i : Int) := by unfold dn; omega
/-- a loop that counts down -/
theorem lpd {d m k : Nat} {Q : pm_O → pm_H → Prop} (L : Nat → List Value) (I : Nat → pm_H → Prop)
    (step : ∀ i σ, I (i + 1) σ → (∀ σ', I i σ' → pm_R d m k (L i) [] σ' Q) → pm_R d m k (L (i + 1)) [] σ Q)
    (done : ∀ σ, I 0 σ → pm_R d m k (L 0) [] σ Q) : ∀ i σ, I i σ → pm_R d m k (L i) [] σ Q := by
  intro i
  induction i with
  | zero => exact done
  | succ i ih => exact fun σ h => step i σ h ih
theorem s_Tr_keepSymbols {σ : pm_H} {a : Nat} {x y : Int} {T : Tr} {π : Nat → Nat} (h : isTr σ a T π) : cV 2 105 [.ref a, .int (Int32.ofInt x), .int (Int32.ofInt y)] σ (fun σ' => (∃ π', isTr σ' a (T.1, (T.2.map (rKeep x y)).filter (fun r => !rEmp r)) π') ∧ fr (pTr a) σ σ') := by
  have hl := h.2.2.2.2.1
  refine w_Tr_keepSymbols_0 ?_
  simp only [h.1.1, h.2.2.1, true_and, forall_eq]
  have key := lpd (d := 2) (m := 105) (k := 5) (Q := fun o σ' => o = .inl none ∧ (∃ π', isTr σ' a (T.1, (T.2.map (rKeep x y)).filter (fun r => !rEmp r)) π') ∧ fr (pTr a) σ σ') (fun i => [.ref a, .int (Int32.ofInt x), .int (Int32.ofInt y), .int (Int32.ofInt (dn i))]) (fun i τ => i ≤ T.2.length ∧ (∃ π', isTr τ a (T.1, fmF (rKeep x y) (fun r => !rEmp r) i T.2) π') ∧ fr (pTr a) σ τ) ?_ ?_ T.2.length σ ⟨Nat.le_refl _, ⟨π, by rw [fmF_n]; exact h⟩, fr.rf⟩
  · rw [oi_subl]; exact key
  · rintro i τ ⟨i1, ⟨π', i2⟩, i3⟩ next
    have hr := List.getElem?_eq_getElem (show i < T.2.length by omega)
    generalize T.2[i] = r at hr
    rw [fmF_s hr] at i2
    have hA := take_lenL (show i < T.2.length by omega)
    have ht := fmF_t (f := rKeep x y) (p := fun r => !rEmp r) hr
    generalize ((T.2.drop (i + 1)).map (rKeep x y)).filter (fun r => !rEmp r) = X at *
    generalize T.2.take i = A at *
    have hg : (A ++ r :: X)[i]? = some r := mid_get hA
    obtain ⟨qi, qc, qa, qr⟩ := i2.at hg
    have hl2 := i2.2.2.2.2.1
    have hil : i < (A ++ r :: X).length := (List.getElem?_eq_some_iff.mp hg).1
    have q6 : ¬ Int32.ofInt (i : Int) < 0 := by rw [oi_ltl ⟨by dsimp only at hl2; omega, by decide⟩]; omega
    rw [dn_s]
    refine w_Tr_keepSymbols_5 ⟨fun q => absurd q q6, fun _ => ?_⟩
    simp only [i2.1.1, i2.1.2.1, i2.1.2.2.1, i2.1.2.2.2.1, isr_ref, rv_ref, qi, qc, qa, qr.1.1, qr.1.2.1, qr.1.2.2.2.1, true_and, forall_eq]
    refine (s_keep qr.g).use (by omega) (fun σ' e => ?_)
    obtain ⟨u1, u2⟩ := isRu_guard qr (rLo r &&& mB (Int32.ofInt x) (Int32.ofInt y)) (rHi r &&& mB (Int32.ofInt x - 64) (Int32.ofInt y - 64))
    rw [← e] at u1 u2
    have i2' := isTr_upd i2 hil u2 u1
    have i3' : fr (pTr a) σ σ' := i3.tr (u2.mono (fun c q => by have := (i2.2.1.1 i (by dsimp only at hl2; omega)).1; exact ⟨by have := q.1; omega, by have := q.2; omega⟩))
    dsimp only at i2'
    rw [mid_set hA] at i2'
    have hg' : (A ++ rKeep x y r :: X)[i]? = some (rKeep x y r) := mid_get hA
    obtain ⟨qi', qc', qa', qr'⟩ := isTr.at (T := (T.1, A ++ rKeep x y r :: X)) i2' hg'
    simp only [i2'.1.1, i2'.1.2.1, i2'.1.2.2.1, i2'.1.2.2.2.1, isr_ref, rv_ref, qi', qc', qa', qr'.1.1, qr'.1.2.1, qr'.1.2.2.2.1, true_and, forall_eq]
    have hdn : Int32.ofInt (i : Int) + (-1) = Int32.ofInt (dn i) := by rw [← dn_s, dn_m1]
    rw [hdn]
    refine (s_isEmpty qr'.g).use (by omega) ⟨fun e2 => ?_, fun e2 => ⟨i2'.1.1, ?_⟩⟩
    · refine next σ' ⟨by omega, ⟨π', ?_⟩, i3'⟩
      have e3 : rEmp (rKeep x y r) = false := bI_0.mp e2
      rw [ht, e3]
      exact i2'
    · have e3 : rEmp (rKeep x y r) = true := bI_1.mp e2
      refine (s_Tr_remove i2' (k := i) (List.getElem?_eq_some_iff.mp hg').1).use (by omega) (fun τ' ⟨r1, r2⟩ => ?_)
      dsimp only at r1
      rw [mid_erase hA] at r1
      refine next τ' ⟨by omega, ?_, i3'.tr r2⟩
      rw [ht, e3]
      exact ⟨_, r1⟩
  · rintro τ ⟨i1, ⟨π', i2⟩, i3⟩
    rw [fmF_0] at i2
    refine w_Tr_keepSymbols_5 ⟨fun q => ⟨rfl, ⟨π', i2⟩, i3⟩, fun q => absurd (by decide) q⟩
theorem s_Tr_dropUseless {σ : pm_H} {a : Nat} {T : Tr} {π : Nat → Nat} (h : isTr σ a T π) (hT : okTr T) : cV 5 106 [.ref a] σ (fun σ' => (∃ π', isTr σ' a (T.1, T.2.filter (useful (itR T.2 11) (itW T.2 T.1 11))) π') ∧ fr (pTr a) σ σ') := by
  have hl := h.2.2.2.2.1
  have hR := itR_lt hT.2 11
  have hW := itW_lt hT.2 hT.1 11
  refine w_Tr_dropUseless_0 ⟨h.1.1, (s_Tr_reached h hT).use (by omega) ⟨h.1.1, (s_Tr_hopeful h hT).use (by omega) ?_⟩⟩
  simp only [h.1.1, h.2.2.1, true_and, forall_eq]
  generalize itR T.2 11 = R at *
  generalize itW T.2 T.1 11 = H at *
  have key := lpd (d := 5) (m := 106) (k := 11) (Q := fun o σ' => o = .inl none ∧ (∃ π', isTr σ' a (T.1, T.2.filter (useful R H)) π') ∧ fr (pTr a) σ σ') (fun i => [.ref a, .int (Int32.ofInt (R : Int)), .int (Int32.ofInt (H : Int)), .int (Int32.ofInt (dn i))]) (fun i τ => i ≤ T.2.length ∧ (∃ π', isTr τ a (T.1, fmF id (useful R H) i T.2) π') ∧ fr (pTr a) σ τ) ?_ ?_ T.2.length σ ⟨Nat.le_refl _, ⟨π, by rw [fmF_n]; exact h⟩, fr.rf⟩
  · rw [oi_subl]; exact key
  · rintro i τ ⟨i1, ⟨π', i2⟩, i3⟩ next
    have hr := List.getElem?_eq_getElem (show i < T.2.length by omega)
    have ok := hT.at hr
    generalize T.2[i] = r at hr ok
    rw [fmF_s hr] at i2
    have hA := take_lenL (show i < T.2.length by omega)
    have ht := fmF_t (f := id) (p := useful R H) hr
    generalize ((T.2.drop (i + 1)).map id).filter (useful R H) = X at *
    generalize T.2.take i = A at *
    have hg : (A ++ r :: X)[i]? = some r := mid_get hA
    obtain ⟨qi, qc, qa, qr⟩ := i2.at hg
    have hl2 := i2.2.2.2.2.1
    have hil : i < (A ++ r :: X).length := (List.getElem?_eq_some_iff.mp hg).1
    have q6 : ¬ Int32.ofInt (i : Int) < 0 := by rw [oi_ltl ⟨by dsimp only at hl2; omega, by decide⟩]; omega
    have hdn : Int32.ofInt (i : Int) + (-1) = Int32.ofInt (dn i) := by rw [← dn_s, dn_m1]
    rw [dn_s]
    refine w_Tr_dropUseless_11 ⟨fun q => absurd q q6, fun _ => ?_⟩
    simp only [i2.1.1, i2.1.2.1, i2.1.2.2.1, i2.1.2.2.2.1, isr_ref, rv_ref, qi, qc, qa, qr.1.1, true_and, forall_eq, hdn]
    refine (s_Tr_isUseful qr ok hR hW).use (by omega) ⟨fun e2 => ⟨i2.1.1, ?_⟩, fun e2 => ?_⟩
    · have e3 : useful R H r = false := bI_0.mp e2
      refine (s_Tr_remove i2 (k := i) hil).use (by omega) (fun τ' ⟨r1, r2⟩ => ?_)
      dsimp only at r1
      rw [mid_erase hA] at r1
      refine next τ' ⟨by omega, ?_, i3.tr r2⟩
      rw [ht, id, e3]
      exact ⟨_, r1⟩
    · have e3 : useful R H r = true := bI_1.mp e2
      refine next τ ⟨by omega, ⟨π', ?_⟩, i3⟩
      rw [ht, id, e3]
      exact i2
  · rintro τ ⟨i1, ⟨π', i2⟩, i3⟩
    rw [fmF_0, List.map_id] at i2
    refine w_Tr_dropUseless_11 ⟨fun q => ⟨rfl, ⟨π', i2⟩, i3⟩, fun q => absurd (by decide) q⟩
