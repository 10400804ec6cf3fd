/-! ===== the model: its frame, and its changes ===== -/
/-- what changes: fields of the model, rows by their places, slots -/
def frX (m : Nat) (Fs As Sl : Nat → Prop) (σ σ' : pm_H) : Prop := σ'.1 = σ.1 ∧ σ'.2.1 = σ.2.1 ∧ (∀ a, (a < m ∨ m + 34 < a) → (∀ f, pm_F σ' f a = pm_F σ f a) ∧ ∀ j, pm_A σ' a j = pm_A σ a j) ∧ (∀ f, ¬ Fs f → pm_F σ' f m = pm_F σ f m) ∧ (∀ i, i ≤ 34 → ¬ As i → ∀ j, pm_A σ' (m + i) j = pm_A σ (m + i) j) ∧ ∀ sl, ¬ Sl sl → mEq σ σ' m sl
theorem frX.rf {m : Nat} {Fs As Sl : Nat → Prop} {σ : pm_H} : frX m Fs As Sl σ σ := ⟨rfl, rfl, fun _ _ => ⟨fun _ => rfl, fun _ => rfl⟩, fun _ _ => rfl, fun _ _ _ _ => rfl, fun _ _ => mEq.rf⟩
theorem frX.tr {m : Nat} {Fs As Sl : Nat → Prop} {σ σ1 σ2 : pm_H} (h : frX m Fs As Sl σ σ1) (g : frX m Fs As Sl σ1 σ2) : frX m Fs As Sl σ σ2 := by
  obtain ⟨h1, h2, h3, h4, h5, h6⟩ := h
  obtain ⟨g1, g2, g3, g4, g5, g6⟩ := g
  exact ⟨g1.trans h1, g2.trans h2, fun a ha => ⟨fun f => ((g3 a ha).1 f).trans ((h3 a ha).1 f), fun j => ((g3 a ha).2 j).trans ((h3 a ha).2 j)⟩, fun f hf => (g4 f hf).trans (h4 f hf), fun i hi ha j => (g5 i hi ha j).trans (h5 i hi ha j), fun sl hs => (h6 sl hs).tr (g6 sl hs)⟩
theorem frX.mono {m : Nat} {Fs As Sl Fs' As' Sl' : Nat → Prop} {σ σ1 : pm_H} (h : frX m Fs As Sl σ σ1) (h1 : ∀ f, Fs f → Fs' f) (h2 : ∀ f, As f → As' f) (h3 : ∀ f, Sl f → Sl' f) : frX m Fs' As' Sl' σ σ1 := by
  obtain ⟨g1, g2, g3, g4, g5, g6⟩ := h
  exact ⟨g1, g2, g3, fun f hf => g4 f (fun q => hf (h1 f q)), fun i hi ha => g5 i hi (fun q => ha (h2 i q)), fun sl hs => g6 sl (fun q => hs (h3 sl q))⟩
theorem frX.mS {m : Nat} {Fs As Sl : Nat → Prop} {σ σ' : pm_H} (h : frX m Fs As Sl σ σ') (hm : mS σ m) (hF : ∀ f, Fs f → f ∉ mTab.map (fun e => e.1)) : mS σ' m :=
  mS_of hm h.2.1 (fun e he => h.2.2.2.1 _ (fun q => hF _ q (List.mem_map.mpr ⟨e, he, rfl⟩)))
theorem frX.F {m f : Nat} {Fs As Sl : Nat → Prop} {σ σ' : pm_H} (h : frX m Fs As Sl σ σ') (hf : ¬ Fs f) : pm_F σ' f m = pm_F σ f m := h.2.2.2.1 f hf
theorem frX.A {m i j : Nat} {Fs As Sl : Nat → Prop} {σ σ' : pm_H} (h : frX m Fs As Sl σ σ') (hi : i ≤ 34) (ha : ¬ As i) : pm_A σ' (m + i) j = pm_A σ (m + i) j := h.2.2.2.2.1 i hi ha j
theorem frX.T {m sl : Nat} {Fs As Sl : Nat → Prop} {σ σ' : pm_H} {T : Tr} (h : frX m Fs As Sl σ σ') (ht : mTr σ m sl T) (hT : okTr T) (hs : ¬ Sl sl) : mTr σ' m sl T := mTr_eq ht hT (h.2.2.2.2.2 sl hs)
/-- seen from elsewhere -/
theorem frX.fr {m : Nat} {Fs As Sl : Nat → Prop} {σ σ' : pm_H} (h : frX m Fs As Sl σ σ') : fr (fun b => m ≤ b ∧ b ≤ m + 34) σ σ' := ⟨h.1, h.2.1, fun a ha => h.2.2.1 a (by omega)⟩
theorem frM.X {m : Nat} {P : Nat → Prop} {σ σ' : pm_H} (h : frM m P σ σ') : frX m (fun _ => False) (fun i => 1 ≤ i ∧ i ≤ 9) P σ σ' := by
  refine ⟨h.1.1, h.1.2.1, fun a ha => h.1.2.2 a (by omega), fun f _ => h.1.F (by omega), fun i hi ha j => h.1.A (by omega), h.2⟩
theorem frX_sF {m f : Nat} {v : Value} {σ : pm_H} : frX m (fun g => g = f) (fun _ => False) (fun _ => False) σ (pm_sF σ f m v) := by
  refine ⟨rfl, rfl, fun a ha => ⟨fun g => ?_, fun _ => rfl⟩, fun g hg => ?_, fun _ _ _ _ => rfl, fun _ _ => ⟨rfl, rfl, fun _ _ _ => ⟨rfl, rfl, rfl, rfl, rfl, fun _ _ => ⟨rfl, rfl⟩⟩⟩⟩
  · rw [F_sF, if_neg (by omega)]
  · rw [F_sF, if_neg (fun q => hg q.1)]
theorem frX_sA {m i k : Nat} {v : Value} {σ : pm_H} (hi : 10 ≤ i) (hi' : i ≤ 34) : frX m (fun _ => False) (fun g => g = i) (fun _ => False) σ (pm_sA σ (m + i) k v) := by
  refine ⟨rfl, rfl, fun a ha => ⟨fun _ => rfl, fun j => ?_⟩, fun _ _ => rfl, fun g hg hg2 j => ?_, fun sl _ => mEq_sA (by omega)⟩
  · rw [A_sA, if_neg (by omega)]
  · rw [A_sA, if_neg (by omega)]
def mHi (σ : pm_H) (m : Nat) (hs : List (Nat × Tr)) : Prop := iv (pm_F σ 1211 m) = Int32.ofInt hs.length ∧ hs.length ≤ 8 ∧ ∀ (i : Nat) (e : Nat × Tr), hs[i]? = some e → mTr σ m (5 + i) e.2 ∧ iv (pm_A σ (m + 10) i) = Int32.ofInt e.1
def okH (hs : List (Nat × Tr)) : Prop := ∀ e, e ∈ hs → e.1 < 4 ∧ okTr e.2
theorem okH.at {hs : List (Nat × Tr)} {i : Nat} {e : Nat × Tr} (h : okH hs) (he : hs[i]? = some e) : e.1 < 4 ∧ okTr e.2 := h e (List.mem_of_getElem? he)
/-- one change more -/
def hPush (hs : List (Nat × Tr)) (e : Nat × Tr) : List (Nat × Tr) := (if hs.length = 8 then hs.drop 1 else hs) ++ [e]
theorem oi_5 (k : Nat) : (5 : Int32) + Int32.ofInt (k : Int) = Int32.ofInt ((5 + k : Nat) : Int) := by rw [oi_ladd]; congr 1
theorem s_M_keeps_37 {σ : pm_H} {m sl : Nat} {hs : List (Nat × Tr)} {T : Tr} (hm : mS σ m) (h : mHi σ m hs) (hok : okH hs) (ht : mTr σ m sl T) (hT : okTr T) (hsl : sl < 4) (hl : hs.length < 8) : pm_R 2 169 37 [.ref m, .int (Int32.ofInt (sl : Int)), pm_U] [] σ (fun o σ' => o = .inl none ∧ mHi σ' m (hs ++ [(sl, T)]) ∧ frX m (fun f => f = 1211) (fun i => 1 ≤ i ∧ i ≤ 10) (fun s => 5 ≤ s) σ σ') := by
  obtain ⟨h1, h2, h3⟩ := h
  have qi := vi hl (by omega)
  have qc := vc (show hs.length < 2000000 by omega)
  refine w_M_keeps_37 ?_
  simp only [hm.1, h1, oi_5, true_and, forall_eq]
  refine (s_M_copies hm ht hT (by omega) (tg := 5 + hs.length) (by omega)).use (by omega) (fun σ' ⟨r1, r2⟩ => ?_)
  have hm' := r2.mS hm
  have e1 : iv (pm_F σ' 1211 m) = Int32.ofInt hs.length := by rw [r2.1.F (by omega), h1]
  simp only [hm'.1, hm'.f10, hm'.t10, hm'.l10, e1, isr_ref, rv_ref, qi, qc, t_sA, F_sA, oi_s, true_and, forall_eq]
  have fx : frX m (fun f => f = 1211) (fun i => 1 ≤ i ∧ i ≤ 10) (fun s => 5 ≤ s) σ (pm_sF (pm_sA σ' (m + 10) hs.length (.int (Int32.ofInt (sl : Int)))) 1211 m (.int (Int32.ofInt ((hs.length + 1 : Nat) : Int)))) :=
    ((r2.X.mono (fun f q => q.elim) (fun i q => by omega) (fun s q => by omega)).tr ((frX_sA (by omega) (by omega)).mono (fun f q => q.elim) (fun i q => by omega) (fun s q => q.elim))).tr (frX_sF.mono (fun f q => q) (fun i q => q.elim) (fun s q => q.elim))
  refine ⟨⟨?_, ?_, fun i e he => ?_⟩, fx⟩
  · rw [F_sF, if_pos ⟨rfl, rfl⟩, iv_int]; simp
  · simp; omega
  · rw [List.getElem?_append] at he
    split at he
    · rename_i hi
      constructor
      · have k1 := mTr_eq (h3 i e he).1 (hok.at he).2 (r2.2 _ (by omega))
        have k2 := mTr_eq k1 (hok.at he).2 (mEq_sA (a := m + 10) (i := hs.length) (v := .int (Int32.ofInt (sl : Int))) (by omega))
        exact (frX_sF (f := 1211)).T k2 (hok.at he).2 (fun q => q)
      · rw [A_sF, A_sA, if_neg (by omega), r2.1.A (by omega)]
        exact (h3 i e he).2
    · rename_i hi
      have hz := (List.getElem?_eq_some_iff.mp he).1
      simp at hz
      have ej : i = hs.length := by omega
      subst ej
      rw [Nat.sub_self] at he
      simp at he
      subst he
      constructor
      · have k2 := mTr_eq r1 hT (mEq_sA (a := m + 10) (i := hs.length) (v := .int (Int32.ofInt (sl : Int))) (by omega))
        exact (frX_sF (f := 1211)).T k2 hT (fun q => q)
      · rw [A_sF, A_sA, if_pos ⟨rfl, rfl⟩]; rfl
theorem s_M_keeps {σ : pm_H} {m sl : Nat} {hs : List (Nat × Tr)} {T : Tr} (hm : mS σ m) (h : mHi σ m hs) (hok : okH hs) (ht : mTr σ m sl T) (hT : okTr T) (hsl : sl < 4) : cV 2 169 [.ref m, .int (Int32.ofInt (sl : Int))] σ (fun σ' => mHi σ' m (hPush hs (sl, T)) ∧ frX m (fun f => f = 1211) (fun i => 1 ≤ i ∧ i ≤ 10) (fun s => 5 ≤ s) σ σ') := by
  have h' := h
  obtain ⟨h1, h2, h3⟩ := h
  refine w_M_keeps_0 ?_
  simp only [hm.1, h1, true_and, forall_eq]
  rw [oi_eql ⟨by omega, by decide⟩]
  unfold hPush
  refine ⟨fun q => ?_, fun q => ?_⟩
  · rw [if_pos (by omega)]
    have hl8 : hs.length = 8 := by omega
    refine lp (d := 2) (m := 169) (k := 6) (fun i => [.ref m, .int (Int32.ofInt (sl : Int)), .int (Int32.ofInt ((i + 1 : Nat) : Int))]) (fun i τ => frX m (fun f => f = 1211) (fun i => 1 ≤ i ∧ i ≤ 10) (fun s => 5 ≤ s) σ τ ∧ iv (pm_F τ 1211 m) = Int32.ofInt hs.length ∧ (∀ (j : Nat) (e : Nat × Tr), j < i → hs[j + 1]? = some e → mTr τ m (5 + j) e.2 ∧ iv (pm_A τ (m + 10) j) = Int32.ofInt e.1) ∧ ∀ (j : Nat) (e : Nat × Tr), i < j → hs[j]? = some e → mTr τ m (5 + j) e.2 ∧ iv (pm_A τ (m + 10) j) = Int32.ofInt e.1) 7 ?_ ?_ 0 (Nat.zero_le _) σ ⟨frX.rf, h1, fun j e hj => absurd hj (Nat.not_lt_zero _), fun j e _ he => h3 j e he⟩
    · rintro i hi τ ⟨f, e1, e2, e3⟩ next
      have hm' := f.mS hm (by rintro _ rfl; decide)
      have hr := List.getElem?_eq_getElem (show i + 1 < hs.length by omega)
      generalize hs[i + 1] = e at hr
      obtain ⟨k1, k2⟩ := e3 (i + 1) e (by omega) hr
      have oke := hok.at hr
      have q6 : ¬ (8 : Int32) ≤ Int32.ofInt ((i + 1 : Nat) : Int) := by rw [oi_lle ⟨by omega, by decide⟩]; omega
      have ei : Int32.ofInt ((5 + (i + 1) : Nat) : Int) - 1 = Int32.ofInt ((5 + i : Nat) : Int) := by rw [oi_subl]; congr 1; omega
      have ej : Int32.ofInt ((i + 1 : Nat) : Int) - 1 = Int32.ofInt (i : Int) := by rw [oi_subl]; congr 1; omega
      have qi := vi (show i + 1 < 8 by omega) (by omega)
      have qc := vc (show i + 1 < 2000000 by omega)
      have qi' := vi (show i < 8 by omega) (by omega)
      have qc' := vc (show i < 2000000 by omega)
      refine w_M_keeps_6 ⟨fun q => absurd q q6, fun _ => ⟨hm'.1, ?_⟩⟩
      simp only [oi_5, ei]
      refine (s_M_copies hm' k1 oke.2 (by omega) (tg := 5 + i) (by omega)).use (by omega) (fun σ' ⟨r1, r2⟩ => ?_)
      have hm2 := r2.mS hm'
      have k2' : iv (pm_A σ' (m + 10) (i + 1)) = Int32.ofInt e.1 := by rw [r2.1.A (by omega), k2]
      simp only [hm2.1, hm2.f10, hm2.t10, hm2.l10, isr_ref, rv_ref, qi, qc, ej, qi', qc', k2', true_and, forall_eq]
      rw [oi_s]
      refine next _ ⟨f.tr ((r2.X.mono (fun f q => q.elim) (fun i q => by omega) (fun s q => by omega)).tr ((frX_sA (by omega) (by omega)).mono (fun f q => q.elim) (fun i q => by omega) (fun s q => q.elim))), ?_, fun j e' hj he' => ?_, fun j e' hj he' => ?_⟩
      · rw [F_sA, r2.1.F (by omega), e1]
      · by_cases ej2 : j = i
        · subst ej2
          rw [hr] at he'
          cases he'
          refine ⟨mTr_eq r1 oke.2 (mEq_sA (by omega)), ?_⟩
          rw [A_sA, if_pos ⟨rfl, rfl⟩]; rfl
        · obtain ⟨l1, l2⟩ := e2 j e' (by omega) he'
          refine ⟨mTr_eq (mTr_eq l1 (hok.at he').2 (r2.2 _ (by omega))) (hok.at he').2 (mEq_sA (by omega)), ?_⟩
          rw [A_sA, if_neg (by omega), r2.1.A (by omega)]; exact l2
      · obtain ⟨l1, l2⟩ := e3 j e' (by omega) he'
        refine ⟨mTr_eq (mTr_eq l1 (hok.at he').2 (r2.2 _ (by omega))) (hok.at he').2 (mEq_sA (by omega)), ?_⟩
        rw [A_sA, if_neg (by omega), r2.1.A (by omega)]; exact l2
    · rintro τ ⟨f, e1, e2, e3⟩
      have hm' := f.mS hm (by rintro _ rfl; decide)
      refine w_M_keeps_6 ⟨fun _ => ?_, fun q => absurd (Int32.le_refl _) q⟩
      simp only [hm'.1, e1, true_and, forall_eq]
      have ei : Int32.ofInt (hs.length : Int) - 1 = Int32.ofInt ((hs.drop 1).length : Int) := by rw [oi_subl, List.length_drop]; congr 1; omega
      rw [ei]
      have f2 := f.tr ((frX_sF (f := 1211) (v := .int (Int32.ofInt ((hs.drop 1).length : Int)))).mono (fun f q => q) (fun i q => q.elim) (fun s q => q.elim))
      have hH : mHi (pm_sF τ 1211 m (.int (Int32.ofInt ((hs.drop 1).length : Int)))) m (hs.drop 1) := by
        refine ⟨by rw [F_sF, if_pos ⟨rfl, rfl⟩]; rfl, by rw [List.length_drop]; omega, fun i e he => ?_⟩
        rw [List.getElem?_drop, Nat.add_comm] at he
        have := (List.getElem?_eq_some_iff.mp he).1
        obtain ⟨l1, l2⟩ := e2 i e (by omega) he
        exact ⟨(frX_sF (f := 1211)).T l1 (hok.at he).2 (fun q => q), l2⟩
      refine pm_R_mono (s_M_keeps_37 (f2.mS hm (by rintro _ rfl; decide)) hH (fun e he => hok e (List.mem_of_mem_drop he)) (f2.T ht hT (by omega)) hT hsl (by rw [List.length_drop]; omega)) (fun o σ' ⟨q1, q2, q3⟩ => ⟨q1, q2, f2.tr q3⟩)
  · rw [if_neg (by omega)]
    exact s_M_keeps_37 hm h' hok ht hT hsl (by omega)
