/-! ===== the model: agree ===== -/
def J0 (A B : Tr) (m : Nat) (H : Nat → Bool) (σ : pm_H) (S : List Ent) (τ : pm_H) : Prop := okS A B S ∧ tabM τ m S ∧ botT τ m A B ∧ mhT τ m H ∧ XP m σ τ
def agM (A B : Tr) (m : Nat) (σ : pm_H) (o : pm_O) (σ' : pm_H) : Prop := o = .inl (some (.int (bI (agB A B)))) ∧ XP m σ σ'
theorem s_M_agree_63 {σ τ : pm_H} {m sa sb i : Nat} {A B : Tr} (hm : mS τ m) (hx : XP m σ τ) (no : agB A B = false) : pm_R 4 228 63 [.ref m, .int (Int32.ofInt (sa : Int)), .int (Int32.ofInt (sb : Int)), .int ((0 : Int32)), .int (Int32.ofInt (i : Nat)), pm_U, pm_U, pm_U, pm_U, pm_U, pm_U, pm_U] [] τ (agM A B m σ) := by
  have fin : agM A B m σ (.inl (some (.int ((0 : Int32))))) τ := ⟨by rw [no]; rfl, hx⟩
  exact w_M_agree_63 ⟨hm.1, fun z _ => ⟨fun _ => ⟨rfl, fin⟩, fun _ => ⟨fun _ => ⟨rfl, fin⟩, fun q => absurd rfl q⟩⟩⟩
theorem s_M_agree_115 {σ τ : pm_H} {m sa sb i x r : Nat} {A B : Tr} (hm : mS τ m) (hx : XP m σ τ) (no : agB A B = false) (h1 : sa < 4) : pm_R 4 228 115 [.ref m, .int (Int32.ofInt (sa : Int)), .int (Int32.ofInt (sb : Int)), .int ((0 : Int32)), .int (Int32.ofInt (i : Nat)), .int (Int32.ofInt (x : Nat)), pm_U, .int (Int32.ofInt (r : Nat)), pm_U, pm_U, pm_U, pm_U] [] τ (agM A B m σ) := by
  have v := vi (show sa < 13 by omega) (by omega)
  have w := vc (show sa < 2000000 by omega)
  refine w_M_agree_115 (rdR hm.1 hm.f2 (gA hm.t2 hm.l2 v w rfl ?_))
  rw [oi_s]
  exact ⟨fun _ => s_M_agree_63 hm hx no, fun _ => ⟨fun _ => s_M_agree_63 hm hx no, fun q => absurd rfl q⟩⟩
theorem s_M_agree_125 {σ τ : pm_H} {m sa sb i x r t : Nat} {A B : Tr} (hm : mS τ m) (hx : XP m σ τ) (no : agB A B = false) (h1 : sa < 4) (h2 : sb < 4) : pm_R 4 228 125 [.ref m, .int (Int32.ofInt (sa : Int)), .int (Int32.ofInt (sb : Int)), .int ((0 : Int32)), .int (Int32.ofInt (i : Nat)), .int (Int32.ofInt (x : Nat)), pm_U, .int (Int32.ofInt (r : Nat)), .int (Int32.ofInt (t : Nat)), pm_U, pm_U, pm_U] [] τ (agM A B m σ) := by
  have v := vi (show sb < 13 by omega) (by omega)
  have w := vc (show sb < 2000000 by omega)
  refine w_M_agree_125 (rdR hm.1 hm.f2 (gA hm.t2 hm.l2 v w rfl ?_))
  rw [oi_s]
  exact ⟨fun _ => s_M_agree_115 hm hx no h1, fun _ => ⟨fun _ => s_M_agree_115 hm hx no h1, fun q => absurd rfl q⟩⟩
theorem s_M_agree_188 {σ τ : pm_H} {m sa sb i x r t ja jb s : Nat} {A B : Tr} (hm : mS τ m) (hx : XP m σ τ) (no : agB A B = false) (h1 : sa < 4) (h2 : sb < 4) : pm_R 4 228 188 [.ref m, .int (Int32.ofInt (sa : Int)), .int (Int32.ofInt (sb : Int)), .int ((0 : Int32)), .int (Int32.ofInt (i : Nat)), .int (Int32.ofInt (x : Nat)), pm_U, .int (Int32.ofInt (r : Nat)), .int (Int32.ofInt (t : Nat)), .int (Int32.ofInt (ja : Nat)), .int (Int32.ofInt (jb : Nat)), .int (Int32.ofInt (s : Nat))] [] τ (agM A B m σ) := by
  refine w_M_agree_188 ?_
  rw [oi_s]
  exact ⟨fun _ => s_M_agree_125 hm hx no h1 h2, fun _ => ⟨fun _ => s_M_agree_125 hm hx no h1 h2, fun q => absurd rfl q⟩⟩
/-- one pair of rules -/
theorem s_M_agree_sym {σ τ : pm_H} {m sa sb i x r t : Nat} {A B : Tr} {H : Nat → Bool} {S0 : List Ent} {u v : List Nat} {R T : Rl} (kA : okTr A) (kB : okTr B) (h1 : sa < 4) (h2 : sb < 4) (hm0 : mS σ m) (ha : mTr σ m sa A) (hb : mTr σ m sb B) (hop0 : Hop A B 0) (hr : A.2[r]? = some R) (ht : B.2[t]? = some T) (hx : 12 * rF R + rF T = x) (hop : Hop A B (12 * rT R + rT T)) (hJ : J0 A B m H σ S0 τ) (hi : S0[i]? = some (x, u, v))
    (next : ∀ S1 τ1, J0 A B m H σ S1 τ1 → prS S0 S1 → (∀ s, s < 100 → stpS A B S1 u v R T s) → pm_R 4 228 125 [.ref m, .int (Int32.ofInt (sa : Int)), .int (Int32.ofInt (sb : Int)), .int ((1 : Int32)), .int (Int32.ofInt (i : Nat)), .int (Int32.ofInt (x : Nat)), pm_U, .int (Int32.ofInt (r : Nat)), .int (Int32.ofInt ((t + 1 : Nat) : Int)), pm_U, pm_U, pm_U] [] τ1 (agM A B m σ)) : pm_R 4 228 188 [.ref m, .int (Int32.ofInt (sa : Int)), .int (Int32.ofInt (sb : Int)), .int ((1 : Int32)), .int (Int32.ofInt (i : Nat)), .int (Int32.ofInt (x : Nat)), pm_U, .int (Int32.ofInt (r : Nat)), .int (Int32.ofInt (t : Nat)), .int (Int32.ofInt ((40 * sa + r : Nat) : Int)), .int (Int32.ofInt ((40 * sb + t : Nat) : Int)), .int ((0 : Int32))] [] τ (agM A B m σ) := by
  have o1 := kA.at hr
  have o2 := kB.at ht
  have mr := List.mem_of_getElem? hr
  have mt := List.mem_of_getElem? ht
  have la := ha.2.2.1
  have lb := hb.2.2.1
  have lr := (List.getElem?_eq_some_iff.mp hr).1
  have lt := (List.getElem?_eq_some_iff.mp ht).1
  refine lp_up (fun s (_ : List Ent) => [.ref m, .int (Int32.ofInt (sa : Int)), .int (Int32.ofInt (sb : Int)), .int ((1 : Int32)), .int (Int32.ofInt (i : Nat)), .int (Int32.ofInt (x : Nat)), pm_U, .int (Int32.ofInt (r : Nat)), .int (Int32.ofInt (t : Nat)), .int (Int32.ofInt ((40 * sa + r : Nat) : Int)), .int (Int32.ofInt ((40 * sb + t : Nat) : Int)), .int (Int32.ofInt (s : Nat))]) (fun s S1 τ => J0 A B m H σ S1 τ ∧ prS S0 S1 ∧ ∀ s', s' < s → stpS A B S1 u v R T s') 100 (fun s hs S1 τ hh nx => ?_) (fun S1 τ hh => ?_) 0 (Nat.zero_le _) S0 τ ⟨hJ, prS.rf, fun s' h => absurd h (by omega)⟩
  · obtain ⟨hJ, hp, hd⟩ := hh
    have hJ' := hJ
    obtain ⟨ok, tb, bo, hh, f⟩ := hJ'
    have mτ := f.mS hm0
    have ra := (frX.T f ha kA id).2.2.2 r R hr
    have rb := (frX.T f hb kB id).2.2.2 t T ht
    have same : (en R s = true → en T s = true → False) → pm_R 4 228 188 [.ref m, .int (Int32.ofInt (sa : Int)), .int (Int32.ofInt (sb : Int)), .int ((1 : Int32)), .int (Int32.ofInt (i : Nat)), .int (Int32.ofInt (x : Nat)), pm_U, .int (Int32.ofInt (r : Nat)), .int (Int32.ofInt (t : Nat)), .int (Int32.ofInt ((40 * sa + r : Nat) : Int)), .int (Int32.ofInt ((40 * sb + t : Nat) : Int)), .int (Int32.ofInt ((s + 1 : Nat) : Int))] [] τ (agM A B m σ) := fun no => nx S1 τ ⟨hJ, hp, fun s' h => by
      by_cases c : s' = s
      · rw [c]; exact fun e1 e2 => (no e1 e2).elim
      · exact hd s' (by omega)⟩
    refine w_M_agree_188 ⟨fun q => ?_, fun _ => ⟨fun q => absurd q (by decide), fun _ => ⟨mτ.1, ?_⟩⟩⟩
    · rw [i32_100 (by omega)] at q; omega
    rw [oi_s]
    refine gI (s_M_enables mτ ra (by omega) o1.2.2.2 hs) (by omega) (fun e1 => same (fun q => by rw [e1] at q; cases q)) (fun e1 => ⟨mτ.1, ?_⟩)
    refine gI (s_M_enables mτ rb (by omega) o2.2.2.2 hs) (by omega) (fun e2 => same (fun _ q => by rw [e2] at q; cases q)) (fun e2 => ⟨mτ.1, ?_⟩)
    have hi1 := hp.at hi
    refine pm_C_mono (pm_C_up (s_M_goesOn (A := A) (B := B) mτ tb ok hi1 ra rb (by omega) (by omega) o1 o2 hs e1 e2) (by omega)) (fun o σ' h => ?_)
    obtain ⟨b, rfl, P, P21, P22, tr, fa⟩ := h
    have f' := f.tr P
    refine kI_B ?_
    cases b with
    | false =>
      refine ⟨fun _ => s_M_agree_188 (f'.mS hm0) f' (agB_f (fun q => noCons kA kB ok hi1 mr mt hs hx e1 e2 hop ?_ (q hop0))) h1 h2, fun q => absurd rfl q⟩
      rcases fa rfl with q | ⟨w, q1, q2⟩
      · exact Or.inl q
      · exact Or.inr ⟨w, q1, Or.inr q2⟩
    | true =>
      refine ⟨fun q => absurd q (by decide), fun _ => ?_⟩
      obtain ⟨w, mw, alt⟩ := tr rfl
      have bo' : botT σ' m A B := fun a b c d h3 h4 => by rw [P21]; exact bo a b c d h3 h4
      have hh' : mhT σ' m H := fun a h3 => by rw [P22]; exact hh a h3
      rcases alt with ⟨_, mem, tb'⟩ | ⟨nk, tb'⟩
      · refine nx S1 σ' ⟨⟨ok, tb', bo', hh', f'⟩, hp, fun s' h => ?_⟩
        by_cases c : s' = s
        · rw [c]; exact fun _ _ _ => ⟨w, mw, mem⟩
        · exact hd s' (by omega)
      · have pr : prS S1 (S1 ++ [(12 * rT R + rT T, w)]) := ⟨_, rfl⟩
        refine nx (S1 ++ [(12 * rT R + rT T, w)]) σ' ⟨⟨okS_app kA kB ok hi1 mr mt hs hx e1 e2 hop mw nk, tb', bo', hh', f'⟩, hp.tr pr, fun s' h => ?_⟩
        by_cases c : s' = s
        · rw [c]; exact fun _ _ _ => ⟨w, mw, by simp⟩
        · exact (hd s' (by omega)).up pr.mem
  · obtain ⟨hJ, hp, hd⟩ := hh
    refine w_M_agree_188 ⟨fun _ => ?_, fun q => absurd (Int32.le_refl _) q⟩
    rw [oi_s]
    exact next S1 τ hJ hp hd
/-- one pair of states, all rules -/
theorem s_M_agree_rules {σ τ : pm_H} {m sa sb i x : Nat} {A B : Tr} {H : Nat → Bool} {S0 : List Ent} {u v : List Nat} (kA : okTr A) (kB : okTr B) (h1 : sa < 4) (h2 : sb < 4) (hm0 : mS σ m) (ha : mTr σ m sa A) (hb : mTr σ m sb B) (hH : isHop A B H) (hop0 : Hop A B 0) (hJ : J0 A B m H σ S0 τ) (hi : S0[i]? = some (x, u, v))
    (next : ∀ S1 τ1, J0 A B m H σ S1 τ1 → prS S0 S1 → (∀ r t s, r ∈ A.2 → t ∈ B.2 → s < 100 → 12 * rF r + rF t = x → stpS A B S1 u v r t s) → pm_R 4 228 63 [.ref m, .int (Int32.ofInt (sa : Int)), .int (Int32.ofInt (sb : Int)), .int ((1 : Int32)), .int (Int32.ofInt ((i + 1 : Nat) : Int)), pm_U, pm_U, pm_U, pm_U, pm_U, pm_U, pm_U] [] τ1 (agM A B m σ)) : pm_R 4 228 115 [.ref m, .int (Int32.ofInt (sa : Int)), .int (Int32.ofInt (sb : Int)), .int ((1 : Int32)), .int (Int32.ofInt (i : Nat)), .int (Int32.ofInt (x : Nat)), pm_U, .int ((0 : Int32)), pm_U, pm_U, pm_U, pm_U] [] τ (agM A B m σ) := by
  have va := vi (show sa < 13 by omega) (by omega)
  have wa := vc (show sa < 2000000 by omega)
  have vb := vi (show sb < 13 by omega) (by omega)
  have wb := vc (show sb < 2000000 by omega)
  have la := ha.2.2.1
  have lb := hb.2.2.1
  have x144 := (hJ.1.1 i x u v hi).1
  have pd := p_div x x144
  have pd2 := pd.2
  rw [pd.1] at pd2
  refine lp_up (fun r (_ : List Ent) => [.ref m, .int (Int32.ofInt (sa : Int)), .int (Int32.ofInt (sb : Int)), .int ((1 : Int32)), .int (Int32.ofInt (i : Nat)), .int (Int32.ofInt (x : Nat)), pm_U, .int (Int32.ofInt (r : Nat)), pm_U, pm_U, pm_U, pm_U]) (fun r S1 τ => J0 A B m H σ S1 τ ∧ prS S0 S1 ∧ ∀ a', a' < r → ∀ R, A.2[a']? = some R → ∀ T s, T ∈ B.2 → s < 100 → 12 * rF R + rF T = x → stpS A B S1 u v R T s) A.2.length (fun r hr' S1 τ hh nx => ?_) (fun S1 τ hh => ?_) 0 (Nat.zero_le _) S0 τ ⟨hJ, prS.rf, fun a' h => absurd h (by omega)⟩
  · obtain ⟨hJ, hp, hd⟩ := hh
    have f := hJ.2.2.2.2
    have mτ := f.mS hm0
    have aτ := frX.T f ha kA id
    have hr := List.getElem?_eq_getElem hr'
    generalize A.2[r] = R at hr
    refine w_M_agree_115 (rdR mτ.1 mτ.f2 (gA mτ.t2 mτ.l2 va wa aτ.2.1 ⟨fun q => ?_, fun _ => ⟨fun q => absurd q (by decide), fun _ => ?_⟩⟩))
    · rw [oi_le (by omega)] at q; omega
    refine lp_up (fun t (_ : List Ent) => [.ref m, .int (Int32.ofInt (sa : Int)), .int (Int32.ofInt (sb : Int)), .int ((1 : Int32)), .int (Int32.ofInt (i : Nat)), .int (Int32.ofInt (x : Nat)), pm_U, .int (Int32.ofInt (r : Nat)), .int (Int32.ofInt (t : Nat)), pm_U, pm_U, pm_U]) (fun t S1 τ => J0 A B m H σ S1 τ ∧ prS S0 S1 ∧ (∀ a', a' < r → ∀ R, A.2[a']? = some R → ∀ T s, T ∈ B.2 → s < 100 → 12 * rF R + rF T = x → stpS A B S1 u v R T s) ∧ ∀ b', b' < t → ∀ T, B.2[b']? = some T → ∀ s, s < 100 → 12 * rF R + rF T = x → stpS A B S1 u v R T s) B.2.length (fun t ht' S1 τ hh nx2 => ?_) (fun S1 τ hh => ?_) 0 (Nat.zero_le _) S1 τ ⟨hJ, hp, hd, fun b' h => absurd h (by omega)⟩
    · obtain ⟨hJ, hp, hd, hd2⟩ := hh
      have hJ' := hJ
      obtain ⟨ok, tb, bo, hhT, f⟩ := hJ'
      have mτ := f.mS hm0
      have ht := List.getElem?_eq_getElem ht'
      generalize B.2[t] = T at ht
      have ra := (frX.T f ha kA id).2.2.2 r R hr
      have rb := (frX.T f hb kB id).2.2.2 t T ht
      have bτ := frX.T f hb kB id
      have o1 := kA.at hr
      have o2 := kB.at ht
      have x1 := o1.1
      have x2 := o1.2.1
      have x3 := o2.1
      have x4 := o2.2.1
      have same : (12 * rF R + rF T = x → both R T = true → Hop A B (12 * rT R + rT T) → False) → pm_R 4 228 125 [.ref m, .int (Int32.ofInt (sa : Int)), .int (Int32.ofInt (sb : Int)), .int ((1 : Int32)), .int (Int32.ofInt (i : Nat)), .int (Int32.ofInt (x : Nat)), pm_U, .int (Int32.ofInt (r : Nat)), .int (Int32.ofInt ((t + 1 : Nat) : Int)), pm_U, pm_U, pm_U] [] τ (agM A B m σ) := fun no => nx2 S1 τ ⟨hJ, hp, hd, fun b' h T' hT' s hs hx => by
        by_cases c : b' = t
        · rw [c, ht] at hT'
          cases hT'
          exact fun e1 e2 hh => (no hx (both_iff.mpr ⟨s, hs, e1, e2⟩) hh).elim
        · exact hd2 b' (by omega) T' hT' s hs hx⟩
      refine w_M_agree_125 (rdR mτ.1 mτ.f2 (gA mτ.t2 mτ.l2 vb wb bτ.2.1 ⟨fun q => ?_, fun _ => ⟨fun q => absurd q (by decide), fun _ => ?_⟩⟩))
      · rw [oi_le (by omega)] at q; omega
      rw [oi_row, oi_row, oi_row, oi_s]
      refine rdR mτ.1 mτ.f21 (gA mτ.t21 mτ.l21 (vi (show 40 * r + t < 1600 by omega) (by omega)) (vc (by omega)) (bo r t R T hr ht) ?_)
      rw [bI_0]
      refine ⟨fun c => same (fun _ q => by rw [c] at q; cases q), fun c => ?_⟩
      refine rdR mτ.1 mτ.f3 (gA mτ.t3 mτ.l3 (vi (show 40 * sa + r < 520 by omega) (by omega)) (vc (by omega)) ra.1 ⟨i12_0, ?_⟩)
      rw [pd.1, oi_eq (by omega)]
      refine ⟨fun c1 => ?_, fun c1 => same (fun q => absurd (by omega) c1)⟩
      refine rdR mτ.1 mτ.f3 (gA mτ.t3 mτ.l3 (vi (show 40 * sb + t < 520 by omega) (by omega)) (vc (by omega)) rb.1 ⟨i12_0, ?_⟩)
      rw [pd2, oi_eq (by omega)]
      refine ⟨fun c2 => ?_, fun c2 => same (fun q => absurd (by omega) c2)⟩
      have hx : 12 * rF R + rF T = x := by omega
      refine rdR mτ.1 mτ.f22 (rdR mτ.1 mτ.f4 (gA mτ.t4 mτ.l4 (vi (show 40 * sa + r < 520 by omega) (by omega)) (vc (by omega)) ra.2.1 (rdR mτ.1 mτ.f4 (gA mτ.t4 mτ.l4 (vi (show 40 * sb + t < 520 by omega) (by omega)) (vc (by omega)) rb.2.1 ?_))))
      rw [oi_12l]
      refine gA mτ.t22 mτ.l22 (vi (show 12 * rT R + rT T < 144 by omega) (by omega)) (vc (by omega)) (hhT _ (by omega)) ?_
      rw [bI_0]
      refine ⟨fun c3 => same (fun _ _ q => by rw [(hH _ (by omega)).mpr q] at c3; cases c3), fun c3 => ?_⟩
      rw [Bool.not_eq_false] at c3
      have hop := (hH _ (by omega)).mp c3
      refine s_M_agree_sym kA kB h1 h2 hm0 ha hb hop0 hr ht hx hop hJ (hp.at hi) (fun S2 τ2 hJ2 hp2 hd3 => ?_)
      refine nx2 S2 τ2 ⟨hJ2, hp.tr hp2, fun a' h R' hR' T' s' hT' hs' hx' => (hd a' h R' hR' T' s' hT' hs' hx').up hp2.mem, fun b' h T' hT' s' hs' hx' => ?_⟩
      by_cases c : b' = t
      · rw [c, ht] at hT'
        cases hT'
        exact hd3 s' hs'
      · exact (hd2 b' (by omega) T' hT' s' hs' hx').up hp2.mem
    · obtain ⟨hJ, hp, hd, hd2⟩ := hh
      have f := hJ.2.2.2.2
      have mτ := f.mS hm0
      have bτ := frX.T f hb kB id
      refine w_M_agree_125 (rdR mτ.1 mτ.f2 (gA mτ.t2 mτ.l2 vb wb bτ.2.1 ⟨fun _ => ?_, fun q => absurd (Int32.le_refl _) q⟩))
      rw [oi_s]
      refine nx S1 τ ⟨hJ, hp, fun a' h R' hR' T' s' hT' hs' hx' => ?_⟩
      by_cases c : a' = r
      · rw [c, hr] at hR'
        cases hR'
        obtain ⟨b', hb'⟩ := List.mem_iff_getElem?.mp hT'
        exact hd2 b' (List.getElem?_eq_some_iff.mp hb').1 T' hb' s' hs' hx'
      · exact hd a' (by omega) R' hR' T' s' hT' hs' hx'
  · obtain ⟨hJ, hp, hd⟩ := hh
    have f := hJ.2.2.2.2
    have mτ := f.mS hm0
    have aτ := frX.T f ha kA id
    refine w_M_agree_115 (rdR mτ.1 mτ.f2 (gA mτ.t2 mτ.l2 va wa aτ.2.1 ⟨fun _ => ?_, fun q => absurd (Int32.le_refl _) q⟩))
    rw [oi_s]
    refine next S1 τ hJ hp (fun R T s mr mt hs hx => ?_)
    obtain ⟨a', ha'⟩ := List.mem_iff_getElem?.mp mr
    exact hd a' (List.getElem?_eq_some_iff.mp ha').1 R ha' T s mt hs hx
theorem s_M_agree {σ : pm_H} {m sa sb : Nat} {A B : Tr} (hm : mS σ m) (ha : mTr σ m sa A) (hb : mTr σ m sb B) (kA : okTr A) (kB : okTr B) (h1 : sa < 4) (h2 : sb < 4) : pm_C 4 228 [.ref m, .int (Int32.ofInt (sa : Int)), .int (Int32.ofInt (sb : Int))] σ (agM A B m σ) := by
  have va := vi (show sa < 13 by omega) (by omega)
  have wa := vc (show sa < 2000000 by omega)
  have vb := vi (show sb < 13 by omega) (by omega)
  have wb := vc (show sb < 2000000 by omega)
  have la := ha.2.2.1
  have lb := hb.2.2.1
  refine w_M_agree_0 ?_
  refine lp (fun i => [.ref m, .int (Int32.ofInt (sa : Int)), .int (Int32.ofInt (sb : Int)), .int (Int32.ofInt (i : Nat)), pm_U, pm_U, pm_U, pm_U, pm_U, pm_U, pm_U, pm_U]) (fun i τ => XR m 21 σ τ ∧ ∀ i' j r t, i' < i → A.2[i']? = some r → B.2[j]? = some t → iv (pm_A τ (m + 21) (40 * i' + j)) = bI (both r t)) A.2.length (fun i hi τ hh next => ?_) (fun τ hh => ?_) 0 (Nat.zero_le _) σ ⟨frX.rf, fun i' j r t h => absurd h (by omega)⟩
  · obtain ⟨f, hd⟩ := hh
    have mτ := f.mS hm
    have aτ := frX.T f ha kA id
    have hr := List.getElem?_eq_getElem hi
    generalize A.2[i] = r at hr
    have o1 := kA.at hr
    refine w_M_agree_2 (rdR mτ.1 mτ.f2 (gA mτ.t2 mτ.l2 va wa aτ.2.1 ⟨fun q => ?_, fun _ => ?_⟩))
    · rw [oi_le (by omega)] at q; omega
    refine lp (fun j => [.ref m, .int (Int32.ofInt (sa : Int)), .int (Int32.ofInt (sb : Int)), .int (Int32.ofInt (i : Nat)), .int (Int32.ofInt (j : Nat)), pm_U, pm_U, pm_U, pm_U, pm_U, pm_U, pm_U]) (fun j τ => XR m 21 σ τ ∧ (∀ i' j r t, i' < i → A.2[i']? = some r → B.2[j]? = some t → iv (pm_A τ (m + 21) (40 * i' + j)) = bI (both r t)) ∧ ∀ j' t, j' < j → B.2[j']? = some t → iv (pm_A τ (m + 21) (40 * i + j')) = bI (both r t)) B.2.length (fun j hj τ hh next2 => ?_) (fun τ hh => ?_) 0 (Nat.zero_le _) τ ⟨f, hd, fun j' t h => absurd h (by omega)⟩
    · obtain ⟨f, hd, hd2⟩ := hh
      have mτ := f.mS hm
      have aτ := frX.T f ha kA id
      have bτ := frX.T f hb kB id
      have ht := List.getElem?_eq_getElem hj
      generalize B.2[j] = t at ht
      have o2 := kB.at ht
      refine w_M_agree_10 (rdR mτ.1 mτ.f2 (gA mτ.t2 mτ.l2 vb wb bτ.2.1 ⟨fun q => ?_, fun _ => rdR mτ.1 mτ.f21 ⟨mτ.1, ?_⟩⟩))
      · rw [oi_le (by omega)] at q; omega
      rw [oi_row, oi_row, oi_row, oi_s]
      refine (s_M_areBoth mτ (aτ.2.2.2 i r hr) (by omega) o1.2.2.2 (bτ.2.2.2 j t ht) (by omega) o2.2.2.2).use (by omega) ?_
      refine wA mτ.t21 mτ.l21 (vi (show 40 * i + j < 1600 by omega) (by omega)) (vc (by omega)) (fun σ5 e5 => ?_)
      rw [nb_b] at e5
      refine next2 σ5 ⟨f.tr (by rw [e5]; exact XR_sA (by omega) (by omega)), fun i' j' r' t' h3 h4 h5 => ?_, fun j' t' h3 h4 => ?_⟩
      · have j40 := (List.getElem?_eq_some_iff.mp h5).1
        rw [e5, A_sA, if_neg (by omega)]
        exact hd i' j' r' t' h3 h4 h5
      · rw [e5, A_sA]
        by_cases c : j' = j
        · rw [c, ht] at h4
          cases h4
          rw [if_pos ⟨rfl, by omega⟩]; rfl
        · rw [if_neg (by omega)]
          exact hd2 j' t' (by omega) h4
    · obtain ⟨f, hd, hd2⟩ := hh
      have mτ := f.mS hm
      have bτ := frX.T f hb kB id
      refine w_M_agree_10 (rdR mτ.1 mτ.f2 (gA mτ.t2 mτ.l2 vb wb bτ.2.1 ⟨fun _ => ?_, fun q => absurd (Int32.le_refl _) q⟩))
      rw [oi_s]
      refine next τ ⟨f, fun i' j r' t h3 h4 h5 => ?_⟩
      by_cases c : i' = i
      · rw [c, hr] at h4
        cases h4
        rw [c]
        exact hd2 j t (List.getElem?_eq_some_iff.mp h5).1 h5
      · exact hd i' j r' t (by omega) h4 h5
  · obtain ⟨f0, hd⟩ := hh
    have mτ := f0.mS hm
    have aτ := frX.T f0 ha kA id
    have bτ := frX.T f0 hb kB id
    have bo : botT τ m A B := fun i j r t h3 h4 => hd i j r t (List.getElem?_eq_some_iff.mp h3).1 h3 h4
    refine w_M_agree_2 (rdR mτ.1 mτ.f2 (gA mτ.t2 mτ.l2 va wa aτ.2.1 ⟨fun _ => ⟨mτ.1, ?_⟩, fun q => absurd (Int32.le_refl _) q⟩))
    refine (s_M_ends mτ aτ bτ kA kB h1 h2 bo).use (by omega) (fun σ3 p3 => ?_)
    obtain ⟨H, hH, hT, hK, fe⟩ := p3
    have m3 := fe.mS mτ
    have f3 : XP m σ σ3 := (f0.P (by omega)).tr fe.P
    have bo3 := botT_X bo fe (by omega)
    have v0 : vp_in (0 : Int32) 144 := by rw [vp_in_iff]; decide
    refine rdR m3.1 m3.f22 (gA m3.t22 m3.l22 v0 c00 (hT 0 (by omega)) ?_)
    rw [bI_0]
    refine ⟨fun c => ⟨rfl, ?_, f3⟩, fun c => ?_⟩
    · rw [agB_t (fun q => by rw [(hH 0 (by omega)).mpr q] at c; cases c)]; rfl
    rw [Bool.not_eq_false] at c
    have hop0 := (hH 0 (by omega)).mp c
    refine wF m3.1 (fun σ6 e6 => ?_)
    have f6' : XP m σ3 σ6 := by rw [e6]; exact XP_sF
    have f6 := f3.tr f6'
    have m6 := f6'.mS m3
    refine ⟨m6.1, ?_⟩
    have t6 : tabM σ6 m [] := ⟨by rw [e6, F_sF, if_pos ⟨rfl, rfl⟩]; rfl, fun i x u v h => by simp at h, fun x hx _ => by rw [e6, A_sF]; exact hK x hx⟩
    refine pm_C_mono (pm_C_up (s_M_comes (A := A) (B := B) (g := 0) (x := []) (y := []) m6 t6 (Or.inr rfl) (fun i c h => by simp at h) (fun i c h => by simp at h) (by omega) (by simp) (by simp) (fun c h => by simp at h) (fun c h => by simp at h) (by simp)) (by omega)) (fun o σ7 h => ?_)
    obtain ⟨b, rfl, tr, fa⟩ := h
    refine kI_B ?_
    cases b with
    | false =>
      obtain ⟨_, w', z1, _⟩ := fa rfl
      simp at z1
    | true =>
      obtain ⟨fc, alt⟩ := tr rfl
      have C := XQ_21 fc
      have f7 := f6.tr C.1
      have t7 : tabM σ7 m [(0, [], [])] := by
        rcases alt with ⟨q, _⟩ | ⟨_, q⟩
        · unfold keys at q; simp at q
        · exact q
      have base : J0 A B m H σ [(0, [], [])] σ7 := ⟨okS_0, t7, fun i j r t h3 h4 => by rw [C.2.1, e6, A_sF]; exact bo3 i j r t h3 h4, fun x hx => by rw [C.2.2, e6, A_sF]; exact hT x hx, f7⟩
      refine lp_up (fun i (_ : List Ent) => [.ref m, .int (Int32.ofInt (sa : Int)), .int (Int32.ofInt (sb : Int)), .int ((1 : Int32)), .int (Int32.ofInt (i : Nat)), pm_U, pm_U, pm_U, pm_U, pm_U, pm_U, pm_U]) (fun i S1 τ => J0 A B m H σ S1 τ ∧ i ≤ S1.length ∧ ∀ a, a < i → ∀ (x : Nat) (u v : List Nat), S1[a]? = some (x, u, v) → (finP A B x = true → u = [] ∧ v = []) ∧ ∀ r t s, r ∈ A.2 → t ∈ B.2 → s < 100 → 12 * rF r + rF t = x → stpS A B S1 u v r t s) 145 (fun i hi S1 τ hh next => ?_) (fun S1 τ hh => ?_) 0 (Nat.zero_le _) [(0, [], [])] σ7 ⟨base, Nat.zero_le _, fun a h => absurd h (by omega)⟩
      · obtain ⟨hJ, hle, hd⟩ := hh
        have hJ' := hJ
        obtain ⟨ok, tb, bo, hhT, f⟩ := hJ'
        have mτ := f.mS hm
        have aτ := frX.T f ha kA id
        have bτ := frX.T f hb kB id
        have l144 := okS_len ok
        refine w_M_agree_63 (rdF mτ.1 tb.1 ?_)
        rw [oi_le (by omega)]
        refine ⟨fun c2 => ⟨rfl, ?_, f⟩, fun c2 => ⟨fun q => absurd q (by decide), fun _ => ?_⟩⟩
        · rw [agB_t (fun _ => allCons ok (fun x u v hm' => by
            obtain ⟨a, ha'⟩ := List.mem_iff_getElem?.mp hm'
            have := (List.getElem?_eq_some_iff.mp ha').1
            exact (hd a (by omega) x u v ha').1) (fun x u v hm' => by
            obtain ⟨a, ha'⟩ := List.mem_iff_getElem?.mp hm'
            have := (List.getElem?_eq_some_iff.mp ha').1
            exact (hd a (by omega) x u v ha').2))]
          rfl
        have il : i < S1.length := by omega
        have he := List.getElem?_eq_getElem il
        generalize S1[i] = en0 at he
        obtain ⟨x, u, v⟩ := en0
        obtain ⟨b1, b2, b3, b4, b5⟩ := ok.1 i x u v he
        have uv0 : u.length = 0 ∨ v.length = 0 := by
          rcases b3 with q | q
          · left; rw [q]; rfl
          · right; rw [q]; rfl
        obtain ⟨te, ent⟩ := tb.2.1 i x u v he
        have pd := p_div x b1
        have pd2 := pd.2
        rw [pd.1] at pd2
        have k12 : x / 12 < 12 := by omega
        have q12 : x % 12 < 12 := Nat.mod_lt _ (by decide)
        have vx := vi (show x < 144 from b1) (by omega)
        have wx := vc (show x < 2000000 by omega)
        have go : (finP A B x = true → u = [] ∧ v = []) → pm_R 4 228 115 [.ref m, .int (Int32.ofInt (sa : Int)), .int (Int32.ofInt (sb : Int)), .int ((1 : Int32)), .int (Int32.ofInt (i : Nat)), .int (Int32.ofInt (x : Nat)), pm_U, .int ((0 : Int32)), pm_U, pm_U, pm_U, pm_U] [] τ (agM A B m σ) := fun fin => by
          refine s_M_agree_rules kA kB h1 h2 hm ha hb hH hop0 hJ he (fun S2 τ2 hJ2 hp2 hd3 => ?_)
          have le2 := hp2.len
          refine next S2 τ2 ⟨hJ2, by omega, fun a h x' u' v' hx' => ?_⟩
          by_cases c2 : a = i
          · rw [c2, hp2.at he] at hx'
            cases hx'
            exact ⟨fin, hd3⟩
          · have a1 : a < S1.length := by omega
            have ha1 := List.getElem?_eq_getElem a1
            have ha2 := hp2.at ha1
            rw [hx'] at ha2
            have e3 := Option.some.inj ha2
            rw [← e3] at ha1
            have g := hd a (by omega) x' u' v' ha1
            exact ⟨g.1, fun r t s mr mt hs' hx0 => (g.2 r t s mr mt hs' hx0).up hp2.mem⟩
        have off : finP A B x = false → pm_R 4 228 101 [.ref m, .int (Int32.ofInt (sa : Int)), .int (Int32.ofInt (sb : Int)), pm_U, .int (Int32.ofInt (i : Nat)), .int (Int32.ofInt (x : Nat)), pm_U, pm_U, pm_U, pm_U, pm_U, pm_U] [.int ((0 : Int32))] τ (agM A B m σ) := fun nf => w_M_agree_101 ⟨fun _ => go (fun q => by rw [nf] at q; cases q), fun q => absurd rfl q⟩
        refine rdR mτ.1 mτ.f26 (gA mτ.t26 mτ.l26 (vi (show i < 49152 by omega) (by omega)) (vc (by omega)) te (rdR mτ.1 mτ.f1 (gA mτ.t1 mτ.l1 va wa aτ.1 ⟨i12_0, ?_⟩)))
        rw [pd.1, st_has1 kA.1 k12, pd2]
        refine ⟨fun c3 => rdR mτ.1 mτ.f1 (gA mτ.t1 mτ.l1 vb wb bτ.1 ⟨i12_0, ?_⟩), fun c3 => off ?_⟩
        · rw [st_has1 kB.1 q12]
          refine ⟨fun c4 => w_M_agree_101 ⟨fun q => absurd q (by decide), fun _ => ?_⟩, fun c4 => off ?_⟩
          · have fx : finP A B x = true := by unfold finP; rw [c3, c4]; rfl
            refine rdR mτ.1 mτ.f24 (gA mτ.t24 mτ.l24 vx wx ent.2.1 ?_)
            have z0 : Int32.ofInt ((u.length : Int) - (v.length : Int)) = 0 ↔ (u.length : Int) - (v.length : Int) = 0 := z_eq0 ⟨by omega, by omega⟩
            rw [z0]
            refine ⟨fun q => go (fun _ => ?_), fun q => ?_⟩
            · exact ⟨List.length_eq_zero_iff.mp (by omega), List.length_eq_zero_iff.mp (by omega)⟩
            · exact s_M_agree_115 (r := 0) mτ f (agB_f (fun w => noFin ok (List.mem_of_getElem? he) fx (fun w2 => q (by rw [w2.1, w2.2]; rfl)) (w hop0))) h1
          · unfold finP
            rw [Bool.not_eq_true] at c4
            rw [c4, Bool.and_false]
        · unfold finP
          rw [Bool.not_eq_true] at c3
          rw [c3, Bool.false_and]
      · obtain ⟨hJ, hle, _⟩ := hh
        have l144 := okS_len hJ.1
        omega
