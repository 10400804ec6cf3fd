/-! ===== compose: the class, one rule ===== -/
theorem isCo_k {P : Nat → Prop} {σ σ' : pm_H} {e : Nat} (h : isCo σ e) (hf : fr P σ σ') (hF : ∀ f, f ≠ 1 → f ≠ 6 → pm_F σ' f e = pm_F σ f e) (hp : ¬ P (e + 3) ∧ ¬ P (e + 4)) : isCo σ' e := by
  unfold isCo
  simp only [hf.t, hf.l, hF 0 (by decide) (by decide), hF 2 (by decide) (by decide), hF 3 (by decide) (by decide), hF 4 (by decide) (by decide), hF 5 (by decide) (by decide), hf.A hp.1, hf.A hp.2]
  exact h
def coP (σ : pm_H) (e : Nat) (ps : List Nat) : Prop := iv (pm_F σ 1 e) = Int32.ofInt (ps.length : Int) ∧ (ps.length ≤ 12 ∧ ∀ q, q ∈ ps → q < 144) ∧ ∀ (i p : Nat), ps[i]? = some p → iv (pm_A σ (e + 1) i) = Int32.ofInt (p : Int)
theorem coP_fr {P : Nat → Prop} {σ σ' : pm_H} {e : Nat} {ps : List Nat} (h : coP σ e ps) (hf : fr P σ σ') (hF : pm_F σ' 1 e = pm_F σ 1 e) (hp : ¬ P (e + 1)) : coP σ' e ps :=
  ⟨by rw [hF]; exact h.1, h.2.1, fun i p hi => by rw [hf.A hp]; exact h.2.2 i p hi⟩
theorem addP_len {p : Nat} {ps : List Nat} (h : ps.length ≤ 12) : (addP p ps).length ≤ 12 := by
  unfold addP
  split
  · exact h
  · split
    · rw [List.length_append]; show ps.length + 1 ≤ 12; omega
    · exact h
theorem addP_mem {p q : Nat} {ps : List Nat} (h : q ∈ addP p ps) : q ∈ ps ∨ q = p := by
  unfold addP at h
  split at h
  · exact Or.inl h
  · split at h
    · exact (List.mem_append.mp h).imp id List.mem_singleton.mp
    · exact Or.inl h
theorem oi_pm1 (n : Nat) : Int32.ofInt ((n + 1 : Nat) : Int) - 1 = Int32.ofInt (n : Int) := by
  rw [show Int32.ofInt ((n + 1 : Nat) : Int) - 1 = Int32.ofInt (((n + 1 : Nat) : Int) - 1) from oi_subl _ 1]; congr 1; omega
def nuP (p : Nat) (ps : List Nat) (e : Nat) (σ σ' : pm_H) : Prop := coP σ' e (addP p ps) ∧ fr (fun b => b = e ∨ b = e + 1) σ σ' ∧ ∀ f, f ≠ 1 → pm_F σ' f e = pm_F σ f e
theorem s_Co_numberOf {σ : pm_H} {e p : Nat} {ps : List Nat} (hc : isCo σ e) (h : coP σ e ps) (hp : p < 144) : cIP 0 7 [.ref e, .int (Int32.ofInt (p : Int))] σ (Int32.ofInt (fnd p ps : Nat)) (nuP p ps e σ) := by
  have hl := h.2.1.1
  have fl := fnd_le p ps
  refine w_Co_numberOf_0 ?_
  have fin : pm_R 0 7 2 [.ref e, .int (Int32.ofInt (p : Int)), .int (Int32.ofInt ((fnd p ps : Nat) : Int))] [] σ (fun o σ' => o = .inl (some (.int (Int32.ofInt (fnd p ps : Nat)))) ∧ nuP p ps e σ σ') := by
    by_cases c : fnd p ps < ps.length
    · have q6 : ¬ Int32.ofInt (ps.length : Int) ≤ Int32.ofInt ((fnd p ps : Nat) : Int) := by rw [oi_le (by omega)]; omega
      have v := vi (show fnd p ps < 12 by omega) (by omega)
      have w := vc (show fnd p ps < 2000000 by omega)
      have at0 := h.2.2 _ _ (fnd_eq ps c)
      refine w_Co_numberOf_2 ?_
      simp only [hc.1, h.1, hc.2.1.1, hc.2.2.1.1, hc.2.2.1.2.1, q6, v, w, at0, iv_int, isr_ref, rv_ref, not_false_eq_true, false_implies, true_implies, true_and, forall_eq, and_true, not_true_eq_false]
      have ea : addP p ps = ps := if_pos c
      refine ⟨?_, fr.rf, fun f _ => rfl⟩
      rw [ea]; exact h
    · have ce : fnd p ps = ps.length := by omega
      rw [ce]
      refine w_Co_numberOf_2 ?_
      by_cases c12 : ps.length < 12
      · have v := vi (show ps.length < 12 by omega) (by omega)
        have w := vc (show ps.length < 2000000 by omega)
        have ea : addP p ps = ps ++ [p] := by unfold addP; rw [if_neg c, if_pos c12]
        simp only [hc.1, h.1, hc.2.1.1, hc.2.2.1.1, hc.2.2.1.2.1, v, w, iv_int, isr_ref, rv_ref, t_sA, t_sF, F_sA, F_sF, and_self, if_true, true_and, forall_eq, oi_s, oi_pm1, z_lt12 (nrg (show ps.length < 2000000 by omega))]
        refine ⟨fun _ => ⟨fun _ => ?_, fun q => absurd (show (ps.length : Int) < 12 by omega) q⟩, fun q => absurd (Int32.le_refl _) q⟩
        refine ⟨?_, (fr_sA (P := fun b => b = e ∨ b = e + 1) (Or.inr rfl)).tr (fr_sF (Or.inl rfl)), fun f hf => ?_⟩
        rotate_left
        · rw [F_sF, if_neg (fun x => hf x.1), F_sA]
        rw [ea]
        refine ⟨?_, ⟨?_, fun q hq => ?_⟩, fun i q hq => ?_⟩
        · rw [F_sF, if_pos ⟨rfl, rfl⟩, List.length_append]; rfl
        · rw [List.length_append]; show ps.length + 1 ≤ 12; omega
        · rcases List.mem_append.mp hq with q1 | q1
          · exact h.2.1.2 q q1
          · rw [List.mem_singleton.mp q1]; exact hp
        · rw [A_sF, A_sA]
          by_cases ci : i = ps.length
          · subst ci
            rw [List.getElem?_append_right (Nat.le_refl _), Nat.sub_self] at hq
            cases hq
            rw [if_pos ⟨rfl, rfl⟩]; rfl
          · rw [if_neg (fun x => ci x.2)]
            have li := (List.getElem?_eq_some_iff.mp hq).1
            rw [List.length_append] at li
            replace li : i < ps.length + 1 := li
            rw [List.getElem?_append_left (by omega)] at hq
            exact h.2.2 i q hq
      · have ea : addP p ps = ps := by unfold addP; rw [if_neg c, if_neg c12]
        simp only [hc.1, h.1, true_and, forall_eq, z_lt12 (nrg (show ps.length < 2000000 by omega))]
        refine ⟨fun _ => ⟨fun q => absurd (show ps.length < 12 by omega) c12, fun _ => ?_⟩, fun q => absurd (Int32.le_refl _) q⟩
        have e12 : ps.length = 12 := by omega
        rw [e12]
        refine ⟨rfl, ?_, fr.rf, fun f _ => rfl⟩
        rw [ea]; exact h
  refine lp0 (fun i => [.ref e, .int (Int32.ofInt (p : Int)), .int (Int32.ofInt (i : Nat))]) (fnd p ps) (fun i hi next => ?_) fin 0 (Nat.zero_le _)
  have hq := List.getElem?_eq_getElem (show i < ps.length by omega)
  generalize ps[i] = q at hq
  have ne := fnd_lt ps i q hi hq
  have q1 := h.2.1.2 q (List.mem_of_getElem? hq)
  have q6 : ¬ Int32.ofInt (ps.length : Int) ≤ Int32.ofInt (i : Nat) := by rw [oi_le (by omega)]; omega
  have q7 : ¬ Int32.ofInt (q : Int) = Int32.ofInt (p : Int) := by rw [oi_eq (by omega)]; omega
  have v := vi (show i < 12 by omega) (by omega)
  have w := vc (show i < 2000000 by omega)
  refine w_Co_numberOf_2 ?_
  simp only [hc.1, h.1, hc.2.1.1, hc.2.2.1.1, hc.2.2.1.2.1, q6, q7, v, w, h.2.2 i q hq, iv_int, isr_ref, rv_ref, not_false_eq_true, false_implies, true_implies, true_and, forall_eq, oi_s]
  exact next
/-- the composer at work; it is over -/
def cxI (σ : pm_H) (e dr : Nat) (π : Nat → Nat) (st : CS) : Prop := isCo σ e ∧ iv (pm_F σ 6 e) = 1 ∧ coP σ e st.1 ∧ isTr σ dr (0, st.2) π ∧ ∀ r, r ∈ st.2 → okR r
def cxO (σ : pm_H) (e dr : Nat) (π : Nat → Nat) : Prop := isCo σ e ∧ iv (pm_F σ 6 e) = 0 ∧ ∃ ps T, coP σ e ps ∧ isTr σ dr T π ∧ T.1 = 0
def cxS (σ : pm_H) (e dr : Nat) (π : Nat → Nat) (o : Option CS) : Prop := match o with
  | some st => cxI σ e dr π st
  | none => cxO σ e dr π
theorem cxO_set {σ : pm_H} {e dr : Nat} {π : Nat → Nat} {ps : List Nat} {T : Tr} (hc : isCo σ e) (hp : coP σ e ps) (ht : isTr σ dr T π) (h0 : T.1 = 0) (hd : dr + 122 ≤ e) : cxO (pm_sF σ 6 e (.int ((0 : Int32)))) e dr π := by
  have f : fr (fun b => b = e) σ (pm_sF σ 6 e (.int ((0 : Int32)))) := fr_sF (P := fun b => b = e) rfl
  refine ⟨isCo_k hc f (fun f _ h6 => by rw [F_sF, if_neg (fun x => h6 x.1)]) ⟨by omega, by omega⟩, by rw [F_sF, if_pos ⟨rfl, rfl⟩]; rfl, ps, T, coP_fr hp f (by rw [F_sF, if_neg (by omega)]) (by omega), isTr_fr ht f (fun b hb => by unfold pTr at hb; omega), h0⟩
/-- how a rule that is made reads its terms -/
def okZ (zs : List (Nat × Rl)) : Prop := ∀ z, z ∈ zs → okT z.1 ∧ okR z.2 ∧ ∀ u, u ∈ rTs z.2 → okT (outT2 z.1 u) ∧ (100 ≤ u → 1000 ≤ z.1 + u)
theorem okZ_u {zs : List (Nat × Rl)} (h : okZ zs) {u : Nat} (hu : u ∈ jT zs) : okT u := by
  obtain ⟨z, h1, w, h2, h3⟩ := jT_mem hu
  rw [← h3]; exact ((h z h1).2.2 w h2).1
theorem okT_lt {t : Nat} (h : okT t) : t < 100000 := by unfold okT at h; omega
theorem map_take_s {l : List Nat} {j u : Nat} {f : Nat → Nat} (h : l[j]? = some u) : (l.take (j + 1)).map f = (l.take j).map f ++ [f u] := by
  rw [List.take_add_one, h]; simp
def coC (σ : pm_H) (e : Nat) (B : Tr) (zs : List (Nat × Rl)) : Prop := ∀ (i c : Nat) (t : Rl), zs[i]? = some (c, t) → ∃ j : Nat, iv (pm_A σ (e + 2) i) = Int32.ofInt (j : Int) ∧ B.2[j]? = some t
theorem i6_le {a b : Nat} (ha : a < 1000) (hb : b < 1000) : Int32.ofInt (a : Int) + Int32.ofInt (b : Int) ≤ 6 ↔ a + b ≤ 6 := by
  rw [oi_add]
  refine (oi_lel (n := 6) ⟨by omega, by decide⟩).trans ?_
  show (a : Int) + b ≤ 6 ↔ _
  omega
theorem z_12le {k n : Nat} (h : k ≤ n) (hn : n ≤ 12) : (12 : Int32) ≤ Int32.ofInt (k : Int) ↔ 12 ≤ k := by
  refine (oi_lle (n := 12) ⟨by omega, by decide⟩).trans ?_
  show (12 : Int) ≤ (k : Int) ↔ _
  omega
theorem s_Co_addCombined {σ : pm_H} {e dr ρ tb n q : Nat} {π πb : Nat → Nat} {r : Rl} {B : Tr} {zs : List (Nat × Rl)} {g : Nat → Bool} {st : CS} (hi : cxI σ e dr π st) (hr : isRu σ ρ r) (ok : okR r) (hb : isTr σ tb B πb) (hB : okTr B) (hz : zs.map Prod.fst = rTs r) (hZ : okZ zs) (hch : coC σ e B zs) (hg : aSy σ (e + 6 + (rTs r).length) (mk g).1 (mk g).2) (hn : n < 12) (hq : q < 12) (d1 : ρ + 3 ≤ dr) (d2 : tb + 122 ≤ dr) (d3 : dr + 122 ≤ e) : cV 3 6 [.ref e, .ref ρ, .ref tb, .ref dr, .int (Int32.ofInt (n : Int)), .int (Int32.ofInt (q : Int))] σ (fun σ' => cxS σ' e dr π (joinA r n q g zs st) ∧ fr (fun b => pTr dr b ∨ b = e ∨ b = e + 1) σ σ') := by
  obtain ⟨hc, h6, hP, hT, hR⟩ := hi
  obtain ⟨ps, rs⟩ := st
  dsimp only at hP hT hR
  have l40 := hT.2.2.2.2.1
  dsimp only at l40
  have rT12 := ok.2.1
  have l6 := ok.2.2.2.1
  have zl : zs.length = (rTs r).length := by rw [← hz, List.length_map]
  have ep : Int32.ofInt (rT r : Int) * 12 + Int32.ofInt (q : Int) = Int32.ofInt ((rT r * 12 + q : Nat) : Int) := by
    rw [show Int32.ofInt (rT r : Int) * 12 = Int32.ofInt ((rT r : Int) * 12) from oi_mull _ 12, oi_add]; congr 1
  refine w_Co_addCombined_0 ?_
  simp only [hr.1.1, hr.2.2.1, hc.1, ep, iv_int, true_and, forall_eq]
  refine (s_Co_numberOf hc hP (show rT r * 12 + q < 144 by omega)).use (by omega) (fun σ1 p1 => ?_)
  obtain ⟨P1, f1, F1⟩ := p1
  have fl := fnd_le (rT r * 12 + q) ps
  have pl := hP.2.1.1
  have c1 := isCo_k hc f1 (fun f h1 _ => F1 f h1) ⟨by omega, by omega⟩
  have t1 := isTr_fr hT f1 (fun b hb => by unfold pTr at hb; omega)
  have r1 := isRu_fr hr f1 (fun b hb => by unfold pRu at hb; omega)
  have b1 := isTr_fr hb f1 (fun b hb => by unfold pTr at hb; omega)
  have g1 := aSy_fr hg f1 (by omega)
  have ffr : ∀ σ', fr (fun b => pTr dr b ∨ b = e ∨ b = e + 1) σ1 σ' → fr (fun b => pTr dr b ∨ b = e ∨ b = e + 1) σ σ' := fun σ' h => (f1.mono (fun b hb => Or.inr hb)).tr h
  have ch1 : coC σ1 e B zs := fun i c t hi => by rw [f1.A (by omega)]; exact hch i c t hi
  unfold joinA
  dsimp only
  rw [z_12le fl pl]
  refine ⟨fun c => ?_, fun c => ?_⟩
  · rw [if_pos c]
    exact ⟨⟨c1.1, rfl⟩, cxO_set c1 P1 t1 rfl d3, ffr _ (fr_sF (Or.inr (Or.inl rfl)))⟩
  rw [if_neg c]
  refine ⟨t1.1.1, gD (s_Tr_isFull t1) (by omega) (fun nf => ?_) (fun nf => ?_)⟩
  rotate_left
  · rw [if_pos nf]
    exact ⟨⟨c1.1, rfl⟩, cxO_set c1 P1 t1 rfl d3, ffr _ (fr_sF (Or.inr (Or.inl rfl)))⟩
  rw [if_neg nf]
  replace nf : rs.length < 40 := by
    replace nf : ¬ 40 ≤ rs.length := nf
    omega
  generalize fnd (rT r * 12 + q) ps = k at *
  generalize addP (rT r * 12 + q) ps = ps1 at *
  refine ⟨t1.1.1, (s_Tr_append (x := n) (y := k) t1 nf).use (by omega) (fun σ2 p2 => ?_)⟩
  dsimp only at p2
  have hk : (rs ++ [((n, k, 0, 0, []) : Rl)])[rs.length]? = some (n, k, 0, 0, []) := by simp
  have rb := (p2.1.at hk).2.2.2
  have hπ := (t1.2.1.1 _ nf).1
  dsimp only
  have hin : ∀ b, pRu (dr + 2 + 3 * π rs.length) b → pTr dr b := fun b hb => by unfold pRu at hb; unfold pTr; omega
  have hout : ∀ b, pRu (dr + 2 + 3 * π rs.length) b → ¬ (b = e ∨ b = e + 1) := fun b hb => by unfold pRu at hb; omega
  have upd : ∀ (τ : pm_H) (x : Rl), isRu τ (dr + 2 + 3 * π rs.length) x → fr (pRu (dr + 2 + 3 * π rs.length)) σ2 τ → isTr τ dr (0, rs ++ [x]) π := by
    intro τ x hx hf
    have t4 := isTr_upd p2.1 (k := rs.length) (by simp) hf hx
    dsimp only at t4
    rw [mid_set rfl] at t4
    exact t4
  generalize dr + 2 + 3 * π rs.length = ρd at *
  have c2 := isCo_k c1 p2.2 (fun f _ _ => p2.2.F (by unfold pTr; omega)) ⟨by unfold pTr; omega, by unfold pTr; omega⟩
  have P2 := coP_fr P1 p2.2 (p2.2.F (by unfold pTr; omega)) (by unfold pTr; omega)
  have r2 := isRu_fr r1 p2.2 (fun b hb => by unfold pRu at hb; unfold pTr; omega)
  have b2 := isTr_fr b1 p2.2 (fun b hb => by unfold pTr at hb ⊢; omega)
  have g2 := aSy_fr g1 p2.2 (by unfold pTr; omega)
  have ch2 : coC σ2 e B zs := fun i c t hi => by rw [p2.2.A (by unfold pTr; omega)]; exact ch1 i c t hi
  have v7 := vi (show (rTs r).length < 7 by omega) (by omega)
  have w7 := vc (show (rTs r).length < 2000000 by omega)
  have gA := c2.2.2.2.1 _ (show (rTs r).length < 7 by omega)
  simp only [rb.1.1, rb.1.2.1, rb.1.2.2.2.1, c2.1, c2.2.1.2.2.1, c2.2.2.1.2.2.2.2.1, c2.2.2.1.2.2.2.2.2.1, r2.1.1, r2.2.2.2.1, v7, w7, gA.1, iv_int, isr_ref, rv_ref, true_and, forall_eq]
  refine (s_copyFrom rb.1.2.2.2.1 g2).use (by omega) (fun σ3 e3 => ?_)
  have g3 := isRu_guard rb (mk g).1 (mk g).2
  rw [← show σ3 = uSy σ2 (ρd + 1) (mk g).1 (mk g).2 from e3] at g3
  have u3 : fr (fun b => pTr dr b ∨ b = e ∨ b = e + 1) σ1 σ2 := p2.2.mono (fun b hb => Or.inl hb)
  refine lp (fun i => [.ref e, .ref ρ, .ref tb, pm_U, pm_U, pm_U, pm_U, .ref ρd, .int (Int32.ofInt (i : Nat)), pm_U, pm_U, pm_U]) (fun i τ => isRu τ ρd (n, k, (mk g).1, (mk g).2, jT (zs.take i)) ∧ fr (pRu ρd) σ2 τ ∧ (jT (zs.take i)).length ≤ 6) (rTs r).length (fun i hi' τ hh next => ?_) (fun τ hh => ?_) 0 (Nat.zero_le _) σ3 ⟨g3.1, g3.2, Nat.zero_le _⟩
  · obtain ⟨i1, f, i3⟩ := hh
    have hzi := List.getElem?_eq_getElem (show i < zs.length by omega)
    generalize zs[i] = z at hzi
    obtain ⟨c', t⟩ := z
    have zok := hZ _ (List.mem_of_getElem? hzi)
    have js := jT_s hzi
    have jl := jT_le zs (i + 1)
    rw [js, List.length_append, List.length_map] at jl
    have tl : (rTs t).length ≤ 6 := zok.2.1.2.2.2.1
    have hrc : (rTs r)[i]? = some c' := by rw [← hz, List.getElem?_map, hzi]; rfl
    obtain ⟨j, hj1, hj2⟩ := ch2 i c' t hzi
    have hnot : ∀ b, e ≤ b → ¬ pRu ρd b := fun b hb x => by have := hin b x; unfold pTr at this; omega
    rw [← f.A (hnot (e + 2) (by omega))] at hj1
    have cτ := isCo_k c2 f (fun f' _ _ => f.F (hnot e (Nat.le_refl _))) ⟨hnot _ (by omega), hnot _ (by omega)⟩
    have rτ := isRu_fr r2 f (fun b hb hb' => by have := hin b hb'; unfold pRu at hb; unfold pTr at this; omega)
    have bτ := isTr_fr b2 f (fun b hb hb' => by have := hin b hb'; unfold pTr at hb this; omega)
    have j40 := (List.getElem?_eq_some_iff.mp hj2).1
    have jb := bτ.2.2.2.2.1
    have at_ := bτ.at hj2
    have ru := at_.2.2.2
    have vj := vi (show j < 40 by omega) (by omega)
    have wj := vc (show j < 2000000 by omega)
    have vi6 := vi (show i < 6 by omega) (by omega)
    have wi6 := vc (show i < 2000000 by omega)
    have hρt : tb + 2 + 3 * πb j + 3 ≤ dr := by have := (bτ.2.1.1 j (by omega)).1; omega
    have q6 : ¬ Int32.ofInt ((rTs r).length : Int) ≤ Int32.ofInt (i : Nat) := by rw [oi_le (by omega)]; omega
    have hru : ∀ τ', fr (pRu ρd) σ2 τ' → isRu τ' (tb + 2 + 3 * πb j) t := fun τ' hf => ((isTr_fr b2 hf (fun b hb hb' => by have := hin b hb'; unfold pTr at hb this; omega)).at hj2).2.2.2
    refine w_Co_addCombined_34 ?_
    simp only [rτ.1.1, rτ.2.2.2.1, cτ.1, cτ.2.1.2.1, cτ.2.2.1.2.2.1, cτ.2.2.1.2.2.2.1, bτ.1.1, bτ.1.2.1, bτ.1.2.2.1, bτ.1.2.2.2.1, at_.2.2.1, hj1, vj, wj, vi6, wi6, q6, i1.1.1, i1.2.2.2.1, ru.1.1, ru.2.2.2.1, iv_int, isr_ref, rv_ref, not_false_eq_true, false_implies, true_implies, true_and, forall_eq]
    generalize tb + 2 + 3 * πb j = ρt at *
    have e6 : (rTs ((n, k, (mk g).1, (mk g).2, jT (zs.take i)) : Rl)).length = (jT (zs.take i)).length := rfl
    rw [e6, i6_le (by omega) (by omega)]
    refine ⟨fun c6 => ?_, fun c6 => ?_⟩
    rotate_left
    · rw [if_pos (by omega)]
      have tτ := upd τ _ i1 f
      have Pτ := coP_fr P2 f (f.F (hnot e (Nat.le_refl _))) (hnot _ (by omega))
      exact ⟨rfl, cxO_set cτ Pτ tτ rfl d3, ffr _ (u3.tr ((f.mono (fun b hb => Or.inl (hin b hb))).tr (fr_sF (Or.inr (Or.inl rfl)))))⟩
    refine lp (fun j => [.ref e, .ref ρ, .ref tb, pm_U, pm_U, pm_U, pm_U, .ref ρd, .int (Int32.ofInt (i : Nat)), .ref ρt, .int (Int32.ofInt (j : Nat)), pm_U]) (fun j τ => isRu τ ρd (n, k, (mk g).1, (mk g).2, jT (zs.take i) ++ ((rTs t).take j).map (outT2 c')) ∧ fr (pRu ρd) σ2 τ) (rTs t).length (fun l hl τ1 hh1 next1 => ?_) (fun τ1 hh1 => ?_) 0 (Nat.zero_le _) τ ⟨by rw [List.take_zero, List.map_nil, List.append_nil]; exact i1, f⟩
    · obtain ⟨k1, k2⟩ := hh1
      have hu := List.getElem?_eq_getElem hl
      generalize (rTs t)[l] = u at hu
      have um := List.mem_of_getElem? hu
      have uok := zok.2.2 u um
      have u1 := okT_lt (zok.2.1.2.2.2.2 u um)
      have c5 := okT_lt zok.1
      have ms := map_take_s (f := outT2 c') hu
      have c4 := isCo_k c2 k2 (fun f' _ _ => k2.F (hnot e (Nat.le_refl _))) ⟨hnot _ (by omega), hnot _ (by omega)⟩
      have r4 := isRu_fr r2 k2 (fun b hb hb' => by have := hin b hb'; unfold pRu at hb; unfold pTr at this; omega)
      have ru4 := hru τ1 k2
      have q7 : ¬ Int32.ofInt ((rTs t).length : Int) ≤ Int32.ofInt (l : Nat) := by rw [oi_le (by omega)]; omega
      have vl := vi (show l < 6 by omega) (by omega)
      have wl := vc (show l < 2000000 by omega)
      have atu := ru4.2.2.2.2.2.2.2.2 l u hu
      have atc := r4.2.2.2.2.2.2.2.2 i c' hrc
      have ll : (jT (zs.take i) ++ ((rTs t).take l).map (outT2 c')).length < 6 := by
        rw [List.length_append, List.length_map, List.length_take]; omega
      have lu : ∀ w, w ∈ jT (zs.take i) ++ ((rTs t).take l).map (outT2 c') → w < 100000 := fun w hw => by
        rcases List.mem_append.mp hw with x | x
        · obtain ⟨z, h1, w', h2, h3⟩ := jT_mem x
          rw [← h3]; exact okT_lt ((hZ z (List.mem_of_mem_take h1)).2.2 w' h2).1
        · obtain ⟨w', h2, h3⟩ := List.mem_map.mp x
          rw [← h3]; exact okT_lt (zok.2.2 w' (List.mem_of_mem_take h2)).1
      have app : ∀ σ', (isRu σ' ρd (rApp (n, k, (mk g).1, (mk g).2, jT (zs.take i) ++ ((rTs t).take l).map (outT2 c')) (outT2 c' u)) ∧ fr (pRu ρd) τ1 σ') → isRu σ' ρd (n, k, (mk g).1, (mk g).2, jT (zs.take i) ++ ((rTs t).take (l + 1)).map (outT2 c')) ∧ fr (pRu ρd) σ2 σ' := fun σ' h => by
        refine ⟨?_, k2.tr h.2⟩
        have h1 := h.1
        unfold rApp at h1
        replace h1 : isRu σ' ρd (n, k, (mk g).1, (mk g).2, (jT (zs.take i) ++ ((rTs t).take l).map (outT2 c')) ++ [outT2 c' u]) := h1
        rw [List.append_assoc, ← ms] at h1
        exact h1
      refine w_Co_addCombined_59 ?_
      simp only [k1.1.1, r4.1.1, r4.1.2.2.1, r4.1.2.2.2.2.1, r4.1.2.2.2.2.2, ru4.1.1, ru4.1.2.2.1, ru4.1.2.2.2.2.1, ru4.1.2.2.2.2.2, ru4.2.2.2.1, q7, vl, wl, vi6, wi6, atu, atc, iv_int, isr_ref, rv_ref, not_false_eq_true, false_implies, true_implies, true_and, forall_eq, oi_s]
      refine gD (s_offT (by omega)) (by omega) (fun lt => ?_) (fun ge => ?_)
      · have eo : outT2 c' u = u := if_pos (by omega)
        exact ⟨k1.1.1, (s_Ru_append k1 ll u1 lu).use (by omega) (fun σ' p => next1 σ' (app σ' (by rw [eo]; exact p)))⟩
      · have eo : outT2 c' u = c' + u - 1000 := if_neg (by omega)
        have h1000 := uok.2 (by omega)
        have ex : Int32.ofInt (c' : Int) + Int32.ofInt (u : Int) - 1000 = Int32.ofInt ((c' + u - 1000 : Nat) : Int) := by
          rw [oi_add, oi_s1000]; congr 1; omega
        simp only [k1.1.1, r4.1.1, r4.1.2.2.1, r4.1.2.2.2.2.1, r4.1.2.2.2.2.2, vi6, wi6, atc, iv_int, isr_ref, rv_ref, true_and, forall_eq, ex]
        refine (s_Ru_append k1 ll (by have := okT_lt uok.1; rw [eo] at this; exact this) lu).use (by omega) (fun σ' p => next1 σ' (app σ' (by rw [eo]; exact p)))
    · obtain ⟨k1, k2⟩ := hh1
      rw [List.take_length, ← js] at k1
      have ru4 := hru τ1 k2
      refine w_Co_addCombined_59 ⟨ru4.1.1, fun z ez => ⟨fun _ => ?_, fun q => ?_⟩⟩
      · rw [oi_s]
        exact next τ1 ⟨k1, k2, by rw [js, List.length_append, List.length_map]; exact c6⟩
      · rw [ez, ru4.2.2.2.1] at q; exact absurd (Int32.le_refl _) q
  · obtain ⟨i1, f, i3⟩ := hh
    have hnot : ∀ b, e ≤ b → ¬ pRu ρd b := fun b hb x => by have := hin b x; unfold pTr at this; omega
    have cτ := isCo_k c2 f (fun f' _ _ => f.F (hnot e (Nat.le_refl _))) ⟨hnot _ (by omega), hnot _ (by omega)⟩
    have rτ := isRu_fr r2 f (fun b hb hb' => by have := hin b hb'; unfold pRu at hb; unfold pTr at this; omega)
    rw [← zl, List.take_length] at i1 i3
    rw [if_neg (by omega)]
    refine w_Co_addCombined_34 ⟨rτ.1.1, fun z ez => ⟨fun _ => ⟨rfl, ?_, ?_⟩, fun q => ?_⟩⟩
    · refine ⟨cτ, ?_, coP_fr P2 f (f.F (hnot e (Nat.le_refl _))) (hnot _ (by omega)), upd τ _ i1 f, fun r' hr' => ?_⟩
      · rw [f.F (hnot e (Nat.le_refl _)), p2.2.F (by unfold pTr; omega), F1 6 (by decide)]; exact h6
      · rcases List.mem_append.mp hr' with x | x
        · exact hR r' x
        · rw [List.mem_singleton.mp x]
          exact ⟨hn, by show k < 12; omega, mk_g g, i3, fun u hu => okZ_u hZ hu⟩
    · exact ffr _ (u3.tr (f.mono (fun b hb => Or.inl (hin b hb))))
    · rw [ez, rτ.2.2.2.1] at q; exact absurd (Int32.le_refl _) q
