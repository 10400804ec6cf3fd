/-! ===== compose: the search of the class ===== -/
theorem fold_none {bs : List Rl} {r : Rl} {n c q : Nat} {cs : List Nat} {zs : List (Nat × Rl)} {g : Nat → Bool} : ∀ l : List Rl, l.foldl (extF bs r n c cs zs q g) none = none := by
  intro l
  induction l with
  | nil => rfl
  | cons a l ih => exact ih
theorem fold_stop {bs : List Rl} {r : Rl} {n c q i : Nat} {cs : List Nat} {zs : List (Nat × Rl)} {g : Nat → Bool} {o : Option CS} {l : List Rl} (h : (l.take i).foldl (extF bs r n c cs zs q g) o = none) : l.foldl (extF bs r n c cs zs q g) o = none := by
  rw [← List.take_append_drop i l, List.foldl_append, h, fold_none]
def exP (e dr D b : Nat) : Prop := pTr dr b ∨ b = e ∨ b = e + 1 ∨ b = e + 2 ∨ (e + 6 + D < b ∧ b < e + 13)
/-- what stays for the search that goes on -/
def coK (e D : Nat) (σ σ' : pm_H) : Prop := ∀ i, i < D → pm_A σ' (e + 2) i = pm_A σ (e + 2) i
theorem coC_k {σ σ' : pm_H} {e : Nat} {B : Tr} {zs : List (Nat × Rl)} (h : coC σ e B zs) (k : coK e zs.length σ σ') : coC σ' e B zs := fun i c t hi => by
  rw [k i (List.getElem?_eq_some_iff.mp hi).1]; exact h i c t hi
theorem okZ_app {zs : List (Nat × Rl)} {c s : Nat} {t : Rl} (h : okZ zs) (hc : okT c) (ht : okR t) (hs : s < 100) (hk : tk c t s = true) : okZ (zs ++ [(c, t)]) := fun z hz => by
  rcases List.mem_append.mp hz with x | x
  · exact h z x
  · rw [List.mem_singleton.mp x]
    refine ⟨hc, ht, fun u hu => ?_⟩
    unfold tk at hk
    rw [Bool.and_eq_true, decide_eq_true_eq] at hk
    obtain ⟨k, hk2⟩ := List.mem_iff_getElem?.mp hu
    have ev := en_val hk.2 hk2
    have ec : (((val c s).toNat : Nat) : Int) = val c s := by have := hk.1; omega
    rw [ec] at ev
    exact outT2_ok hc (ht.2.2.2.2 u hu) hs hk.1 ev
theorem fst_app {zs : List (Nat × Rl)} {c : Nat} {t : Rl} {cs l : List Nat} (h : zs.map Prod.fst ++ c :: cs = l) : (zs ++ [(c, t)]).map Prod.fst ++ cs = l := by
  rw [List.map_append, List.append_assoc]; exact h
theorem fst_len {zs : List (Nat × Rl)} {cs l : List Nat} (h : zs.map Prod.fst ++ cs = l) : zs.length + cs.length = l.length := by
  rw [← h, List.length_append, List.length_map]
theorem fst_at {zs : List (Nat × Rl)} {c : Nat} {cs l : List Nat} (h : zs.map Prod.fst ++ c :: cs = l) : l[zs.length]? = some c ∧ l.drop (zs.length + 1) = cs := by
  have hl : (zs.map Prod.fst).length = zs.length := List.length_map ..
  constructor
  · rw [← h, List.getElem?_append_right (by omega), hl, Nat.sub_self]; rfl
  · rw [← h, ← hl, List.drop_append]; simp
theorem cxS_ok {σ : pm_H} {e dr : Nat} {π : Nat → Nat} {o : Option CS} (h : cxS σ e dr π o) : isCo σ e := by
  cases o with
  | none => exact h.1
  | some st => exact h.1
theorem cxI_fr {P : Nat → Prop} {σ σ' : pm_H} {e dr : Nat} {π : Nat → Nat} {st : CS} (h : cxI σ e dr π st) (f : fr P σ σ') (h1 : ¬ P e ∧ ¬ P (e + 1) ∧ ¬ P (e + 3) ∧ ¬ P (e + 4)) (h2 : ∀ b, pTr dr b → ¬ P b) : cxI σ' e dr π st :=
  ⟨isCo_fr h.1 f ⟨h1.1, h1.2.2.1, h1.2.2.2⟩, by rw [f.F h1.1]; exact h.2.1, coP_fr h.2.2.1 f (f.F h1.1) h1.2.1, isTr_fr h.2.2.2.1 f h2, h.2.2.2.2⟩
def exPost (σ : pm_H) (e dr D : Nat) (π : Nat → Nat) (o : Option CS) (σ' : pm_H) : Prop := cxS σ' e dr π o ∧ fr (exP e dr D) σ σ' ∧ coK e D σ σ'
theorem s_Co_extend {e dr ρ tb n : Nat} {π πb : Nat → Nat} {r : Rl} {B : Tr} (ok : okR r) (hB : okTr B) (hn : n < 12) (d1 : ρ + 3 ≤ dr) (d2 : tb + 122 ≤ dr) (d3 : dr + 122 ≤ e) : ∀ (cs : List Nat) (zs : List (Nat × Rl)) (q : Nat) (g : Nat → Bool) (st : CS) (σ : pm_H), cxI σ e dr π st → isRu σ ρ r → isTr σ tb B πb → (∀ k, k ≤ (rTs r).length → opI σ e B.2 r k) → coC σ e B zs → aSy σ (e + 6 + zs.length) (mk g).1 (mk g).2 → zs.map Prod.fst ++ cs = rTs r → okZ zs → q < 12 → cV (4 + cs.length) 5 [.ref e, .ref ρ, .ref tb, .ref dr, .int (Int32.ofInt (n : Int)), .int (Int32.ofInt (zs.length : Int)), .int (Int32.ofInt (q : Int))] σ (exPost σ e dr zs.length π (ext B.2 r n cs zs q g st)) := by
  have l6 := ok.2.2.2.1
  intro cs
  induction cs with
  | nil =>
    intro zs q g st σ hi hr hb hop hch hg hz hZ hq
    have zl := fst_len hz
    rw [List.append_nil] at hz
    replace zl : zs.length = (rTs r).length := zl
    refine w_Co_extend_0 ⟨hr.1.1, fun z ez => ⟨fun _ => ⟨hi.1.1, ?_⟩, fun qq => ?_⟩⟩
    · rw [zl] at hg
      refine (s_Co_addCombined hi hr ok hb hB hz hZ hch hg hn hq d1 d2 d3).use (by omega) (fun σ' p => ⟨rfl, p.1, p.2.mono (fun b hb => ?_), fun i _ => ?_⟩)
      · exact hb.elim Or.inl (fun h => Or.inr (h.elim Or.inl (fun h => Or.inr (Or.inl h))))
      · exact p.2.A (by unfold pTr; omega)
    · rw [ez, hr.2.2.2.1, zl] at qq
      exact absurd (Int32.le_refl _) qq
  | cons c cs ih =>
    intro zs q g st σ hi hr hb hop hch hg hz hZ hq
    have zl := fst_len hz
    rw [List.length_cons] at zl
    obtain ⟨hc1, hc2⟩ := fst_at hz
    have okc := ok.2.2.2.2 c (List.mem_of_getElem? hc1)
    generalize hD : zs.length = D at *
    have q6 : ¬ Int32.ofInt ((rTs r).length : Int) ≤ Int32.ofInt (D : Nat) := by rw [oi_le (by omega)]; omega
    have d6 : Int32.ofInt (D : Int) < 6 := (z_lt6 (nrg (by omega))).mpr (by omega)
    rw [show 4 + (c :: cs).length = (4 + cs.length) + 1 from rfl]
    refine w_Co_extend_0 ⟨hr.1.1, fun z ez => ⟨fun qq => ?_, fun _ => ⟨fun _ => ?_, fun qq => absurd d6 qq⟩⟩⟩
    · rw [ez, hr.2.2.2.1] at qq; exact absurd qq q6
    have vD := vi (show D < 6 by omega) (by omega)
    have wD := vc (show D < 2000000 by omega)
    have vD1 := vi (show D + 1 < 7 by omega) (by omega)
    have wD1 := vc (show D + 1 < 2000000 by omega)
    have vD7 := vi (show D < 7 by omega) (by omega)
    rw [ext_c]
    refine lp (fun i => [.ref e, .ref ρ, .ref tb, .ref dr, .int (Int32.ofInt (n : Int)), .int (Int32.ofInt (D : Int)), .int (Int32.ofInt (q : Int)), .int (Int32.ofInt (i : Nat)), pm_U]) (fun i τ => exPost σ e dr D π ((B.2.take i).foldl (extF B.2 r n c cs zs q g) (some st)) τ) B.2.length (fun i hi' τ hh next => ?_) (fun τ hh => ?_) 0 (Nat.zero_le _) σ ⟨hi, fr.rf, fun i _ => rfl⟩
    · obtain ⟨hs, f, hk⟩ := hh
      have bτ := isTr_fr hb f (fun b hb => by unfold pTr at hb; unfold exP pTr; omega)
      have rτ := isRu_fr hr f (fun b hb => by unfold pRu at hb; unfold exP pTr; omega)
      have bl := bτ.2.2.2.2.1
      have q7 : ¬ Int32.ofInt (B.2.length : Int) ≤ Int32.ofInt (i : Nat) := by rw [oi_le (by omega)]; omega
      have ht := List.getElem?_eq_getElem hi'
      generalize B.2[i] = t at ht
      have okt := hB.at ht
      have es := fold_s (extF B.2 r n c cs zs q g) (some st) ht
      generalize ho : (B.2.take i).foldl (extF B.2 r n c cs zs q g) (some st) = o at hs es
      cases o with
      | none =>
        have hst := fold_stop ho
        refine w_Co_extend_17 ⟨bτ.1.1, fun z ez => ⟨fun qq => ?_, fun _ => ⟨hs.1.1, fun z2 ez2 => ⟨fun _ => ⟨rfl, ?_⟩, fun qq => ?_⟩⟩⟩⟩
        · rw [ez, bτ.2.2.1] at qq; exact absurd qq q7
        · rw [hst]; exact ⟨hs, f, hk⟩
        · rw [ez2] at qq; exact absurd hs.2.1 qq
      | some s1 =>
        have at_ := bτ.at ht
        have ru := at_.2.2.2
        have hπ := (bτ.2.1.1 i (by omega)).1
        have atc := rτ.2.2.2.2.2.2.2.2 D c hc1
        have cτ := hs.1
        have i61 : ¬ (1 : Int32) = 0 := by decide
        have gD1 := cτ.2.2.2.1 (D + 1) (by omega)
        have gD0 := cτ.2.2.2.1 D (by omega)
        replace es : (B.2.take (i + 1)).foldl (extF B.2 r n c cs zs q g) (some st) = if rF t = q ∧ hits (fun s => g s && tk c t s && opn B.2 (en r) cs (rT t) s) = true then ext B.2 r n cs (zs ++ [(c, t)]) (rT t) (fun s => g s && tk c t s) s1 else some s1 := es
        have eD : Int32.ofInt (D : Int) + 1 = Int32.ofInt ((D + 1 : Nat) : Int) := oi_s D
        refine w_Co_extend_17 ?_
        simp only [bτ.1.1, bτ.1.2.1, bτ.1.2.2.1, bτ.1.2.2.2.1, bτ.2.2.1, at_.1, at_.2.1, at_.2.2.1, q7, cτ.1, hs.2.1, i61, ru.1.1, ru.2.1, cτ.2.1.2.2.1, cτ.2.2.1.2.2.2.2.1, cτ.2.2.1.2.2.2.2.2.1, rτ.1.1, rτ.1.2.2.1, rτ.1.2.2.2.2.1, rτ.1.2.2.2.2.2, vD, wD, atc, eD, vD1, wD1, gD1.1, iv_int, isr_ref, rv_ref, not_false_eq_true, false_implies, true_implies, true_and, forall_eq, oi_s]
        have ft2 := okt.1
        rw [oi_eq (by omega)]
        refine ⟨fun eq => ?_, fun ne => next τ ⟨by rw [es, if_neg (fun h => ne (by rw [h.1]))]; exact hs, f, hk⟩⟩
        have eq' : rF t = q := by omega
        refine (s_Co_findTakers ru okt okc gD1.2).use (by omega) (fun τ2 e2 => ?_)
        have f2 : fr (fun b => b = e + 6 + (D + 1)) τ τ2 := by rw [e2]; exact fr_uSy rfl
        have c2 := isCo_fr cτ f2 ⟨by omega, by omega, by omega⟩
        have g2D : aSy τ2 (e + 6 + D) (mk g).1 (mk g).2 := aSy_fr (aSy_fr hg f (by unfold exP pTr; omega)) f2 (by omega)
        have t2 : aSy τ2 (e + 6 + (D + 1)) (mk (tk c t)).1 (mk (tk c t)).2 := by rw [e2]; exact aSy_u gD1.2
        have h2D1 := c2.2.2.2.1 (D + 1) (by omega)
        have h2D := c2.2.2.2.1 D (by omega)
        simp only [c2.1, c2.2.1.2.2.1, c2.2.2.1.2.2.2.2.1, c2.2.2.1.2.2.2.2.2.1, vD1, wD1, vD7, wD, h2D1.1, h2D.1, t2.1, iv_int, isr_ref, rv_ref, true_and, forall_eq]
        refine (s_keep2 t2 g2D).use (by omega) (fun τ3 e3 => ?_)
        have f3 : fr (fun b => b = e + 6 + (D + 1)) τ2 τ3 := by rw [e3]; exact fr_uSy rfl
        have c3 := isCo_fr c2 f3 ⟨by omega, by omega, by omega⟩
        have t3 := aSy_u (lo := (mk (tk c t)).1 &&& (mk g).1) (hi := (mk (tk c t)).2 &&& (mk g).2) t2.1
        have ec := mk_c (p := fun s => tk c t s && g s) (p' := fun s => g s && tk c t s) (fun s _ => Bool.and_comm _ _)
        rw [← e3, mk_and.1, mk_and.2, ec.1, ec.2] at t3
        have f23 := f2.tr f3
        have ru3 : isRu τ3 (tb + 2 + 3 * πb i) t := isRu_fr ru f23 (fun b hb => by unfold pRu at hb; omega)
        have o3 : opI τ3 e B.2 r (D + 1) := opI_fr (opI_fr (hop (D + 1) (by omega)) f (fun b h1 h2 => by unfold exP pTr; omega)) f23 (fun b h1 h2 => by omega)
        have a3 := co_at c3 (show D + 1 ≤ 6 by omega) okt.2.1
        have g3 := o3 (rT t) okt.2.1
        rw [hc2] at g3
        have h3D1 := c3.2.2.2.1 (D + 1) (by omega)
        simp only [c3.1, c3.2.1.2.2.1, c3.2.1.2.2.2.1, c3.2.2.1.2.2.2.2.1, c3.2.2.1.2.2.2.2.2.1, c3.2.2.1.2.2.2.2.2.2.1, c3.2.2.1.2.2.2.2.2.2.2.1, ru3.1.1, ru3.2.2.1, oi_12, vD1, wD1, h3D1.1, a3.1, a3.2.1, a3.2.2.1, t3.1, iv_int, isr_ref, rv_ref, true_and, forall_eq]
        have s3 := cxI_fr hs f23 ⟨by omega, by omega, by omega, by omega⟩ (fun b hb => by unfold pTr at hb; omega)
        have fs3 : fr (exP e dr D) σ τ3 := f.tr (f23.mono (fun b hb => by unfold exP; omega))
        have k3 : coK e D σ τ3 := fun i hi => by rw [f23.A (by omega)]; exact hk i hi
        have mh := meets_hits (p := fun s => g s && tk c t s) (p' := opn B.2 (en r) cs (rT t))
        refine gD (s_meets t3 g3) (by omega) (fun nh => next τ3 ⟨?_, fs3, k3⟩) (fun yh => ?_)
        · rw [es, if_neg (fun h => nh (mh.mpr h.2))]; exact s3
        · have hit := mh.mp yh
          obtain ⟨s, hs1, hs2⟩ := hits_iff.mp hit
          rw [Bool.and_eq_true, Bool.and_eq_true] at hs2
          have vch := vi (show D < 6 by omega) (by omega)
          simp only [c3.1, c3.2.1.2.1, c3.2.2.1.2.2.1, c3.2.2.1.2.2.2.1, t_sA, F_sA, ru3.1.1, ru3.2.2.1, vD, wD, iv_int, isr_ref, rv_ref, true_and, forall_eq]
          have f4 : fr (fun b => b = e + 2) τ3 (pm_sA τ3 (e + 2) D (.int (Int32.ofInt (i : Int)))) := fr_sA (P := fun b => b = e + 2) rfl
          have k4 : coK e D τ3 (pm_sA τ3 (e + 2) D (.int (Int32.ofInt (i : Int)))) := fun i' hi' => by rw [A_sA, if_neg (by omega)]
          have el : (zs ++ [(c, t)]).length = D + 1 := by rw [List.length_append, hD]; rfl
          have ch4 : coC (pm_sA τ3 (e + 2) D (.int (Int32.ofInt (i : Int)))) e B (zs ++ [(c, t)]) := fun i' c' t' h' => by
            by_cases ci : i' = D
            · subst ci
              rw [← hD, List.getElem?_append_right (Nat.le_refl _), Nat.sub_self] at h'
              cases h'
              exact ⟨i, by rw [A_sA, if_pos ⟨rfl, rfl⟩]; rfl, ht⟩
            · have li := (List.getElem?_eq_some_iff.mp h').1
              rw [el] at li
              rw [List.getElem?_append_left (by omega)] at h'
              obtain ⟨j, j1, j2⟩ := hch i' c' t' h'
              refine ⟨j, ?_, j2⟩
              rw [A_sA, if_neg (fun x => ci x.2), k3 i' (by omega)]; exact j1
          generalize pm_sA τ3 (e + 2) D (.int (Int32.ofInt (i : Int))) = τ4 at *
          have fs4 : fr (exP e dr D) σ τ4 := fs3.tr (f4.mono (fun b hb => by unfold exP; omega))
          have hrec := ih (zs ++ [(c, t)]) (rT t) (fun s => g s && tk c t s) s1 τ4 (cxI_fr s3 f4 ⟨by omega, by omega, by omega, by omega⟩ (fun b hb => by unfold pTr at hb; omega)) (isRu_fr hr fs4 (fun b hb => by unfold pRu at hb; unfold exP pTr; omega)) (isTr_fr hb fs4 (fun b hb => by unfold pTr at hb; unfold exP pTr; omega)) (fun k hk => opI_fr (hop k hk) fs4 (fun b h1 h2 => by unfold exP pTr; omega)) ch4 (by rw [el]; exact aSy_fr t3 f4 (by omega)) (fst_app hz) (okZ_app hZ okc okt hs1 hs2.1.2) okt.2.1
          rw [el] at hrec
          refine hrec.use (Nat.le_refl _) (fun τ5 p => next τ5 ⟨?_, fs4.tr (p.2.1.mono (fun b hb => by unfold exP pTr at hb ⊢; omega)), fun i' hi' => ?_⟩)
          · rw [es, if_pos ⟨eq', hit⟩]; exact p.1
          · rw [p.2.2 i' (by omega), k4 i' hi']; exact k3 i' hi'
    · obtain ⟨hs, f, hk⟩ := hh
      have bτ := isTr_fr hb f (fun b hb => by unfold pTr at hb; unfold exP pTr; omega)
      rw [List.take_length] at hs
      refine w_Co_extend_17 ⟨bτ.1.1, fun z ez => ⟨fun _ => ⟨rfl, hs, f, hk⟩, fun qq => ?_⟩⟩
      rw [ez, bτ.2.2.1] at qq; exact absurd (Int32.le_refl _) qq
theorem rul_none {as bs : List Rl} {n p : Nat} : ∀ l : List Rl, l.foldl (rulF as bs n p) none = none := by
  intro l
  induction l with
  | nil => rfl
  | cons a l ih => exact ih
theorem rul_stop {as bs : List Rl} {n p i : Nat} {o : Option CS} {l : List Rl} (h : (l.take i).foldl (rulF as bs n p) o = none) : l.foldl (rulF as bs n p) o = none := by
  rw [← List.take_append_drop i l, List.foldl_append, h, rul_none]
/-- more pairs, the same first ones -/
def pre (ps ps' : List Nat) : Prop := ps.length ≤ ps'.length ∧ ∀ (i p : Nat), ps[i]? = some p → ps'[i]? = some p
theorem pre_rf {ps : List Nat} : pre ps ps := ⟨Nat.le_refl _, fun _ _ h => h⟩
theorem pre_tr {a b c : List Nat} (h : pre a b) (g : pre b c) : pre a c := ⟨Nat.le_trans h.1 g.1, fun i p q => g.2 i p (h.2 i p q)⟩
theorem pre_addP {p : Nat} {ps : List Nat} : pre ps (addP p ps) := by
  unfold addP
  split
  · exact pre_rf
  · split
    · refine ⟨by rw [List.length_append]; omega, fun i q h => ?_⟩
      rw [List.getElem?_append_left (List.getElem?_eq_some_iff.mp h).1]; exact h
    · exact pre_rf
def preO (ps : List Nat) (o : Option CS) : Prop := ∀ st, o = some st → pre ps st.1
theorem pre_join {r : Rl} {n q : Nat} {g : Nat → Bool} {zs : List (Nat × Rl)} {st : CS} : preO st.1 (joinA r n q g zs st) := by
  intro st' h
  unfold joinA at h
  split at h
  · cases h
  · split at h
    · cases h
    · split at h
      · cases h
      · cases h; exact pre_addP
theorem pre_foldl {f : Option CS → Rl → Option CS} (h0 : ∀ t, f none t = none) (h1 : ∀ st t, preO st.1 (f (some st) t)) : ∀ (l : List Rl) (st : CS), preO st.1 (l.foldl f (some st)) := by
  intro l
  induction l with
  | nil => intro st st' h; cases h; exact pre_rf
  | cons a l ih =>
    intro st st' h
    replace h : l.foldl f (f (some st) a) = some st' := h
    cases e : f (some st) a with
    | none =>
      rw [e] at h
      have : ∀ l : List Rl, l.foldl f none = none := by
        intro l
        induction l with
        | nil => rfl
        | cons b l ih => show l.foldl f (f none b) = none; rw [h0]; exact ih
      rw [this] at h; cases h
    | some s1 =>
      rw [e] at h
      exact pre_tr (h1 st a s1 e) (ih s1 st' h)
theorem pre_ext {bs : List Rl} {r : Rl} {n : Nat} : ∀ (cs : List Nat) (zs : List (Nat × Rl)) (q : Nat) (g : Nat → Bool) (st : CS), preO st.1 (ext bs r n cs zs q g st) := by
  intro cs
  induction cs with
  | nil => intro zs q g st; exact pre_join
  | cons c cs ih =>
    intro zs q g st
    rw [ext_c]
    refine pre_foldl (fun t => rfl) (fun s1 t => ?_) bs st
    intro s2 h
    replace h : (if rF t = q ∧ hits (fun s => g s && tk c t s && opn bs (en r) cs (rT t) s) = true then ext bs r n cs (zs ++ [(c, t)]) (rT t) (fun s => g s && tk c t s) s1 else some s1) = some s2 := h
    split at h
    · exact ih _ _ _ _ s2 h
    · cases h; exact pre_rf
theorem pre_rulF {as bs : List Rl} {n p : Nat} {r : Rl} {st : CS} : preO st.1 (rulF as bs n p (some st) r) := by
  intro s2 h
  replace h : (if rF r = p / 12 ∧ hits (fun s => en r s && opn bs (en r) (rTs r) (p % 12) s) = true then ext bs r n (rTs r) [] (p % 12) (en r) st else some st) = some s2 := h
  split at h
  · exact pre_ext _ _ _ _ _ s2 h
  · cases h; exact pre_rf
theorem pre_rul {as bs : List Rl} {n p : Nat} {st : CS} : preO st.1 (rulA as bs n p st) := pre_foldl (fun _ => rfl) (fun _ _ => pre_rulF) as st
theorem pre_take {as bs : List Rl} {n p i : Nat} {st : CS} : preO st.1 ((as.take i).foldl (rulF as bs n p) (some st)) := pre_foldl (fun _ => rfl) (fun _ _ => pre_rulF) _ st
