/-! ===== compose: what may follow ===== -/
theorem bt_m1 : ∀ j : Nat, j < 64 → bt (-1) j = true := by decide +kernel
theorem meets_hits {p p' : Nat → Bool} : (¬ ((mk p).1 &&& (mk p').1 = 0 ∧ (mk p).2 &&& (mk p').2 = 0)) ↔ hits (fun s => p s && p' s) = true := by
  rw [sy_z (okG_and (mk_g p)), hits_iff]
  constructor
  · intro h
    apply Classical.byContradiction
    intro n
    refine h (fun s hs => ?_)
    rw [sy_and, mk_s p hs, mk_s p' hs]
    cases e : (p s && p' s) with
    | false => rfl
    | true => exact absurd ⟨s, hs, e⟩ n
  · intro ⟨s, hs, e⟩ h
    have := h s hs
    rw [sy_and, mk_s p hs, mk_s p' hs, e] at this
    cases this
theorem en_mk {r : Rl} (ok : okR r) : enLo r = (mk (en r)).1 ∧ enHi r = (mk (en r)).2 := mk_eq (okG_en ok.2.2.1) (fun s hs => sy_en ok.ts hs)
theorem s_Co_findTakers {σ : pm_H} {ρ g c : Nat} {t : Rl} (h : isRu σ ρ t) (ok : okR t) (hc : okT c) (hg : pm_t σ g = 9) : cV 3 4 [.int (Int32.ofInt (c : Int)), .ref ρ, .ref g] σ (fun σ' => σ' = uSy σ g (mk (tk c t)).1 (mk (tk c t)).2) := by
  have c5 := okT_lt hc
  refine w_Co_findTakers_0 ?_
  refine gD (s_offT (by omega)) (by omega) (fun lt => ?_) (fun ge => ?_)
  · have c100 : c < 100 := by omega
    have ev : ∀ s, tk c t s = en t c := fun s => by
      unfold tk
      have : val c s = (c : Int) := if_pos c100
      rw [this, decide_eq_true (by omega), Bool.true_and]; rfl
    refine ⟨h.1.1, gI (s_Ru_isEnabled h ok.ts c100) (by omega) (fun e => ?_) (fun e => ?_)⟩
    · refine ⟨hg, (s_clear hg).use (by omega) (fun σ' e' => ⟨rfl, ?_⟩)⟩
      have := mk_eq (p := tk c t) okG_0 (lo := 0) (fun s hs => by rw [ev, e]; exact (sy_z okG_0).mp ⟨rfl, rfl⟩ s hs)
      rw [e', ← this.1, ← this.2]
    · refine ⟨hg, (s_fill hg).use (by omega) (fun σ' e' => ⟨rfl, ?_⟩)⟩
      have hG : okG 68719476735 := fun j hj => by
        by_cases c : j < 64
        · rw [bt_36 j c]; exact decide_eq_false (by omega)
        · exact bt_ge _ (by omega)
      have := mk_eq (p := tk c t) hG (lo := -1) (fun s hs => by
        rw [ev, e]
        unfold sy
        by_cases c : s < 64
        · rw [if_pos c]; exact bt_m1 s c
        · rw [if_neg c, bt_36 _ (by omega)]; exact decide_eq_true (by omega))
      rw [e', ← this.1, ← this.2]
  · have c100 : ¬ c < 100 := by omega
    unfold okT at hc
    refine ⟨h.1.1, (s_Ru_enabledInto h hg).use (by omega) (fun σ1 e1 => ?_)⟩
    have g1 : aSy σ1 g (enLo t) (enHi t) := by rw [e1]; exact aSy_u hg
    have ex : (1000 : Int32) - Int32.ofInt (c : Int) = Int32.ofInt (1000 - (c : Int)) := oi_lsub _ 1000
    rw [ex]
    refine ⟨g1.1, (s_shift g1 (okG_en ok.2.2.1) (by rw [oi_to (by omega)]; omega)).use (by omega) (fun σ2 e2 => ⟨rfl, ?_⟩)⟩
    obtain ⟨l2, h2, e2, sh⟩ := e2
    rw [oi_to (by omega)] at sh
    have := mk_eq (p := tk c t) sh.1 (fun s hs => by
      rw [sh.2 s hs]
      have ev : (s : Int) - (1000 - (c : Int)) = val c s := by unfold val; rw [if_neg c100]; omega
      rw [ev]
      unfold tk
      by_cases hin : 0 ≤ val c s ∧ val c s < 100
      · rw [decide_eq_true hin, Bool.true_and, Bool.true_and]
        exact sy_en ok.ts (by omega)
      · rw [decide_eq_false hin, Bool.false_and, Bool.false_and])
    rw [e2, e1, uSy_uSy, ← this.1, ← this.2]
/-- the sets of what may follow -/
def opI (σ : pm_H) (e : Nat) (bs : List Rl) (r : Rl) (k : Nat) : Prop := ∀ q, q < 12 → aSy σ (e + 13 + (12 * k + q)) (mk (opn bs (en r) ((rTs r).drop k) q)).1 (mk (opn bs (en r) ((rTs r).drop k) q)).2
theorem opI_fr {P : Nat → Prop} {σ σ' : pm_H} {e k : Nat} {bs : List Rl} {r : Rl} (h : opI σ e bs r k) (f : fr P σ σ') (hp : ∀ b, e + 13 + 12 * k ≤ b → b < e + 13 + 12 * k + 12 → ¬ P b) : opI σ' e bs r k :=
  fun q hq => aSy_fr (h q hq) f (hp _ (by omega) (by omega))
theorem co_at {σ : pm_H} {e k q : Nat} (h : isCo σ e) (hk : k ≤ 6) (hq : q < 12) : vp_in (Int32.ofInt ((12 * k + q : Nat) : Int)) 84 ∧ (Int32.ofInt ((12 * k + q : Nat) : Int)).toNatClampNeg = 12 * k + q ∧ pm_A σ (e + 4) (12 * k + q) = .ref (e + 13 + (12 * k + q)) ∧ pm_t σ (e + 13 + (12 * k + q)) = 9 :=
  ⟨vi (by omega) (by omega), vc (by omega), (h.2.2.2.2 _ (by omega)).1, (h.2.2.2.2 _ (by omega)).2⟩
theorem oi_12 (k q : Nat) : Int32.ofInt (k : Int) * 12 + Int32.ofInt (q : Int) = Int32.ofInt ((12 * k + q : Nat) : Int) := by
  rw [show Int32.ofInt (k : Int) * 12 = Int32.ofInt ((k : Int) * 12) from oi_mull _ 12, oi_add]; congr 1; omega
theorem drop_c {l : List Nat} {k c : Nat} (h : l[k]? = some c) : l.drop k = c :: l.drop (k + 1) := by
  have hk := (List.getElem?_eq_some_iff.mp h)
  obtain ⟨h1, h2⟩ := hk
  rw [← h2]
  exact List.drop_eq_getElem_cons h1
def oJ (bs : List Rl) (e : Nat → Bool) (c : Nat) (cs : List Nat) (j q s : Nat) : Bool := (bs.take j).any (fun t => decide (rF t = q) && (tk c t s && opn bs e cs (rT t) s))
theorem oJ_s {bs : List Rl} {e : Nat → Bool} {c j q s : Nat} {cs : List Nat} {t : Rl} (h : bs[j]? = some t) : oJ bs e c cs (j + 1) q s = (oJ bs e c cs j q s || (decide (rF t = q) && (tk c t s && opn bs e cs (rT t) s))) := by
  unfold oJ
  rw [List.take_add_one, h, List.any_append]
  simp
theorem oJ_all {bs : List Rl} {e : Nat → Bool} {c q s : Nat} {cs : List Nat} : oJ bs e c cs bs.length q s = opn bs e (c :: cs) q s := by
  unfold oJ
  rw [List.take_length]; rfl
theorem mk_c {p p' : Nat → Bool} (h : ∀ s, s < 100 → p s = p' s) : (mk p).1 = (mk p').1 ∧ (mk p).2 = (mk p').2 :=
  mk_eq (mk_g p) (fun s hs => by rw [mk_s p hs, h s hs])
theorem mk_0 {p : Nat → Bool} (h : ∀ s, s < 100 → p s = false) : (0 : Int64) = (mk p).1 ∧ (0 : Int64) = (mk p).2 :=
  mk_eq okG_0 (fun s hs => by rw [h s hs]; exact (sy_z okG_0).mp ⟨rfl, rfl⟩ s hs)
theorem mk_and {p p' : Nat → Bool} : (mk p).1 &&& (mk p').1 = (mk (fun s => p s && p' s)).1 ∧ (mk p).2 &&& (mk p').2 = (mk (fun s => p s && p' s)).2 :=
  mk_eq (okG_and (mk_g p)) (fun s hs => by rw [sy_and, mk_s p hs, mk_s p' hs])
theorem mk_or {p p' : Nat → Bool} : (mk p).1 ||| (mk p').1 = (mk (fun s => p s || p' s)).1 ∧ (mk p).2 ||| (mk p').2 = (mk (fun s => p s || p' s)).2 :=
  mk_eq (okG_or (mk_g p) (mk_g p')) (fun s hs => by rw [sy_or, mk_s p hs, mk_s p' hs])
def oP (e b : Nat) : Prop := b = e + 5 ∨ (e + 13 ≤ b ∧ b < e + 97)
theorem s_Co_findOpen {σ : pm_H} {e ρ tb : Nat} {πb : Nat → Nat} {r : Rl} {B : Tr} (hc : isCo σ e) (hr : isRu σ ρ r) (ok : okR r) (hb : isTr σ tb B πb) (hB : okTr B) (hg : aSy σ (e + 6) (mk (en r)).1 (mk (en r)).2) (d1 : ρ + 3 ≤ e) (d2 : tb + 122 ≤ e) : cV 4 3 [.ref e, .ref ρ, .ref tb] σ (fun σ' => (∀ k, k ≤ (rTs r).length → opI σ' e B.2 r k) ∧ fr (oP e) σ σ') := by
  have l6 := ok.2.2.2.1
  have hcf : ∀ τ, fr (oP e) σ τ → isCo τ e := fun τ f => isCo_fr hc f ⟨by unfold oP; omega, by unfold oP; omega, by unfold oP; omega⟩
  have hrf : ∀ τ, fr (oP e) σ τ → isRu τ ρ r := fun τ f => isRu_fr hr f (fun b hb => by unfold pRu at hb; unfold oP; omega)
  have hbf : ∀ τ, fr (oP e) σ τ → isTr τ tb B πb := fun τ f => isTr_fr hb f (fun b hb => by unfold pTr at hb; unfold oP; omega)
  have hgf : ∀ τ, fr (oP e) σ τ → aSy τ (e + 6) (mk (en r)).1 (mk (en r)).2 := fun τ f => aSy_fr hg f (by unfold oP; omega)
  have v0 : vp_in (0 : Int32) 7 := by rw [vp_in_iff]; decide
  refine w_Co_findOpen_0 ?_
  refine lp (fun i => [.ref e, .ref ρ, .ref tb, .int (Int32.ofInt (i : Nat)), pm_U, pm_U]) (fun i τ => (∀ q, q < i → aSy τ (e + 13 + (12 * (rTs r).length + q)) (mk (en r)).1 (mk (en r)).2) ∧ fr (oP e) σ τ) 12 (fun i hi τ hh next => ?_) (fun τ hh => ?_) 0 (Nat.zero_le _) σ ⟨fun q hq => absurd hq (Nat.not_lt_zero _), fr.rf⟩
  · obtain ⟨i1, f⟩ := hh
    have c1 := hcf τ f
    have r1 := hrf τ f
    have g1 := hgf τ f
    have at_ := co_at c1 l6 hi
    have g0 := c1.2.2.2.1 0 (by decide)
    refine w_Co_findOpen_2 ⟨fun q => ?_, fun _ => ?_⟩
    · rw [z_12le (n := i) (Nat.le_refl _) (by omega)] at q; omega
    simp only [c1.1, c1.2.1.2.2.1, c1.2.1.2.2.2.1, c1.2.2.1.2.2.2.2.1, c1.2.2.1.2.2.2.2.2.1, c1.2.2.1.2.2.2.2.2.2.1, c1.2.2.1.2.2.2.2.2.2.2.1, r1.1.1, r1.2.2.2.1, oi_12, at_.1, at_.2.1, at_.2.2.1, at_.2.2.2, v0, c00, g0.1, Nat.add_zero, iv_int, isr_ref, rv_ref, true_and, forall_eq, oi_s]
    refine (s_copyFrom at_.2.2.2 g1).use (by omega) (fun τ1 e1 => next τ1 ⟨fun q hq => ?_, f.tr (by rw [e1]; exact fr_uSy (by unfold oP; omega))⟩)
    rw [e1]
    by_cases c : q = i
    · rw [c]; exact aSy_u at_.2.2.2
    · exact aSy_fr (i1 q (by omega)) (fr_uSy (P := fun b => b = e + 13 + (12 * (rTs r).length + i)) rfl) (by omega)
  · obtain ⟨i1, f⟩ := hh
    have r1 := hrf τ f
    refine w_Co_findOpen_2 ⟨fun _ => ?_, fun q => absurd (Int32.le_refl _) q⟩
    have ex : Int32.ofInt ((rTs r).length : Int) - 1 = Int32.ofInt (((rTs r).length : Int) - 1) := oi_subl _ 1
    simp only [r1.1.1, r1.2.2.2.1, iv_int, true_and, forall_eq, ex]
    refine lpd (fun i => [.ref e, .ref ρ, .ref tb, .int (Int32.ofInt ((i : Nat) - 1 : Int)), pm_U, pm_U]) (fun i τ => i ≤ (rTs r).length ∧ (∀ k, i ≤ k → k ≤ (rTs r).length → opI τ e B.2 r k) ∧ fr (oP e) σ τ) (fun i τ hh next => ?_) (fun τ hh => ?_) (rTs r).length τ ⟨Nat.le_refl _, fun k h1 h2 q hq => ?_, f⟩
    · obtain ⟨hil, hop, f⟩ := hh
      have hrc := List.getElem?_eq_getElem (show i < (rTs r).length by omega)
      generalize (rTs r)[i] = c at hrc
      have okc := ok.2.2.2.2 c (List.mem_of_getElem? hrc)
      have hd := drop_c hrc
      generalize hcs : (rTs r).drop (i + 1) = cs at hd
      have ei : Int32.ofInt (((i + 1 : Nat) : Int) - 1) = Int32.ofInt (i : Int) := by congr 1; omega
      have ei2 : Int32.ofInt (i : Int) + (-1) = Int32.ofInt ((i : Int) - 1) := by
        rw [show Int32.ofInt (i : Int) + (-1) = Int32.ofInt ((i : Int) + -1) from oi_addn _ 1]; congr 1
      have vi6 := vi (show i < 6 by omega) (by omega)
      have wi6 := vc (show i < 2000000 by omega)
      have keep : ∀ (P : Nat → Prop) (τ1 τ2 : pm_H), (∀ k, i + 1 ≤ k → k ≤ (rTs r).length → opI τ1 e B.2 r k) → fr P τ1 τ2 → (∀ b, e + 13 + 12 * (i + 1) ≤ b → ¬ P b) → ∀ k, i + 1 ≤ k → k ≤ (rTs r).length → opI τ2 e B.2 r k := fun P τ1 τ2 h hf hp k h1 h2 => opI_fr (h k h1 h2) hf (fun b hb _ => hp b (by omega))
      rw [ei]
      refine w_Co_findOpen_26 ⟨fun q => ?_, fun _ => ?_⟩
      · rw [z_lt0 (nrg (by omega))] at q; omega
      refine lp (fun j => [.ref e, .ref ρ, .ref tb, .int (Int32.ofInt (i : Int)), .int (Int32.ofInt (j : Nat)), pm_U]) (fun j τ => (∀ k, i + 1 ≤ k → k ≤ (rTs r).length → opI τ e B.2 r k) ∧ (∀ q, q < j → aSy τ (e + 13 + (12 * i + q)) 0 0) ∧ fr (oP e) σ τ) 12 (fun j hj τ1 hh next1 => ?_) (fun τ1 hh => ?_) 0 (Nat.zero_le _) τ ⟨hop, fun q hq => absurd hq (Nat.not_lt_zero _), f⟩
      · obtain ⟨j1, j2, f⟩ := hh
        have c1 := hcf τ1 f
        have at_ := co_at c1 (show i ≤ 6 by omega) hj
        refine w_Co_findOpen_30 ⟨fun q => ?_, fun _ => ?_⟩
        · rw [z_12le (n := j) (Nat.le_refl _) (by omega)] at q; omega
        simp only [c1.1, c1.2.1.2.2.2.1, c1.2.2.1.2.2.2.2.2.2.1, c1.2.2.1.2.2.2.2.2.2.2.1, oi_12, at_.1, at_.2.1, at_.2.2.1, at_.2.2.2, iv_int, isr_ref, rv_ref, true_and, forall_eq, oi_s]
        refine (s_clear at_.2.2.2).use (by omega) (fun τ2 e2 => ?_)
        have f2 : fr (fun b => b = e + 13 + (12 * i + j)) τ1 τ2 := by rw [e2]; exact fr_uSy rfl
        refine next1 τ2 ⟨keep _ τ1 τ2 j1 f2 (fun b hb => by omega), fun q hq => ?_, f.tr (f2.mono (fun b hb => by unfold oP; omega))⟩
        by_cases cq : q = j
        · rw [cq, e2]; exact aSy_u at_.2.2.2
        · exact aSy_fr (j2 q (by omega)) f2 (by omega)
      · obtain ⟨j1, j2, f⟩ := hh
        refine w_Co_findOpen_30 ⟨fun _ => ?_, fun q => absurd (Int32.le_refl _) q⟩
        refine lp (fun j => [.ref e, .ref ρ, .ref tb, .int (Int32.ofInt (i : Int)), .int (Int32.ofInt (j : Nat)), pm_U]) (fun j τ => (∀ k, i + 1 ≤ k → k ≤ (rTs r).length → opI τ e B.2 r k) ∧ (∀ q, q < 12 → aSy τ (e + 13 + (12 * i + q)) (mk (oJ B.2 (en r) c cs j q)).1 (mk (oJ B.2 (en r) c cs j q)).2) ∧ fr (oP e) σ τ) B.2.length (fun j hj τ1 hh next1 => ?_) (fun τ1 hh => ?_) 0 (Nat.zero_le _) τ1 ⟨j1, fun q hq => ?_, f⟩
        · obtain ⟨j1, j2, f⟩ := hh
          have ht := List.getElem?_eq_getElem hj
          generalize B.2[j] = t at ht
          have okt := hB.at ht
          have c1 := hcf τ1 f
          have r1 := hrf τ1 f
          have b1 := hbf τ1 f
          have bl := b1.2.2.2.2.1
          have at_ := b1.at ht
          have ru := at_.2.2.2
          have hπ := (b1.2.1.1 j (by omega)).1
          have rut : ∀ τ', fr (oP e) σ τ' → isRu τ' (tb + 2 + 3 * πb j) t := fun τ' f' => ((hbf τ' f').at ht).2.2.2
          have q6 : ¬ Int32.ofInt (B.2.length : Int) ≤ Int32.ofInt (j : Nat) := by rw [oi_le (by omega)]; omega
          have atc := r1.2.2.2.2.2.2.2.2 i c hrc
          refine w_Co_findOpen_46 ?_
          simp only [b1.1.1, b1.1.2.1, b1.1.2.2.1, b1.1.2.2.2.1, b1.2.2.1, at_.1, at_.2.1, at_.2.2.1, q6, c1.1, c1.2.1.2.2.2.2, r1.1.1, r1.1.2.2.1, r1.1.2.2.2.2.1, r1.1.2.2.2.2.2, vi6, wi6, atc, iv_int, isr_ref, rv_ref, not_false_eq_true, false_implies, true_implies, true_and, forall_eq, oi_s]
          refine (s_Co_findTakers ru okt okc c1.2.2.1.2.2.2.2.2.2.2.2).use (by omega) (fun τ2 e2 => ?_)
          have f2 : fr (fun b => b = e + 5) τ1 τ2 := by rw [e2]; exact fr_uSy rfl
          have fs2 := f.tr (f2.mono (fun b hb => Or.inl hb : ∀ b, b = e + 5 → oP e b))
          have c2 := hcf τ2 fs2
          have ru2 := rut τ2 fs2
          have k2 := keep _ τ1 τ2 j1 f2 (fun b hb => by omega)
          have a2 := co_at c2 (show i + 1 ≤ 6 by omega) okt.2.1
          have g2 := k2 (i + 1) (Nat.le_refl _) (by omega) (rT t) okt.2.1
          rw [hcs] at g2
          have t2 : aSy τ2 (e + 5) (mk (tk c t)).1 (mk (tk c t)).2 := by rw [e2]; exact aSy_u c1.2.2.1.2.2.2.2.2.2.2.2
          simp only [c2.1, c2.2.1.2.2.2.2, c2.2.1.2.2.2.1, c2.2.2.1.2.2.2.2.2.2.1, c2.2.2.1.2.2.2.2.2.2.2.1, ru2.1.1, ru2.2.2.1, oi_12, a2.1, a2.2.1, a2.2.2.1, t2.1, iv_int, isr_ref, rv_ref, true_and, forall_eq]
          refine (s_keep2 t2 g2).use (by omega) (fun τ3 e3 => ?_)
          have f3 : fr (fun b => b = e + 5) τ2 τ3 := by rw [e3]; exact fr_uSy rfl
          have fs3 := fs2.tr (f3.mono (fun b hb => Or.inl hb : ∀ b, b = e + 5 → oP e b))
          have c3 := hcf τ3 fs3
          have ru3 := rut τ3 fs3
          have a3 := co_at c3 (show i ≤ 6 by omega) okt.1
          have t3 := aSy_u (lo := (mk (tk c t)).1 &&& (mk (opn B.2 (en r) cs (rT t))).1) (hi := (mk (tk c t)).2 &&& (mk (opn B.2 (en r) cs (rT t))).2) t2.1
          rw [← e3, mk_and.1, mk_and.2] at t3
          have g3 := aSy_fr (aSy_fr (j2 (rF t) okt.1) f2 (by omega)) f3 (by omega)
          simp only [c3.1, c3.2.1.2.2.2.2, c3.2.1.2.2.2.1, c3.2.2.1.2.2.2.2.2.2.1, c3.2.2.1.2.2.2.2.2.2.2.1, ru3.1.1, ru3.2.1, oi_12, a3.1, a3.2.1, a3.2.2.1, g3.1, iv_int, isr_ref, rv_ref, true_and, forall_eq]
          refine (s_include2 g3 t3).use (by omega) (fun τ4 e4 => ?_)
          have f4 : fr (fun b => b = e + 13 + (12 * i + rF t)) τ3 τ4 := by rw [e4]; exact fr_uSy rfl
          refine next1 τ4 ⟨keep _ τ3 τ4 (keep _ τ2 τ3 k2 f3 (fun b hb => by omega)) f4 (fun b hb => by have := okt.1; omega), fun q hq => ?_, fs3.tr (f4.mono (fun b hb => by have := okt.1; unfold oP; omega))⟩
          by_cases cq : rF t = q
          · subst cq
            have ec := mk_c (p := oJ B.2 (en r) c cs (j + 1) (rF t)) (p' := fun s => oJ B.2 (en r) c cs j (rF t) s || (tk c t s && opn B.2 (en r) cs (rT t) s)) (fun s _ => by rw [oJ_s ht, decide_eq_true rfl, Bool.true_and])
            rw [ec.1, ec.2, e4, ← mk_or.1, ← mk_or.2]
            exact aSy_u g3.1
          · have ec := mk_c (p := oJ B.2 (en r) c cs (j + 1) q) (p' := oJ B.2 (en r) c cs j q) (fun s _ => by rw [oJ_s ht, decide_eq_false cq, Bool.false_and, Bool.or_false])
            rw [ec.1, ec.2]
            exact aSy_fr (aSy_fr (aSy_fr (j2 q hq) f2 (by omega)) f3 (by omega)) f4 (by omega)
        · obtain ⟨j1, j2, f⟩ := hh
          have b1 := hbf τ1 f
          refine w_Co_findOpen_46 ⟨b1.1.1, fun z ez => ⟨fun _ => ?_, fun q => ?_⟩⟩
          · rw [ei2]
            refine next τ1 ⟨by omega, fun k h1 h2 => ?_, f⟩
            by_cases ck : k = i
            · rw [ck]
              intro q hq
              have ec := mk_c (p := opn B.2 (en r) ((rTs r).drop i) q) (p' := oJ B.2 (en r) c cs B.2.length q) (fun s _ => by rw [hd, oJ_all])
              rw [ec.1, ec.2]
              exact j2 q hq
            · exact j1 k (by omega) h2
          · rw [ez, b1.2.2.1] at q; exact absurd (Int32.le_refl _) q
        · have e0 := mk_0 (p := oJ B.2 (en r) c cs 0 q) (fun s _ => rfl)
          rw [← e0.1, ← e0.2]
          exact j2 q hq
    · refine w_Co_findOpen_26 ⟨fun _ => ⟨rfl, fun k hk => hh.2.1 k (Nat.zero_le _) hk, hh.2.2⟩, fun q => absurd ?_ q⟩
      decide
    · have ek : k = (rTs r).length := by omega
      rw [ek, List.drop_length]
      exact i1 q hq
