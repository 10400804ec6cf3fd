/-! ===== compose: what may follow ===== -/
theorem bt_m1 : ∀ j : Nat, j < 64 → bt (-1) j = true := by decide +kernel
theorem meets_hits {p p' : Nat → Bool} : (¬ ((mk p).1 &&& (mk p').1 = 0 ∧ (mk p).2 &&& (mk p').2 = 0)) ↔ hits (fun s => p s && p' s) = true := by
  rw [sy_z (okG_and (mk_g p)), hits_iff]
  constructor
  · intro h
    apply Classical.byContradiction
    intro n
    refine h (fun s hs => ?_)
    rw [sy_and, mk_s p hs, mk_s p' hs]
    cases e : (p s && p' s) with
    | false => rfl
    | true => exact absurd ⟨s, hs, e⟩ n
  · intro ⟨s, hs, e⟩ h
    have := h s hs
    rw [sy_and, mk_s p hs, mk_s p' hs, e] at this
    cases this
theorem en_mk {r : Rl} (ok : okR r) : enLo r = (mk (en r)).1 ∧ enHi r = (mk (en r)).2 := mk_eq (okG_en ok.2.2.1) (fun s hs => sy_en ok.ts hs)
theorem s_Co_findTakers {σ : pm_H} {ρ g c : Nat} {t : Rl} (h : isRu σ ρ t) (ok : okR t) (hc : okT c) (hg : pm_t σ g = 9) : cV 3 4 [.int (Int32.ofInt (c : Int)), .ref ρ, .ref g] σ (fun σ' => σ' = uSy σ g (mk (tk c t)).1 (mk (tk c t)).2) := by
  have c5 := okT_lt hc
  refine w_Co_findTakers_0 ?_
  refine gD (s_offT (by omega)) (by omega) (fun lt => ?_) (fun ge => ?_)
  · have c100 : c < 100 := by omega
    have ev : ∀ s, tk c t s = en t c := fun s => by
      unfold tk
      have : val c s = (c : Int) := if_pos c100
      rw [this, decide_eq_true (by omega), Bool.true_and]; rfl
    refine ⟨h.1.1, gI (s_Ru_isEnabled h ok.ts c100) (by omega) (fun e => ?_) (fun e => ?_)⟩
    · refine ⟨hg, (s_clear hg).use (by omega) (fun σ' e' => ⟨rfl, ?_⟩)⟩
      have := mk_eq (p := tk c t) okG_0 (lo := 0) (fun s hs => by rw [ev, e]; exact (sy_z okG_0).mp ⟨rfl, rfl⟩ s hs)
      rw [e', ← this.1, ← this.2]
    · refine ⟨hg, (s_fill hg).use (by omega) (fun σ' e' => ⟨rfl, ?_⟩)⟩
      have hG : okG 68719476735 := fun j hj => by
        by_cases c : j < 64
        · rw [bt_36 j c]; exact decide_eq_false (by omega)
        · exact bt_ge _ (by omega)
      have := mk_eq (p := tk c t) hG (lo := -1) (fun s hs => by
        rw [ev, e]
        unfold sy
        by_cases c : s < 64
        · rw [if_pos c]; exact bt_m1 s c
        · rw [if_neg c, bt_36 _ (by omega)]; exact decide_eq_true (by omega))
      rw [e', ← this.1, ← this.2]
  · have c100 : ¬ c < 100 := by omega
    unfold okT at hc
    refine ⟨h.1.1, (s_Ru_enabledInto h hg).use (by omega) (fun σ1 e1 => ?_)⟩
    have g1 : aSy σ1 g (enLo t) (enHi t) := by rw [e1]; exact aSy_u hg
    have ex : (1000 : Int32) - Int32.ofInt (c : Int) = Int32.ofInt (1000 - (c : Int)) := oi_lsub _ 1000
    rw [ex]
    refine ⟨g1.1, (s_shift g1 (okG_en ok.2.2.1) (by rw [oi_to (by omega)]; omega)).use (by omega) (fun σ2 e2 => ⟨rfl, ?_⟩)⟩
    obtain ⟨l2, h2, e2, sh⟩ := e2
    rw [oi_to (by omega)] at sh
    have := mk_eq (p := tk c t) sh.1 (fun s hs => by
      rw [sh.2 s hs]
      have ev : (s : Int) - (1000 - (c : Int)) = val c s := by unfold val; rw [if_neg c100]; omega
      rw [ev]
      unfold tk
      by_cases hin : 0 ≤ val c s ∧ val c s < 100
      · rw [decide_eq_true hin, Bool.true_and, Bool.true_and]
        exact sy_en ok.ts (by omega)
      · rw [decide_eq_false hin, Bool.false_and, Bool.false_and])
    rw [e2, e1, uSy_uSy, ← this.1, ← this.2]
/-- the sets of what may follow -/
def opI (σ : pm_H) (e : Nat) (bs : List Rl) (r : Rl) (k : Nat) : Prop := ∀ q, q < 12 → aSy σ (e + 13 + (12 * k + q)) (mk (opn bs (en r) ((rTs r).drop k) q)).1 (mk (opn bs (en r) ((rTs r).drop k) q)).2
theorem opI_fr {P : Nat → Prop} {σ σ' : pm_H} {e k : Nat} {bs : List Rl} {r : Rl} (h : opI σ e bs r k) (f : fr P σ σ') (hp : ∀ b, e + 13 + 12 * k ≤ b → b < e + 13 + 12 * k + 12 → ¬ P b) : opI σ' e bs r k :=
  fun q hq => aSy_fr (h q hq) f (hp _ (by omega) (by omega))
theorem co_at {σ : pm_H} {e k q : Nat} (h : isCo σ e) (hk : k ≤ 6) (hq : q < 12) : vp_in (Int32.ofInt ((12 * k + q : Nat) : Int)) 84 ∧ (Int32.ofInt ((12 * k + q : Nat) : Int)).toNatClampNeg = 12 * k + q ∧ pm_A σ (e + 4) (12 * k + q) = .ref (e + 13 + (12 * k + q)) ∧ pm_t σ (e + 13 + (12 * k + q)) = 9 :=
  ⟨vi (by omega) (by omega), vc (by omega), (h.2.2.2.2 _ (by omega)).1, (h.2.2.2.2 _ (by omega)).2⟩
theorem oi_12 (k q : Nat) : Int32.ofInt (k : Int) * 12 + Int32.ofInt (q : Int) = Int32.ofInt ((12 * k + q : Nat) : Int) := by
  rw [show Int32.ofInt (k : Int) * 12 = Int32.ofInt ((k : Int) * 12) from oi_mull _ 12, oi_add]; congr 1; omega
theorem drop_c {l : List Nat} {k c : Nat} (h : l[k]? = some c) : l.drop k = c :: l.drop (k + 1) := by
  have hk := (List.getElem?_eq_some_iff.mp h)
  obtain ⟨h1, h2⟩ := hk
  rw [← h2]
  exact List.drop_eq_getElem_cons h1
