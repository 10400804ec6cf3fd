/-! ===== outputs of the class ===== -/
def ouW (σ : pm_H) (o : Nat) : Prop := pm_t σ o = 4 ∧ pm_F σ 302 o = .ref (o + 3) ∧ pm_t σ (o + 3) = 130 ∧ pm_l σ (o + 3) = 12 ∧ pm_F σ 303 o = .ref (o + 4) ∧ pm_t σ (o + 4) = 130 ∧ pm_l σ (o + 4) = 12 ∧ pm_F σ 304 o = .ref (o + 5) ∧ woS σ (o + 5) ∧ ∀ q, q < 12 → pm_A σ (o + 3) q = .ref (o + 9 + 4 * q) ∧ pm_A σ (o + 4) q = .ref (o + 11 + 4 * q) ∧ woS σ (o + 9 + 4 * q) ∧ woS σ (o + 11 + 4 * q)
theorem ouW_fr {P : Nat → Prop} {σ σ' : pm_H} {o : Nat} (h : ouW σ o) (hf : fr P σ σ') (hp : ∀ b, o ≤ b → b < o + 57 → ¬ P b) : ouW σ' o := by
  obtain ⟨h1, h2, h3, h4, h5, h6, h7, h8, h9, h10⟩ := h
  have p0 := hp o (by omega) (by omega)
  have p3 := hp (o + 3) (by omega) (by omega)
  have p4 := hp (o + 4) (by omega) (by omega)
  exact ⟨by rw [hf.t, h1], by rw [hf.F p0, h2], by rw [hf.t, h3], by rw [hf.l, h4], by rw [hf.F p0, h5], by rw [hf.t, h6], by rw [hf.l, h7], by rw [hf.F p0, h8], woS_fr h9 hf (hp _ (by omega) (by omega)), fun q hq => ⟨by rw [hf.A p3]; exact (h10 q hq).1, by rw [hf.A p4]; exact (h10 q hq).2.1, woS_fr (h10 q hq).2.2.1 hf (hp _ (by omega) (by omega)), woS_fr (h10 q hq).2.2.2 hf (hp _ (by omega) (by omega))⟩⟩
/-- a word of the outputs changes -/
theorem ouW_wo {σ σ' : pm_H} {o w0 : Nat} (h : ouW σ o) (hf : fr (pWo w0) σ σ') (hw : woS σ' w0) (h0 : w0 = o + 5 ∨ ∃ q, q < 12 ∧ (w0 = o + 9 + 4 * q ∨ w0 = o + 11 + 4 * q)) : ouW σ' o := by
  obtain ⟨h1, h2, h3, h4, h5, h6, h7, h8, h9, h10⟩ := h
  have hw0 : o + 5 ≤ w0 ∧ (w0 - o) % 2 = 1 := by rcases h0 with rfl | ⟨q, _, rfl | rfl⟩ <;> omega
  have p0 : ¬ pWo w0 o := fun z => by have := z.1; omega
  have p3 : ¬ pWo w0 (o + 3) := fun z => by have := z.1; omega
  have p4 : ¬ pWo w0 (o + 4) := fun z => by have := z.1; omega
  have key : ∀ v, o + 5 ≤ v → (v - o) % 2 = 1 → woS σ v → woS σ' v := fun v v1 v2 v3 => by
    by_cases e : v = w0
    · subst e; exact hw
    · exact woS_fr v3 hf (fun z => by have := z.1; have := z.2; omega)
  exact ⟨by rw [hf.t, h1], by rw [hf.F p0, h2], by rw [hf.t, h3], by rw [hf.l, h4], by rw [hf.F p0, h5], by rw [hf.t, h6], by rw [hf.l, h7], by rw [hf.F p0, h8], key _ (by omega) (by omega) h9, fun q hq => ⟨by rw [hf.A p3]; exact (h10 q hq).1, by rw [hf.A p4]; exact (h10 q hq).2.1, key _ (by omega) (by omega) (h10 q hq).2.2.1, key _ (by omega) (by omega) (h10 q hq).2.2.2⟩⟩
def msk (R : Nat) (E : Nat → Option (List Nat)) : Prop := R < 4096 ∧ ∀ q, q < 12 → R.testBit q = (E q).isSome
/-- words by state: chosen ones (9), earlier ones (11) -/
def wds (σ : pm_H) (b : Nat) (E : Nat → Option (List Nat)) : Prop := ∀ q l, q < 12 → E q = some l → isWo σ (b + 4 * q) l
def pO (o b : Nat) : Prop := o ≤ b ∧ b < o + 57
theorem wds_fr {σ σ' : pm_H} {b w0 : Nat} {E : Nat → Option (List Nat)} (h : wds σ b E) (hf : fr (pWo w0) σ σ') (hd : ∀ q, q < 12 → w0 + 2 ≤ b + 4 * q ∨ b + 4 * q + 2 ≤ w0) : wds σ' b E := fun q l hq hl =>
  isWo_fr (h q l hq hl) hf (fun c hc z => by have := hc.1; have := hc.2; have := z.1; have := z.2; have := hd q hq; omega)
theorem s_Ou_isBetter {σ : pm_H} {o w : Nat} {c b : List Nat} {last : Bool} (h : ouW σ o) (hc : isWo σ (o + 5) c) (hb : isWo σ w b) (h1 : ∀ s, s ∈ c → s < 100) (h2 : ∀ s, s ∈ b → s < 100) : cI 1 26 [.ref o, .ref w, .int (bI last)] σ (bI (better last c b)) := by
  refine w_Ou_isBetter_0 ?_
  unfold better
  simp only [h.1, h.2.2.2.2.2.2.2.1, isr_ref, rv_ref, hc.1.1, hb.1.1, true_and, forall_eq]
  cases last
  · exact ⟨fun _ => (s_Wo_comesBefore hc hb h1 h2).use (by omega) ⟨bI_and _, rfl, rfl⟩, fun z => absurd rfl z⟩
  · exact ⟨fun z => absurd z (by decide), fun _ => (s_Wo_comesBefore hb hc h2 h1).use (by omega) ⟨bI_and _, rfl, rfl⟩⟩
