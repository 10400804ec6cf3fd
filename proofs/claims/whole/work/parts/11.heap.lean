/-! ===== the machine side: the heap ===== -/
def pm_mv (w : Cond) : Bool := match w with
  | .fieldLinkNest _ _ _ _ _ _ => true
  | .methodLinkNest _ _ _ _ => true
  | .castable _ _ => true
  | .declares _ => true
  | _ => false
def pm_kw (w : Cond) : Bool := goodWord w || pm_mv w
theorem pm_mv_warm {w : Cond} (hm : pm_mv w = true) {A A' : Array Value} {s U : State} (hW : s.WarmedH U.vm) (h : w.before A s = true) : w.before A' U = true := by
  unfold pm_mv at hm
  split at hm
  · exact va_Nw.use rfl (va_Nw.warmF hW (va_Nw.of rfl h))
  · exact va_Nw.use rfl (va_Nw.warmM hW (va_Nw.of rfl h))
  · exact va_Nw.use rfl (va_Nw.warmC hW (va_Nw.of rfl h))
  · exact va_Nw.use rfl (va_Nw.warmD hW (va_Nw.of rfl h))
  · cases hm
theorem pm_kw_warm {w : Cond} (hw : pm_kw w = true) {A A' : Array Value} {s U : State} (hW : s.WarmedH U.vm) (h : w.before A s = true) : w.before A' U = true := by
  by_cases hg : goodWord w = true
  · exact word_at hW (good_of_word hg) h
  · exact pm_mv_warm (by simpa [pm_kw, hg] using hw) hW h
/-- kinds of arrays: their element types -/
def pm_aty (t : Nat) : FieldType := if t = 100 then .int else if t = 101 then .long else if t = 102 then .boolean else if t = 103 then .byte else if t = 104 then .char else if t = 105 then .double else .object (pm_cn (t - 120))
def pm_tags : List Nat := [100, 101, 102, 103, 104, 105, 126, 128, 129, 130]
def pm_rvv (v : Value) : Value := match v with
  | .ref a => .ref a
  | _ => .null
def pm_av (t : Nat) (v : Value) : Value := if t = 101 then .long (jv v) else if t = 105 then .double (dv v) else if 120 ≤ t then pm_rvv v else .int (iv v)
def pm_fv (ty : FieldType) (v : Value) : Value := match ty with
  | .long => .long (jv v)
  | .double => .double (dv v)
  | .object _ => pm_rvv v
  | .array _ => pm_rvv v
  | .float => .float 0
  | _ => .int (iv v)
/-- what stands at an address -/
def pm_at (D : va_G) (DA : Nat → ClassId) (σ : pm_H) (a : Nat) (H : Heap) : Prop :=
  (∀ (ci : Nat) (r : vw_C), pm_t σ a = ci + 1 → pm_cl[ci]? = some r → t_OB a (D.1 ci) r.2.2 (D.2 ci) H (fun k => pm_fv (pm_fty ci k) (pm_F σ (100 * ci + k) a))) ∧
  (pm_t σ a ∈ pm_tags → H[a]? = some (arrV (DA (pm_t σ a)) (pm_l σ a) (fun j => pm_av (pm_t σ a) (pm_A σ a j))))
def pm_scr (B : Nat) (s : State) (σ : pm_H) (a : Nat) (H : Heap) : Prop := a < B ∧ ∃ scr : Cell, H[a]? = some scr ∧ s.isArrayOf scr .int ∧ scr.vm ≠ .unknown ∧ scr.slots.size = pm_l σ a ∧ ∀ j : Nat, j < pm_l σ a → scr.slots[j]? = some (.int (iv (pm_A σ a j)))
def pm_rep (D : va_G) (DA : Nat → ClassId) (B : Nat) (s : State) (σ : pm_H) (H : Heap) : Prop :=
  H.size = pm_n σ ∧ B ≤ H.size ∧ (∀ a, pm_t σ a ≠ 0 → pm_t σ a ≠ 200 → B ≤ a) ∧ (∀ a, pm_at D DA σ a H) ∧ ∀ a, pm_t σ a = 200 → pm_scr B s σ a H
/-- what is known of the tables and of what was there at the start -/
def pm_strs : List (String × Nat × String) := []
def pm_known (s : State) : Prop := ∀ w ∈ lw_tbl, pm_kw w = true → ∀ A, w.before A s = true
def pm_amb (D : va_G) (DA : Nat → ClassId) (B : Nat) (strs : List (String × Nat × String)) (ncs : List (String × String)) (s : State) (H : Heap) : Prop :=
  va_K D pm_cl [] s ∧ (∀ t ∈ pm_tags, ArrOfT s (DA t) (pm_aty t) ∧ va_RA s (DA t) (pm_aty t)) ∧ pm_known s ∧ (∀ q ∈ strs, ∃ sa, vk_R q.1 q.2.1 q.2.2 sa s) ∧
  vx_Zq Bundle.tN "UNASSIGNED_STACK" Bundle.steD (fun q => B ≤ q) s H ∧ vx_Zq Bundle.tN "SUPPRESSED_SENTINEL" Bundle.listD (fun q => B ≤ q) s H ∧ (∀ q ∈ ncs, va_Nc q.1 q.2 s) ∧ ∀ t ∈ pm_tags, 120 ≤ t → va_AO (pm_cn (t - 120)) s
section PMH
variable {D : va_G} {DA : Nat → ClassId} {B : Nat} {strs : List (String × Nat × String)} {ncs : List (String × String)} {s U : State} {σ σ' : pm_H} {H H1 : Heap}
theorem pm_known.warm (hW : s.WarmedH U.vm) (h : pm_known s) : pm_known U := fun w hw hk A => pm_kw_warm hk hW (h w hw hk #[])
theorem pm_amb.warm (hW : s.WarmedH U.vm) (hk : ∀ a : Nat, a < H.size → ¬ B ≤ a → H1[a]? = H[a]?) (h : pm_amb D DA B strs ncs s H) : pm_amb D DA B strs ncs U H1 := by
  obtain ⟨h1, h2, h3, h4, h5, h6, h7, h8⟩ := h
  exact ⟨va_K.moved hW.alike h1, fun t ht => ⟨arrOfT_moved hW.alike (h2 t ht).1, (h2 t ht).2.moved hW.alike⟩, h3.warm hW, fun q hq => by obtain ⟨sa, h⟩ := h4 q hq; exact ⟨sa, vk_R.warm hW h⟩,
    vx_Zq.moved hW.alike (h5.kept hk), vx_Zq.moved hW.alike (h6.kept hk), fun q hq => va_Nc.moved hW.alike (h7 q hq), fun t ht h => va_AO.moved hW.alike (h8 t ht h)⟩
theorem pm_at.kept {a : Nat} (h : pm_at D DA σ a H) (hq : a < H.size → H1[a]? = H[a]?) : pm_at D DA σ a H1 := by
  refine ⟨fun ci r h1 h2 => ?_, fun h1 => ?_⟩
  · obtain ⟨cell, e1, e2⟩ := h.1 ci r h1 h2
    exact ⟨cell, (hq (Array.getElem?_eq_some_iff.mp e1).1).trans e1, e2⟩
  · have e1 := h.2 h1
    exact (hq (Array.getElem?_eq_some_iff.mp e1).1).trans e1
theorem pm_at.eqv {a : Nat} (ht : pm_t σ' a = pm_t σ a) (hl : pm_l σ' a = pm_l σ a) (hF : ∀ f, pm_F σ' f a = pm_F σ f a) (hA : ∀ j, pm_A σ' a j = pm_A σ a j) (h : pm_at D DA σ a H) : pm_at D DA σ' a H := by
  unfold pm_at at h ⊢
  simp only [ht, hl, hF, hA]
  exact h
theorem pm_scr.eqv {a : Nat} (hl : pm_l σ' a = pm_l σ a) (hA : ∀ j, pm_A σ' a j = pm_A σ a j) (hq : H1[a]? = H[a]?) (h : pm_scr B s σ a H) : pm_scr B s σ' a H1 := by
  unfold pm_scr at h ⊢
  simp only [hl, hA, hq]
  exact h
theorem pm_rep.moved (hvm : s.vm.Alike U.vm) (h : pm_rep D DA B s σ H) : pm_rep D DA B U σ H := by
  obtain ⟨h1, h2, h3, h4, h5⟩ := h
  refine ⟨h1, h2, h3, h4, fun a ha => ?_⟩
  obtain ⟨h6, scr, h7, h8, h9⟩ := h5 a ha
  exact ⟨h6, scr, h7, State.isArrayOf_alike hvm h8, h9⟩
/-- one cell is written -/
theorem pm_rep.put {a : Nat} (h : pm_rep D DA B s σ H) (ht : ∀ q, pm_t σ' q = pm_t σ q) (hl : ∀ q, pm_l σ' q = pm_l σ q) (hn : pm_n σ' = pm_n σ) (hF : ∀ f q, q ≠ a → pm_F σ' f q = pm_F σ f q) (hA : ∀ q j, q ≠ a → pm_A σ' q j = pm_A σ q j)
    (hz : H1.size = H.size) (ho : ∀ q : Nat, q ≠ a → H1[q]? = H[q]?) (hne : pm_t σ a ≠ 200) (hat : pm_at D DA σ' a H1) : pm_rep D DA B s σ' H1 := by
  obtain ⟨h1, h2, h3, h4, h5⟩ := h
  refine ⟨by rw [hz, hn]; exact h1, by rw [hz]; exact h2, fun q h6 h7 => h3 q (by rw [← ht]; exact h6) (by rw [← ht]; exact h7), fun q => ?_, fun q hq => ?_⟩
  · by_cases e : q = a
    · subst e; exact hat
    · exact ((h4 q).kept (fun _ => ho q e)).eqv (ht q) (hl q) (fun f => hF f q e) (fun j => hA q j e)
  · have e : q ≠ a := fun e => hne (by rw [← e, ← ht]; exact hq)
    exact (h5 q (by rw [← ht]; exact hq)).eqv (hl q) (fun j => hA q j e) (ho q e)
/-- one cell comes -/
theorem pm_rep.push {t len w : Nat} (h : pm_rep D DA B s σ H) (hz : H1.size = H.size + 1) (ho : ∀ q : Nat, q < H.size → H1[q]? = H[q]?) (hne : t ≠ 200) (hat : pm_at D DA (pm_new σ t len w) H.size H1) : pm_rep D DA B s (pm_new σ t len w) H1 := by
  obtain ⟨h1, h2, h3, h4, h5⟩ := h
  have ht : ∀ q, q ≠ H.size → pm_t (pm_new σ t len w) q = pm_t σ q := fun q hq => by
    unfold pm_t pm_new; simp only; rw [if_neg (by rw [h1] at hq; exact hq)]
  have hl : ∀ q, q ≠ H.size → pm_l (pm_new σ t len w) q = pm_l σ q := fun q hq => by
    unfold pm_l pm_new; simp only; rw [if_neg (by rw [h1] at hq; exact hq)]
  have hF : ∀ f q, q ≠ H.size → pm_F (pm_new σ t len w) f q = pm_F σ f q := fun f q hq => by
    unfold pm_F pm_new; simp only; rw [if_neg (by rw [h1] at hq; exact hq)]
  have hA : ∀ q j, q ≠ H.size → pm_A (pm_new σ t len w) q j = pm_A σ q j := fun q j hq => by
    unfold pm_A pm_new; simp only; rw [if_neg (by rw [h1] at hq; exact hq)]
  have ht0 : pm_t (pm_new σ t len w) H.size = t := by
    unfold pm_t pm_new; simp only; rw [if_pos (show H.size = σ.1.1 from h1)]
  refine ⟨by rw [hz, h1]; rfl, by omega, fun q h6 h7 => ?_, fun q => ?_, fun q hq => ?_⟩
  · by_cases e : q = H.size
    · omega
    · rw [ht q e] at h6 h7; exact h3 q h6 h7
  · by_cases e : q = H.size
    · rw [e]; exact hat
    · exact ((h4 q).kept (ho q)).eqv (ht q e) (hl q e) (fun f => hF f q e) (fun j => hA q j e)
  · by_cases e : q = H.size
    · rw [e, ht0] at hq; exact absurd hq hne
    · have h8 := h5 q (by rw [← ht q e]; exact hq)
      obtain ⟨scr, e1, -⟩ := h8.2
      exact h8.eqv (hl q e) (fun j => hA q j e) (ho q (Array.getElem?_eq_some_iff.mp e1).1)
/-- an exception comes -/
theorem pm_rep.thr (h : pm_rep D DA B s σ H) (hz : H1.size = H.size + 1) (ho : ∀ q : Nat, q < H.size → H1[q]? = H[q]?) : pm_rep D DA B s (pm_thr σ) H1 := by
  obtain ⟨h1, h2, h3, h4, h5⟩ := h
  refine ⟨by rw [hz, h1]; rfl, by omega, h3, fun q => ((h4 q).kept (ho q)).eqv rfl rfl (fun _ => rfl) (fun _ => rfl), fun q hq => ?_⟩
  obtain ⟨scr, e1, -⟩ := (h5 q hq).2
  exact (h5 q hq).eqv rfl (fun _ => rfl) (ho q (Array.getElem?_eq_some_iff.mp e1).1)
end PMH
