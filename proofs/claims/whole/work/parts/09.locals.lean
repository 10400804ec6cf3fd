/-! ===== the machine side: locals, instructions over locals and stack ===== -/
def pm_asf : Nat → List Value → List (Nat × Value)
  | _, [] => []
  | i, .retAddr _ :: r => pm_asf (i + 1) r
  | i, .int x :: r => (i, .int x) :: pm_asf (i + 1) r
  | i, .long x :: r => (i, .long x) :: pm_asf (i + 1) r
  | i, .float x :: r => (i, .float x) :: pm_asf (i + 1) r
  | i, .double x :: r => (i, .double x) :: pm_asf (i + 1) r
  | i, .null :: r => (i, .null) :: pm_asf (i + 1) r
  | i, .ref x :: r => (i, .ref x) :: pm_asf (i + 1) r
def pm_nr (v : Value) : Prop := ∀ x, v ≠ .retAddr x
theorem pm_asf_mem : ∀ (L : List Value) (i : Nat) (q : Nat × Value), q ∈ pm_asf i L ↔ ∃ k, q.1 = i + k ∧ L[k]? = some q.2 ∧ pm_nr q.2 := by
  intro L
  induction L with
  | nil => intro i q; simp [pm_asf]
  | cons v r ih =>
    intro i q
    have tail : (∃ k, q.1 = i + 1 + k ∧ r[k]? = some q.2 ∧ pm_nr q.2) → ∃ k, q.1 = i + k ∧ (v :: r)[k]? = some q.2 ∧ pm_nr q.2 := by
      rintro ⟨k, h1, h2, h3⟩
      exact ⟨k + 1, by omega, by simpa using h2, h3⟩
    have back : ∀ k, q.1 = i + (k + 1) → (v :: r)[k + 1]? = some q.2 → pm_nr q.2 → ∃ k, q.1 = i + 1 + k ∧ r[k]? = some q.2 ∧ pm_nr q.2 := by
      intro k h1 h2 h3
      exact ⟨k, by omega, by simpa using h2, h3⟩
    cases v with
    | retAddr z =>
      simp only [pm_asf, ih]
      constructor
      · exact tail
      · rintro ⟨k, h1, h2, h3⟩
        cases k with
        | zero => simp at h2; exact absurd h2.symm (h3 z)
        | succ k => exact back k h1 h2 h3
    | _ =>
      simp only [pm_asf, List.mem_cons, ih]
      constructor
      · rintro (h | h)
        · subst h
          exact ⟨0, rfl, rfl, fun x h => by cases h⟩
        · exact tail h
      · rintro ⟨k, h1, h2, h3⟩
        cases k with
        | zero =>
          left
          simp at h2
          exact Prod.ext h1 h2.symm
        | succ k => exact Or.inr (back k h1 h2 h3)
def pm_lr (ls : Array Slot) (nL : Nat) (L : List Value) : Prop := lv_has ls nL (pm_asf 0 L)
theorem lv_has_mono {ls : Array Slot} {nL : Nat} {l l' : List (Nat × Value)} (h : lv_has ls nL l) (hs : ∀ q ∈ l', q ∈ l) : lv_has ls nL l' := ⟨h.1, h.2.1, fun q hq => h.2.2 q (hs q hq)⟩
theorem pm_lr_at {ls : Array Slot} {nL : Nat} {L : List Value} (h : pm_lr ls nL L) {k : Nat} {v : Value} (hk : L[k]? = some v) (hv : pm_nr v) : ls[k]? = some (.val v) := h.2.2 (k, v) ((pm_asf_mem L 0 _).mpr ⟨k, by simp, hk, hv⟩)
theorem pm_lr_nil {ls : Array Slot} {nL : Nat} {L : List Value} (h : pm_lr ls nL L) : pm_lr ls nL [] := lv_has_mono h (fun q hq => by simp [pm_asf] at hq)
theorem pm_lr_sub {ls : Array Slot} {nL : Nat} {L L' : List Value} (h : pm_lr ls nL L) (hs : ∀ (k : Nat) (v : Value), L'[k]? = some v → pm_nr v → L[k]? = some v) : pm_lr ls nL L' := lv_has_mono h (fun q hq => by
  obtain ⟨k, h1, h2, h3⟩ := (pm_asf_mem L' 0 q).mp hq
  exact (pm_asf_mem L 0 q).mpr ⟨k, h1, hs _ _ h2 h3, h3⟩)
theorem pm_set_U {L : List Value} {i k : Nat} {v : Value} (h : (L.set i pm_U)[k]? = some v) (hv : pm_nr v) : L[k]? = some v ∧ k ≠ i := by
  by_cases hk : i = k
  · subst hk
    rw [List.getElem?_set] at h
    simp at h
    exact absurd h.2.symm (hv 0)
  · rw [List.getElem?_set_ne hk] at h
    exact ⟨h, fun e => hk e.symm⟩
theorem pm_lr_fg {ls : Array Slot} {nL : Nat} : ∀ (fs : List Nat) {L : List Value}, pm_lr ls nL L → pm_lr ls nL (pm_fg fs L) := by
  intro fs
  induction fs with
  | nil => intro L h; exact h
  | cons i r ih => intro L h; exact ih (pm_lr_sub h (fun k v hk hv => (pm_set_U hk hv).1))
theorem pm_kill_at {L : List Value} {i k : Nat} {v : Value} (h : (pm_kill L i)[k]? = some v) (hv : pm_nr v) : L[k]? = some v ∧ (k + 1 = i → v.category ≠ 2) := by
  unfold pm_kill at h
  cases i with
  | zero => exact ⟨h, fun e => by omega⟩
  | succ j =>
    dsimp only at h
    split at h
    · obtain ⟨h1, h2⟩ := pm_set_U h hv
      exact ⟨h1, fun e => absurd (by omega) h2⟩
    · obtain ⟨h1, h2⟩ := pm_set_U h hv
      exact ⟨h1, fun e => absurd (by omega) h2⟩
    · rename_i q1 q2
      refine ⟨h, fun e hc => ?_⟩
      have e : k = j := by omega
      subst e
      cases v <;> simp [Value.category] at hc
      · exact q1 _ h
      · exact q2 _ h
theorem pm_lr_st {ls' : Array Slot} {nL i : Nat} {L : List Value} {v : Value} (h : lv_has ls' nL ((i, v) :: (pm_asf 0 L).filter (fun q => !(q.1 == i) && !(q.1 + 1 == i && q.2.category == 2)))) : pm_lr ls' nL (pm_st L i v) := lv_has_mono h (fun q hq => by
  obtain ⟨k, h1, h2, h3⟩ := (pm_asf_mem _ 0 q).mp hq
  have hk : q.1 = k := by omega
  unfold pm_st at h2
  by_cases hi : i = k
  · subst hi
    rw [List.getElem?_set] at h2
    simp at h2
    exact List.mem_cons.mpr (Or.inl (Prod.ext hk h2.2.symm))
  · rw [List.getElem?_set_ne hi] at h2
    obtain ⟨h4, h5⟩ := pm_kill_at h2 h3
    refine List.mem_cons.mpr (Or.inr (List.mem_filter.mpr ⟨(pm_asf_mem L 0 q).mpr ⟨k, h1, h4, h3⟩, ?_⟩))
    rw [hk]
    have a1 : (k == i) = false := by simp; omega
    rw [a1]
    by_cases e : k + 1 = i
    · have := h5 e
      simp [e, this]
    · simp [e])
theorem pm_lr_st2 {ls' : Array Slot} {nL i : Nat} {L : List Value} {v : Value} (h : lv_has ls' nL ((i, v) :: (pm_asf 0 L).filter (fun q => !(q.1 == i) && (!(q.1 == i + 1) && !(q.1 + 1 == i && q.2.category == 2))))) : pm_lr ls' nL (pm_st2 L i v) := lv_has_mono h (fun q hq => by
  obtain ⟨k, h1, h2, h3⟩ := (pm_asf_mem _ 0 q).mp hq
  have hk : q.1 = k := by omega
  unfold pm_st2 at h2
  obtain ⟨h2, h2'⟩ := pm_set_U h2 h3
  by_cases hi : i = k
  · subst hi
    rw [List.getElem?_set] at h2
    simp at h2
    exact List.mem_cons.mpr (Or.inl (Prod.ext hk h2.2.symm))
  · rw [List.getElem?_set_ne hi] at h2
    obtain ⟨h4, h5⟩ := pm_kill_at h2 h3
    refine List.mem_cons.mpr (Or.inr (List.mem_filter.mpr ⟨(pm_asf_mem L 0 q).mpr ⟨k, h1, h4, h3⟩, ?_⟩))
    rw [hk]
    have a1 : (k == i) = false := by simp; omega
    have a2 : (k == i + 1) = false := by simp; omega
    rw [a1, a2]
    by_cases e : k + 1 = i
    · have := h5 e
      simp [e, this]
    · simp [e])
/-- a method's first locals -/
theorem pm_flat_args : ∀ (As : List Value) (i : Nat) (q : Nat × Value), q ∈ pm_asf i (pm_flat As) → q ∈ lv_args i As := by
  intro As
  induction As with
  | nil => intro i q h; simp [pm_flat, pm_asf] at h
  | cons v r ih =>
    intro i q h
    cases v <;> simp only [pm_flat, pm_asf, List.mem_cons] at h <;> simp only [lv_args, List.mem_cons, Value.category]
    · exact h.imp id (fun h => ih _ _ (by simpa using h))
    · exact h.imp id (fun h => ih _ _ (by simpa using h))
    · exact h.imp id (fun h => ih _ _ (by simpa using h))
    · exact h.imp id (fun h => ih _ _ (by simpa using h))
    · exact h.imp id (fun h => ih _ _ (by simpa using h))
    · exact h.imp id (fun h => ih _ _ (by simpa using h))
    · exact Or.inr (ih _ _ (by simpa using h))
theorem pm_flat_len : ∀ As : List Value, (pm_flat As).length = (lg_sl As).length := by
  intro As
  induction As with
  | nil => rfl
  | cons v r ih =>
    have e : lg_sl (v :: r) = (if v.category = 2 then [Slot.val v, Slot.second] else [Slot.val v]) ++ lg_sl r := rfl
    rw [e]
    cases v <;> simp [pm_flat, ih, Value.category] <;> omega
theorem pm_lr_ent (As : List Value) {n : Nat} (h : (pm_flat As).length ≤ n) : pm_lr ((lg_sl As ++ List.replicate (n - (lg_sl As).length) Slot.unset).toArray) n (pm_ent As n) := by
  have hl := lv_entry As (n := n) (by rw [← pm_flat_len]; exact h)
  refine lv_has_mono hl (fun q hq => pm_flat_args As 0 q ?_)
  obtain ⟨k, h1, h2, h3⟩ := (pm_asf_mem _ 0 q).mp hq
  refine (pm_asf_mem _ 0 q).mpr ⟨k, h1, ?_, h3⟩
  unfold pm_ent at h2
  by_cases hk : k < (pm_flat As).length
  · rw [List.getElem?_append_left hk] at h2; exact h2
  · rw [List.getElem?_append_right (by omega)] at h2
    rw [List.getElem?_replicate] at h2
    split at h2
    · exact absurd (Option.some.inj h2).symm (h3 0)
    · cases h2
