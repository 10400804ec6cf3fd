/-! ===== constructors: the model ===== -/
def A00 : AS := (fun _ => (0, []), [], [], [], [])
theorem okA_00 : okA A00 := ⟨fun _ _ => ⟨by show (0 : Nat) < 4096; decide, fun r hr => by cases hr⟩, (fun e he => by cases he), ⟨Nat.zero_le _, fun c hc => by cases hc⟩, ⟨Nat.zero_le _, fun c hc => by cases hc⟩, Nat.zero_le _, fun c hc => by cases hc⟩
def mLst : List (Nat × Nat × Nat) := mTab.map (fun e => (e.1, e.2.2.1, e.2.2.2))
theorem mLst_len : mLst.length = 34 := rfl
theorem mLst_w : sumW mLst = 264279 := by decide +kernel
theorem mTab_at : ∀ i, i < 34 → ∃ e, mTab[i]? = some e ∧ e.2.1 = i + 1 := by decide +kernel
theorem mTab_ix {e : Nat × Nat × Nat × Nat} (h : e ∈ mTab) : ∃ i, i < 34 ∧ mLst[i]? = some (e.1, e.2.2.1, e.2.2.2) ∧ e.2.1 = i + 1 := by
  obtain ⟨i, hi⟩ := List.mem_iff_getElem?.mp h
  have li := (List.getElem?_eq_some_iff.mp hi).1
  replace li : i < 34 := li
  obtain ⟨e', h1, h2⟩ := mTab_at i li
  rw [hi] at h1
  cases h1
  exact ⟨i, li, by unfold mLst; rw [List.getElem?_map, hi]; rfl, h2⟩
theorem s_M_init {σ : pm_H} {m : Nat} (ht : pm_t σ m = 13) (hn : pm_n σ = m + 1) (hF : ∀ f, pm_F σ f m = .null) : cV 0 161 [.ref m] σ (fun σ' => isM σ' m A00 ∧ mkd m (m + 35) 264279 σ σ') := by
  have fin : ∀ τ, oB σ m 13 (m + 1) mLst τ → isM τ m A00 ∧ mkd m (m + 35) 264279 σ τ := by
    intro τ h
    have nl : ∀ k j, 1 ≤ k → k ≤ 34 → pm_A τ (m + k) j = .null := fun k j h1 h2 => by
      obtain ⟨e, e1, e2⟩ := mTab_at (k - 1) (by omega)
      have := (h.2.2.2.2 (k - 1) (e.1, e.2.2.1, e.2.2.2) (by unfold mLst; rw [List.getElem?_map, e1]; rfl)).2.2 j
      rw [show m + 1 + (k - 1) = m + k by omega] at this
      exact this
    have fl : ∀ f, (∀ e, e ∈ mLst → e.1 ≠ f) → iv (pm_F τ f m) = 0 := fun f hf => by rw [h.2.2.2.1 f hf, hF]; rfl
    have z : ∀ k j, 1 ≤ k → k ≤ 34 → iv (pm_A τ (m + k) j) = 0 := fun k j h1 h2 => by rw [nl k j h1 h2]; rfl
    refine ⟨⟨⟨h.1.1, fun f k t l hm => ?_⟩, fun i hi => ⟨z 1 i (by omega) (by omega), z 2 i (by omega) (by omega), Nat.zero_le _, fun k r hk => by cases hk⟩, ⟨fl 1211 (by decide), Nat.zero_le _, fun i e he => by cases he⟩, ⟨fl 1213 (by decide), Nat.zero_le _, fun i c hc => by cases hc⟩, ⟨fl 1218 (by decide), Nat.zero_le _, fun i c hc => by cases hc⟩, ⟨fl 1220 (by decide), Nat.zero_le _, fun i c hc => by cases hc⟩⟩, h.2.2.1.sub (fun c hc => by omega), ?_, ?_⟩
    · obtain ⟨i, i1, i2, i3⟩ := mTab_ix hm
      have q := h.2.2.2.2 i _ i2
      dsimp only at i3 q
      rw [show m + 1 + i = m + k by omega] at q
      exact ⟨q.1, q.2.1⟩
    · rw [h.2.1.1, mLst_len]
    · rw [h.2.1.2, mLst_w]
  refine w_M_init_0 (oB_next 13 (oB_0 ht hn) (by decide) (by decide) (fun τ1 h1 => oB_next 13 h1 (by decide) (by decide) (fun τ2 h2 => oB_next 520 h2 (by decide) (by decide) (fun τ3 h3 => oB_next 520 h3 (by decide) (by decide) (fun τ4 h4 => oB_next 520 h4 (by decide) (by decide) (fun τ5 h5 => oB_next 520 h5 (by decide) (by decide) (fun τ6 h6 => oB_next 520 h6 (by decide) (by decide) (fun τ7 h7 => oB_next 3120 h7 (by decide) (by decide) (fun τ8 h8 => oB_next 3120 h8 (by decide) (by decide) (fun τ9 h9 => oB_next 8 h9 (by decide) (by decide) (fun τ10 h10 => oB_next 120 h10 (by decide) (by decide) (fun τ11 h11 => oB_next 10 h11 (by decide) (by decide) (fun τ12 h12 => oB_next 60 h12 (by decide) (by decide) (fun τ13 h13 => oB_next 4096 h13 (by decide) (by decide) (fun τ14 h14 => oB_next 4096 h14 (by decide) (by decide) (fun τ15 h15 => oB_next 7920 h15 (by decide) (by decide) (fun τ16 h16 => oB_next 132 h16 (by decide) (by decide) (fun τ17 h17 => oB_next 60 h17 (by decide) (by decide) (fun τ18 h18 => oB_next 2400 h18 (by decide) (by decide) (fun τ19 h19 => oB_next 13 h19 (by decide) (by decide) (fun τ20 h20 => oB_next 1600 h20 (by decide) (by decide) (fun τ21 h21 => oB_next 144 h21 (by decide) (by decide) (fun τ22 h22 => oB_next 144 h22 (by decide) (by decide) (fun τ23 h23 => oB_next 144 h23 (by decide) (by decide) (fun τ24 h24 => oB_next 125280 h24 (by decide) (by decide) (fun τ25 h25 => oB_next 49152 h25 (by decide) (by decide) (fun τ26 h26 => oB_next 876 h26 (by decide) (by decide) (fun τ27 h27 => oB_next 876 h27 (by decide) (by decide) (fun τ28 h28 => oB_next 49152 h28 (by decide) (by decide) (fun τ29 h29 => oB_next 12 h29 (by decide) (by decide) (fun τ30 h30 => oB_next 12 h30 (by decide) (by decide) (fun τ31 h31 => oB_next 6 h31 (by decide) (by decide) (fun τ32 h32 => oB_next 700 h32 (by decide) (by decide) (fun τ33 h33 => oB_next 8400 h33 (by decide) (by decide) (fun τ34 h34 => ⟨rfl, fin _ h34⟩)))))))))))))))))))))))))))))))))))
