/-! ===== the model: asking about rules ===== -/
theorem i32_100 {n : Nat} (hn : n < 100000) : ((100 : Int32) ≤ Int32.ofInt (n : Int)) ↔ 100 ≤ n := by
  rw [oi_lle ⟨by omega, by decide⟩]; omega
theorem val_rg {t : Nat} {s : Nat} (ht : t < 100000) (hs : s < 100) : -2147483648 ≤ val t s ∧ val t s < 2147483648 := by
  unfold val; split <;> omega
theorem s_M_enables {σ : pm_H} {m j s : Nat} {r : Rl} (hm : mS σ m) (h : mRu σ m j r) (hj : j < 520) (hok : okTs (rTs r)) (hs : s < 100) : cI 2 174 [.ref m, .int (Int32.ofInt (j : Int)), .int (Int32.ofInt (s : Int))] σ (bI (en r s)) := by
  have qi : vp_in (Int32.ofInt (j : Int)) 520 := (oi_in (by omega)).mpr (by omega)
  have qc : (Int32.ofInt (j : Int)).toNatClampNeg = j := by rw [oi_nc (by omega), nat_tn]
  have hlen := hok.1
  refine w_M_enables_0 ⟨hm.1, (s_M_guards hm h hj hs).use (by omega) ⟨fun e => ?_, fun e => ?_⟩⟩
  · unfold en; rw [bI_0.mp e]; exact ⟨rfl, rfl, rfl⟩
  · have e := bI_1.mp e
    refine lp (d := 2) (m := 174) (k := 9) (fun i => [.ref m, .int (Int32.ofInt (j : Int)), .int (Int32.ofInt (s : Int)), .int (Int32.ofInt (i : Nat))]) (fun i τ => τ = σ ∧ ∀ k t, k < i → (rTs r)[k]? = some t → 0 ≤ val t s ∧ val t s < 100) (rTs r).length ?_ ?_ 0 (Nat.zero_le _) σ ⟨rfl, fun k t hk => absurd hk (Nat.not_lt_zero _)⟩
    · rintro i hi τ ⟨rfl, i2⟩ next
      have hr := List.getElem?_eq_getElem hi
      generalize (rTs r)[i] = t at hr
      have okt := hok.2 t (List.mem_of_getElem? hr)
      have ht : t < 100000 := by rcases okt with q | q <;> omega
      have q6 : ¬ Int32.ofInt ((rTs r).length) ≤ Int32.ofInt (i : Nat) := by rw [oi_le (by omega)]; omega
      refine w_M_enables_9 ?_
      simp only [hm.1, hm.f7, hm.t7, hm.l7, isr_ref, rv_ref, qi, qc, h.2.2.2.2.1, q6, not_false_eq_true, false_implies, true_implies, true_and, forall_eq]
      refine (s_M_value hm h hj hlen hr).use (by omega) ((s_M_isSymbol (val_rg ht hs)).use (by omega) ⟨fun e2 => ?_, fun e2 => ?_⟩)
      · have e2 := of_decide_eq_false (bI_0.mp e2)
        have : en r s = false := by
          unfold en
          rw [e, Bool.true_and, ← Bool.not_eq_true, List.all_eq_true]
          exact fun q => e2 (of_decide_eq_true (q t (List.mem_of_getElem? hr)))
        rw [this]; exact ⟨rfl, rfl, rfl⟩
      · have e2 := of_decide_eq_true (bI_1.mp e2)
        rw [oi_s]
        refine next τ ⟨rfl, fun k t' hk hkt => ?_⟩
        by_cases ek : k = i
        · subst ek; rw [hr] at hkt; cases hkt; exact e2
        · exact i2 k t' (by omega) hkt
    · rintro τ ⟨rfl, i2⟩
      have q6 : Int32.ofInt ((rTs r).length) ≤ Int32.ofInt ((rTs r).length) := Int32.le_refl _
      refine w_M_enables_9 ?_
      simp only [hm.1, hm.f7, hm.t7, hm.l7, isr_ref, rv_ref, qi, qc, h.2.2.2.2.1, q6, not_true_eq_false, false_implies, true_implies, true_and, and_true, forall_eq]
      have : en r s = true := by
        unfold en
        rw [e, Bool.true_and, List.all_eq_true]
        intro t ht
        obtain ⟨k, hk, hkt⟩ := List.getElem_of_mem ht
        exact decide_eq_true (i2 k t hk (by rw [List.getElem?_eq_getElem hk, hkt]))
      rw [this]; exact ⟨rfl, rfl⟩
theorem cnt_s (p : Nat → Bool) (i : Nat) : cnt p (i + 1) = cnt p i + (if p i then 1 else 0) := rfl
theorem oi_0 (z : Int) : Int32.ofInt z + 0 = Int32.ofInt z := by rw [oi_addl]; congr 1; omega
theorem cnt_nx {p : Nat → Bool} {i : Nat} (h : p i = false) : Int32.ofInt (cnt p i : Nat) + 0 = Int32.ofInt (cnt p (i + 1) : Nat) := by
  rw [cnt_s, h, oi_0]; simp
theorem cnt_nx1 {p : Nat → Bool} {i : Nat} (h : p i = true) : Int32.ofInt (cnt p i : Nat) + 1 = Int32.ofInt (cnt p (i + 1) : Nat) := by
  rw [cnt_s, h, oi_s]; rfl
theorem s_M_guardMany {σ : pm_H} {m j : Nat} {r : Rl} (hm : mS σ m) (h : mRu σ m j r) (hj : j < 520) : cI 1 175 [.ref m, .int (Int32.ofInt (j : Int))] σ (Int32.ofInt (cnt (sy (rLo r) (rHi r)) 100 : Nat)) := by
  refine w_M_guardMany_0 ?_
  refine lp0 (fun i => [.ref m, .int (Int32.ofInt (j : Int)), .int (Int32.ofInt (cnt (sy (rLo r) (rHi r)) i : Nat)), .int (Int32.ofInt (i : Nat))]) 100 (fun i hi next => ?_) ?_ 0 (Nat.zero_le _)
  · refine w_M_guardMany_4 ⟨fun q => ?_, fun q => ⟨hm.1, (s_M_guards hm h hj hi).use (by omega) ⟨fun e => ?_, fun e => ?_⟩⟩⟩
    · rw [i32_100 (by omega)] at q; omega
    · rw [cnt_nx (bI_0.mp e), oi_s]; exact next
    · rw [cnt_nx1 (bI_1.mp e), oi_s]; exact next
  · exact w_M_guardMany_4 ⟨fun q => ⟨rfl, rfl⟩, fun q => absurd (Int32.le_refl _) q⟩
theorem s_M_enabledMany {σ : pm_H} {m j : Nat} {r : Rl} (hm : mS σ m) (h : mRu σ m j r) (hj : j < 520) (hok : okTs (rTs r)) : cI 3 176 [.ref m, .int (Int32.ofInt (j : Int))] σ (Int32.ofInt (cnt (en r) 100 : Nat)) := by
  refine w_M_enabledMany_0 ?_
  refine lp0 (fun i => [.ref m, .int (Int32.ofInt (j : Int)), .int (Int32.ofInt (cnt (en r) i : Nat)), .int (Int32.ofInt (i : Nat))]) 100 (fun i hi next => ?_) ?_ 0 (Nat.zero_le _)
  · refine w_M_enabledMany_4 ⟨fun q => ?_, fun q => ⟨hm.1, (s_M_enables hm h hj hok hi).use (by omega) ⟨fun e => ?_, fun e => ?_⟩⟩⟩
    · rw [i32_100 (by omega)] at q; omega
    · rw [cnt_nx (bI_0.mp e), oi_s]; exact next
    · rw [cnt_nx1 (bI_1.mp e), oi_s]; exact next
  · exact w_M_enabledMany_4 ⟨fun q => ⟨rfl, rfl⟩, fun q => absurd (Int32.le_refl _) q⟩
theorem s_M_rangeMany {σ : pm_H} {m j : Nat} {r : Rl} (hm : mS σ m) (h : mRu σ m j r) (hj : j < 520) : cI 1 177 [.ref m, .int (Int32.ofInt (j : Int))] σ (Int32.ofInt (cnt (rs (rLo r) (rHi r)) 100 : Nat)) := by
  refine w_M_rangeMany_0 ?_
  refine lp0 (fun i => [.ref m, .int (Int32.ofInt (j : Int)), .int (Int32.ofInt (cnt (rs (rLo r) (rHi r)) i : Nat)), .int (Int32.ofInt (i : Nat))]) 100 (fun i hi next => ?_) ?_ 0 (Nat.zero_le _)
  · refine w_M_rangeMany_4 ⟨fun q => ?_, fun q => ⟨hm.1, (s_M_guards hm h hj hi).use (by omega) ⟨fun e => ?_, fun e => ⟨fun e0 => ?_, fun e0 => ⟨hm.1, ?_⟩⟩⟩⟩⟩
    · rw [i32_100 (by omega)] at q; omega
    · have : rs (rLo r) (rHi r) i = false := by unfold rs; rw [bI_0.mp e]; rfl
      rw [cnt_nx this, oi_s]; exact next
    · rw [oi_eql ⟨by omega, by decide⟩] at e0
      have : rs (rLo r) (rHi r) i = true := by unfold rs; rw [bI_1.mp e, show i = 0 by omega]; rfl
      rw [cnt_nx1 this, oi_s]; exact next
    · rw [oi_eql ⟨by omega, by decide⟩] at e0
      have ei : Int32.ofInt (i : Int) - 1 = Int32.ofInt ((i - 1 : Nat) : Int) := by rw [oi_subl]; congr 1; omega
      rw [ei]
      refine (s_M_guards hm h hj (s := i - 1) (by omega)).use (by omega) ⟨fun e2 => ?_, fun e2 => ?_⟩
      · have : rs (rLo r) (rHi r) i = true := by unfold rs; rw [bI_1.mp e, bI_0.mp e2]; simp
        rw [cnt_nx1 this, oi_s]; exact next
      · have : rs (rLo r) (rHi r) i = false := by
          unfold rs; rw [bI_1.mp e, bI_1.mp e2]
          simp; omega
        rw [cnt_nx this, oi_s]; exact next
  · exact w_M_rangeMany_4 ⟨fun q => ⟨rfl, rfl⟩, fun q => absurd (Int32.le_refl _) q⟩
theorem s_M_areBoth {σ : pm_H} {m j j' : Nat} {r r' : Rl} (hm : mS σ m) (h : mRu σ m j r) (hj : j < 520) (hok : okTs (rTs r)) (h' : mRu σ m j' r') (hj' : j' < 520) (hok' : okTs (rTs r')) : cI 3 222 [.ref m, .int (Int32.ofInt (j : Int)), .int (Int32.ofInt (j' : Int))] σ (bI (both r r')) := by
  refine w_M_areBoth_0 ?_
  refine lp (d := 3) (m := 222) (k := 2) (fun i => [.ref m, .int (Int32.ofInt (j : Int)), .int (Int32.ofInt (j' : Int)), .int (Int32.ofInt (i : Nat))]) (fun i τ => τ = σ ∧ ∀ k, k < i → ¬ (en r k = true ∧ en r' k = true)) 100 ?_ ?_ 0 (Nat.zero_le _) σ ⟨rfl, fun k hk => absurd hk (Nat.not_lt_zero _)⟩
  · rintro i hi τ ⟨rfl, i2⟩ next
    refine w_M_areBoth_2 ⟨fun q => ?_, fun q => ⟨hm.1, (s_M_enables hm h hj hok hi).use (by omega) ⟨fun e => ?_, fun e => ⟨hm.1, (s_M_enables hm h' hj' hok' hi).use (by omega) ⟨fun e2 => ?_, fun e2 => ?_⟩⟩⟩⟩⟩
    · rw [i32_100 (by omega)] at q; omega
    · rw [oi_s]
      refine next τ ⟨rfl, fun k hk => ?_⟩
      by_cases ek : k = i
      · subst ek; rw [bI_0.mp e]; simp
      · exact i2 k (by omega)
    · rw [oi_s]
      refine next τ ⟨rfl, fun k hk => ?_⟩
      by_cases ek : k = i
      · subst ek; rw [bI_0.mp e2]; simp
      · exact i2 k (by omega)
    · rw [both_iff.mpr ⟨i, hi, bI_1.mp e, bI_1.mp e2⟩]
      exact ⟨rfl, rfl, rfl⟩
  · rintro τ ⟨rfl, i2⟩
    refine w_M_areBoth_2 ⟨fun q => ?_, fun q => absurd (Int32.le_refl _) q⟩
    have : both r r' = false := by
      rw [← Bool.not_eq_true, both_iff]
      rintro ⟨s, hs, h1⟩
      exact i2 s hs h1
    rw [this]; exact ⟨rfl, rfl, rfl⟩
