/-! ===== the states after a symbol ===== -/
theorem aftN_0 {rs : List Rl} {S s i : Nat} (h : S.testBit i = false) : aftN rs S s (i + 1) = aftN rs S s i := by rw [aftN, h]; simp
theorem aftN_1 {rs : List Rl} {S s i : Nat} (h : S.testBit i = true) : aftN rs S s (i + 1) = aftN rs S s i ||| tg rs i s := by rw [aftN, h]; simp
theorem s_St_after {σ : pm_H} {e S s : Nat} {T : Tr} (h : isSt σ e T) (hS : S < 4096) (hs : s < 100) : cI 1 69 [.ref e, .int (Int32.ofInt (S : Int)), .int (Int32.ofInt (s : Int))] σ (Int32.ofInt ((aft T.2 S s : Nat) : Int)) := by
  refine w_St_after_0 ?_
  refine lp0 (fun i => [.ref e, .int (Int32.ofInt (S : Int)), .int (Int32.ofInt (s : Int)), .int (Int32.ofInt ((aftN T.2 S s i : Nat) : Int)), .int (Int32.ofInt (i : Nat))]) 12 (fun i hi next => ?_) ?_ 0 (Nat.zero_le _)
  · have vr := vi (show 100 * i + s < 1200 by omega) (by omega)
    have wr := vc (show 100 * i + s < 2000000 by omega)
    refine w_St_after_4 ⟨fun q => ?_, fun q => (s_hasS hS hi).use (by omega) ⟨fun e1 => ?_, fun e1 => ?_⟩⟩
    · rw [i32_12 (by omega)] at q; omega
    · rw [oi_s]; rw [aftN_0 (bI_0.mp e1)] at next; exact next
    · rw [aftN_1 (bI_1.mp e1)] at next
      simp only [h.1.1, h.1.2.1, h.1.2.2.1, h.1.2.2.2, isr_ref, rv_ref, oi_r100, vr, wr, h.2.2 i s hi hs, i_orN, true_and, forall_eq, oi_s]
      exact next
  · exact w_St_after_4 ⟨fun q => ⟨rfl, rfl⟩, fun q => absurd (Int32.le_refl _) q⟩
/-- two symbols lead to the same states -/
def alike (rs : List Rl) (s t : Nat) : Bool := (List.range 12).all (fun p => tg rs p s == tg rs p t)
theorem alike_iff {rs : List Rl} {s t : Nat} : alike rs s t = true ↔ ∀ p, p < 12 → tg rs p s = tg rs p t := by
  unfold alike; simp [List.all_eq_true, List.mem_range]
theorem s_St_isAlike {σ : pm_H} {e s t : Nat} {T : Tr} (h : isSt σ e T) (hT : okTr T) (hs : s < 100) (ht : t < 100) : cI 0 70 [.ref e, .int (Int32.ofInt (s : Int)), .int (Int32.ofInt (t : Int))] σ (bI (alike T.2 s t)) := by
  refine w_St_isAlike_0 ?_
  refine lp (d := 0) (m := 70) (k := 2) (fun i => [.ref e, .int (Int32.ofInt (s : Int)), .int (Int32.ofInt (t : Int)), .int (Int32.ofInt (i : Nat))]) (fun i τ => τ = σ ∧ ∀ p, p < i → tg T.2 p s = tg T.2 p t) 12 ?_ ?_ 0 (Nat.zero_le _) σ ⟨rfl, fun p hp => absurd hp (Nat.not_lt_zero _)⟩
  · rintro i hi τ ⟨rfl, i2⟩ next
    have vr := vi (show 100 * i + s < 1200 by omega) (by omega)
    have wr := vc (show 100 * i + s < 2000000 by omega)
    have vt := vi (show 100 * i + t < 1200 by omega) (by omega)
    have wt := vc (show 100 * i + t < 2000000 by omega)
    have l1 := tg_lt (p := i) (s := s) hT.2
    have l2 := tg_lt (p := i) (s := t) hT.2
    refine w_St_isAlike_2 ⟨fun q => ?_, fun q => ?_⟩
    · rw [i32_12 (by omega)] at q; omega
    · simp only [h.1.1, h.1.2.1, h.1.2.2.1, h.1.2.2.2, isr_ref, rv_ref, oi_r100, vr, wr, vt, wt, h.2.2 i s hi hs, h.2.2 i t hi ht, true_and, forall_eq, oi_s]
      rw [oi_eq (by omega)]
      refine ⟨fun e1 => next τ ⟨rfl, fun p hp => ?_⟩, fun e1 => ?_⟩
      · by_cases e2 : p = i
        · subst e2; omega
        · exact i2 p (by omega)
      · have : alike T.2 s t = false := by
          rw [← Bool.not_eq_true, alike_iff]
          intro z
          have := z i hi
          omega
        rw [this]; exact ⟨rfl, rfl, trivial⟩
  · rintro τ ⟨rfl, i2⟩
    refine w_St_isAlike_2 ⟨fun q => ?_, fun q => absurd (Int32.le_refl _) q⟩
    rw [alike_iff.mpr i2]; exact ⟨rfl, rfl, rfl⟩
theorem i_0 {a : Nat} (h : a < 100000) : Int32.ofInt (a : Int) = 0 ↔ a = 0 := by rw [oi_eql ⟨by omega, by decide⟩]; omega
theorem and_lt4 {a b : Nat} (h : a < 4096) : a &&& b < 4096 := Nat.lt_of_le_of_lt Nat.and_le_left h
theorem s_St_isAccepting {σ : pm_H} {e S : Nat} {T : Tr} (h : isSt σ e T) (hS : S < 4096) : cI 0 71 [.ref e, .int (Int32.ofInt (S : Int))] σ (bI (decide (S &&& T.1 ≠ 0))) := by
  refine w_St_isAccepting_0 ?_
  have := and_lt4 (b := T.1) hS
  simp only [h.1.1, h.2.1, i_andN, true_and, forall_eq]
  rw [i_0 (by omega)]
  refine ⟨fun q => ⟨rfl, ?_, trivial⟩, fun q => ⟨rfl, ?_, trivial⟩⟩
  · rw [decide_eq_false (fun z => z q)]; rfl
  · rw [decide_eq_true q]; rfl
/-! the model -/
def mSt (σ : pm_H) (m sd : Nat) (rs : List Rl) : Prop := ∀ p s, p < 12 → s < 100 → iv (pm_A σ (m + 19) (1200 * sd + 100 * p + s)) = Int32.ofInt ((tg rs p s : Nat) : Int)
def X19 (m : Nat) (σ σ' : pm_H) : Prop := frX m (fun _ => False) (fun i => i = 19) (fun _ => False) σ σ'
theorem X19.mS {m : Nat} {σ σ' : pm_H} (h : X19 m σ σ') (hm : mS σ m) : mS σ' m := frX.mS h hm (fun _ q => q.elim)
theorem X19_sA {m k : Nat} {v : Value} {σ : pm_H} : X19 m σ (pm_sA σ (m + 19) k v) := (frX_sA (by omega) (by omega)).mono (fun _ q => q) (fun _ q => q) (fun _ q => q)
theorem oi_r1200 (sd k : Nat) : (1200 : Int32) * Int32.ofInt (sd : Int) + Int32.ofInt (k : Int) = Int32.ofInt ((1200 * sd + k : Nat) : Int) := by
  rw [oi_lmul, oi_add]; congr 1
theorem oi_l100 (p : Nat) : (100 : Int32) * Int32.ofInt (p : Int) = Int32.ofInt ((100 * p : Nat) : Int) := by
  rw [oi_lmul]; congr 1
theorem oi_addN (a b : Nat) : Int32.ofInt (a : Int) + Int32.ofInt (b : Int) = Int32.ofInt ((a + b : Nat) : Int) := by rw [oi_add]; congr 1
theorem s_M_after {σ : pm_H} {m sd S s : Nat} {rs : List Rl} (hm : mS σ m) (h : mSt σ m sd rs) (hsd : sd < 2) (hS : S < 4096) (hs : s < 100) : cI 0 213 [.ref m, .int (Int32.ofInt (sd : Int)), .int (Int32.ofInt (S : Int)), .int (Int32.ofInt (s : Int))] σ (Int32.ofInt ((aft rs S s : Nat) : Int)) := by
  refine w_M_after_0 ?_
  refine lp0 (fun i => [.ref m, .int (Int32.ofInt (sd : Int)), .int (Int32.ofInt (S : Int)), .int (Int32.ofInt (s : Int)), .int (Int32.ofInt ((aftN rs S s i : Nat) : Int)), .int (Int32.ofInt (i : Nat))]) 12 (fun i hi next => ?_) ?_ 0 (Nat.zero_le _)
  · have vr := vi (show 1200 * sd + 100 * i + s < 2400 by omega) (by omega)
    have wr := vc (show 1200 * sd + 100 * i + s < 2000000 by omega)
    refine w_M_after_4 ⟨fun q => ?_, fun q => ?_⟩
    · rw [i32_12 (by omega)] at q; omega
    · simp only [hm.1, hm.f19, hm.t19, hm.l19, isr_ref, rv_ref, oi_l100, oi_r1200, oi_addN, vr, wr, h i s hi hs, i_orN, st_has1 hS hi, true_and, forall_eq, oi_s]
      refine ⟨fun e1 => ?_, fun e1 => ?_⟩
      · rw [aftN_1 e1] at next; exact next
      · rw [aftN_0 (by simpa using e1)] at next
        rw [Int32.or_zero]; exact next
  · exact w_M_after_4 ⟨fun q => ⟨rfl, rfl⟩, fun q => absurd (Int32.le_refl _) q⟩
