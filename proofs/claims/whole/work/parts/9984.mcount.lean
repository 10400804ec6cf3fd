/-! ===== the model counts words ===== -/
def XC (m : Nat) (σ σ' : pm_H) : Prop := frX m (fun _ => False) (fun i => i = 14 ∨ i = 15 ∨ i = 19) (fun _ => False) σ σ'
theorem XC_tr {m : Nat} {σ σ1 σ2 : pm_H} (h : XC m σ σ1) (g : XC m σ1 σ2) : XC m σ σ2 := frX.tr h g
theorem XC_mS {m : Nat} {σ σ' : pm_H} (h : XC m σ σ') (hm : mS σ m) : mS σ' m := frX.mS h hm (fun _ hf => hf.elim)
theorem XC_14 {m k : Nat} {v : Value} {σ : pm_H} : XC m σ (pm_sA σ (m + 14) k v) := (frX_sA (by omega) (by omega)).mono (fun _ h => h.elim) (fun _ h => Or.inl h) (fun _ h => h)
theorem XC_15 {m k : Nat} {v : Value} {σ : pm_H} : XC m σ (pm_sA σ (m + 15) k v) := (frX_sA (by omega) (by omega)).mono (fun _ h => h.elim) (fun _ h => Or.inr (Or.inl h)) (fun _ h => h)
theorem i32_4096 {n : Nat} (hn : n < 100000) : ((4096 : Int32) ≤ Int32.ofInt (n : Int)) ↔ 4096 ≤ n := by
  have h : ((4096 : Int32) ≤ Int32.ofInt (n : Int)) ↔ (4096 : Int) ≤ (n : Int) := oi_lle ⟨by omega, by decide⟩
  rw [h]; omega
theorem mSt_sA {σ : pm_H} {m i k sd : Nat} {v : Value} {rs : List Rl} (h : mSt σ m sd rs) (hi : i ≠ 19) : mSt (pm_sA σ (m + i) k v) m sd rs := fun p s hp hs => by
  rw [A_sA, if_neg (by omega)]; exact h p s hp hs
theorem s_M_counted {σ : pm_H} {m sl n : Nat} {T : Tr} (hm : mS σ m) (h : mTr σ m sl T) (hT : okTr T) (hsl : sl < 4) (hn : n ≤ 8) : pm_C 4 214 [.ref m, .int (Int32.ofInt (sl : Int)), .int (Int32.ofInt (n : Int))] σ (fun o σ' => o = .inl (some (.long (Int64.ofNat (dcnt T n)))) ∧ XC m σ σ') := by
  have vs := vi (show sl < 13 by omega) (by omega)
  have ws := vc (show sl < 2000000 by omega)
  refine w_M_counted_0 ⟨hm.1, (s_M_steps (sd := 0) hm h hT hsl (by omega)).use (by omega) (fun σ1 p1 => ?_)⟩
  have x1 : XC m σ σ1 := frX.mono p1.2.1 (fun _ h => h) (fun i h => by omega) (fun _ h => h)
  -- the first counts
  refine lp (fun k => [.ref m, .int (Int32.ofInt (sl : Int)), .int (Int32.ofInt (n : Int)), .int (Int32.ofInt (k : Nat)), pm_U, pm_U]) (fun k τ => XC m σ τ ∧ mSt τ m 0 T.2 ∧ ∀ S, S < k → jv (pm_A τ (m + 14) S) = Int64.ofNat (cw T.2 0 S)) 4096 (fun k hk τ hh next => ?_) (fun τ hh => ?_) 0 (Nat.zero_le _) σ1 ⟨x1, p1.1, fun S hS => absurd hS (by omega)⟩
  · obtain ⟨i1, i2, i3⟩ := hh
    have mt := XC_mS i1 hm
    have vk := vi hk (by omega)
    have wk := vc (show k < 2000000 by omega)
    have go : ∀ v : Nat, cw T.2 0 k = v → XC m σ (pm_sA τ (m + 14) k (.long (Int64.ofNat v))) ∧ mSt (pm_sA τ (m + 14) k (.long (Int64.ofNat v))) m 0 T.2 ∧ ∀ S, S < k + 1 → jv (pm_A (pm_sA τ (m + 14) k (.long (Int64.ofNat v))) (m + 14) S) = Int64.ofNat (cw T.2 0 S) := by
      intro v hv
      refine ⟨XC_tr i1 XC_14, mSt_sA i2 (by omega), fun S hS => ?_⟩
      rw [A_sA]
      by_cases c : S = k
      · rw [if_pos ⟨rfl, c⟩, c, hv]; rfl
      · rw [if_neg (fun q => c q.2)]; exact i3 S (by omega)
    refine w_M_counted_6 ⟨fun q => ?_, fun _ => ?_⟩
    · rw [i32_4096 (by omega)] at q; omega
    have e1 : Int32.ofInt (k : Int) = 1 ↔ k = 1 := by rw [z_eq1 (nrg (by omega))]; omega
    simp only [mt.1, mt.f14, mt.t14, mt.l14, isr_ref, rv_ref, vk, wk, true_and, forall_eq, oi_s, e1]
    refine ⟨fun c => next _ (go 1 (if_pos c)), fun c => next _ (go 0 (if_neg c))⟩
  refine w_M_counted_6 ⟨fun _ => ?_, fun q => absurd (Int32.le_refl _) q⟩
  -- one symbol more
  refine lp (fun i => [.ref m, .int (Int32.ofInt (sl : Int)), .int (Int32.ofInt (n : Int)), .int (Int32.ofInt (i : Nat)), pm_U, pm_U]) (fun i τ => XC m σ τ ∧ mSt τ m 0 T.2 ∧ ∀ S, S < 4096 → jv (pm_A τ (m + 14) S) = Int64.ofNat (cw T.2 i S)) n (fun i hi τ hh next => ?_) (fun τ hh => ?_) 0 (Nat.zero_le _) τ hh
  · refine w_M_counted_23 ⟨fun q => ?_, fun _ => ?_⟩
    · rw [oi_le (by omega)] at q; omega
    -- zeroes
    refine lp (fun k => [.ref m, .int (Int32.ofInt (sl : Int)), .int (Int32.ofInt (n : Int)), .int (Int32.ofInt (i : Nat)), .int (Int32.ofInt (k : Nat)), pm_U]) (fun k τ => XC m σ τ ∧ mSt τ m 0 T.2 ∧ (∀ S, S < 4096 → jv (pm_A τ (m + 14) S) = Int64.ofNat (cw T.2 i S)) ∧ ∀ S, S < k → jv (pm_A τ (m + 15) S) = 0) 4096 (fun k hk τ hh next => ?_) (fun τ hh => ?_) 0 (Nat.zero_le _) τ ⟨hh.1, hh.2.1, hh.2.2, fun S hS => absurd hS (by omega)⟩
    · obtain ⟨i1, i2, i3, i4⟩ := hh
      have mt := XC_mS i1 hm
      have vk := vi hk (by omega)
      have wk := vc (show k < 2000000 by omega)
      refine w_M_counted_28 ⟨fun q => ?_, fun _ => ?_⟩
      · rw [i32_4096 (by omega)] at q; omega
      simp only [mt.1, mt.f15, mt.t15, mt.l15, isr_ref, rv_ref, vk, wk, true_and, forall_eq, oi_s]
      refine next _ ⟨XC_tr i1 XC_15, mSt_sA i2 (by omega), fun S hS => ?_, fun S hS => ?_⟩
      · rw [A_sA, if_neg (by omega)]; exact i3 S hS
      · rw [A_sA]
        by_cases c : S = k
        · rw [if_pos ⟨rfl, c⟩]; rfl
        · rw [if_neg (fun q => c q.2)]; exact i4 S (by omega)
    refine w_M_counted_28 ⟨fun _ => ?_, fun q => absurd (Int32.le_refl _) q⟩
    -- sets
    refine lp (fun k => [.ref m, .int (Int32.ofInt (sl : Int)), .int (Int32.ofInt (n : Int)), .int (Int32.ofInt (i : Nat)), .int (Int32.ofInt (k : Nat)), pm_U]) (fun k τ => XC m σ τ ∧ mSt τ m 0 T.2 ∧ (∀ S, S < 4096 → jv (pm_A τ (m + 14) S) = Int64.ofNat (cw T.2 i S)) ∧ (0 < k ∧ ∀ S', S' < 4096 → jv (pm_A τ (m + 15) S') = Int64.ofNat (sumN (fun S => if S = 0 then 0 else cw T.2 i S * cnt (fun s => decide (aft T.2 S s = S')) 100) k))) 4096 (fun k hk τ hh next => ?_) (fun τ hh => ?_) 1 (by omega) τ ⟨hh.1, hh.2.1, hh.2.2.1, by omega, fun S hS => hh.2.2.2 S hS⟩
    · obtain ⟨i1, i2, i3, k0, i4⟩ := hh
      have vk := vi hk (by omega)
      have wk := vc (show k < 2000000 by omega)
      have ck := cw_le (rs := T.2) hk (show i ≤ 8 by omega)
      refine w_M_counted_40 ⟨fun q => ?_, fun _ => ?_⟩
      · rw [i32_4096 (by omega)] at q; omega
      by_cases cz : cw T.2 i k = 0
      · have mt := XC_mS i1 hm
        refine w_M_counted_45 ⟨fun q => absurd q (by decide), fun _ => ?_⟩
        simp only [mt.1, mt.f14, mt.t14, mt.l14, isr_ref, rv_ref, vk, wk, i3 k hk, true_and, forall_eq, oi_s]
        refine ⟨fun _ => next τ ⟨i1, i2, i3, by omega, fun S' hS' => ?_⟩, fun q => absurd ((L_pos (by omega)).mpr cz) q⟩
        rw [i4 S' hS', sumN_s, if_neg (by omega), cz, Nat.zero_mul, Nat.add_zero]
      -- symbols
      refine lp (fun s => [.ref m, .int (Int32.ofInt (sl : Int)), .int (Int32.ofInt (n : Int)), .int (Int32.ofInt (i : Nat)), .int (Int32.ofInt (k : Nat)), .int (Int32.ofInt (s : Nat))]) (fun s τ => XC m σ τ ∧ mSt τ m 0 T.2 ∧ (∀ S, S < 4096 → jv (pm_A τ (m + 14) S) = Int64.ofNat (cw T.2 i S)) ∧ ∀ S', S' < 4096 → jv (pm_A τ (m + 15) S') = Int64.ofNat (sumN (fun S => if S = 0 then 0 else cw T.2 i S * cnt (fun s => decide (aft T.2 S s = S')) 100) k + cw T.2 i k * cnt (fun s => decide (aft T.2 k s = S')) s)) 100 (fun s hs τ hh next2 => ?_) (fun τ hh => ?_) 0 (Nat.zero_le _) τ ⟨i1, i2, i3, fun S' hS' => i4 S' hS'⟩
      · obtain ⟨i1, i2, i3, i4⟩ := hh
        have mt := XC_mS i1 hm
        refine w_M_counted_45 ⟨fun q => ?_, fun _ => ?_⟩
        · rw [i32_100 (by omega)] at q; omega
        simp only [mt.1, mt.f14, mt.t14, mt.l14, mt.f15, isr_ref, rv_ref, vk, wk, i3 k hk, true_and, forall_eq, oi_s]
        refine ⟨fun q => absurd ((L_pos (by omega)).mp q) cz, fun _ => ?_⟩
        have alt : aft T.2 k s < 4096 := aftN_lt hT.2 12
        refine (s_M_after (sd := 0) mt i2 (by omega) hk hs).use (by omega) ?_
        generalize er : aft T.2 k s = r at alt
        have vr := vi alt (by omega)
        have wr := vc (show r < 2000000 by omega)
        simp only [mt.1, mt.f14, mt.t14, mt.l14, mt.t15, mt.l15, isr_ref, rv_ref, vk, wk, vr, wr, i3 k hk, i4 r alt, true_and, forall_eq, L_add]
        refine next2 _ ⟨XC_tr i1 XC_15, mSt_sA i2 (by omega), fun S hS => ?_, fun S' hS' => ?_⟩
        · rw [A_sA, if_neg (by omega)]; exact i3 S hS
        · rw [A_sA, cnt_s]
          by_cases c : S' = r
          · rw [if_pos ⟨rfl, c⟩, c, decide_eq_true er, if_pos rfl, Nat.mul_add, Nat.mul_one, Nat.add_assoc]; rfl
          · rw [if_neg (fun q => c q.2), decide_eq_false (fun q => c (q.symm.trans er)), i4 S' hS']; rfl
      · obtain ⟨i1, i2, i3, i4⟩ := hh
        refine w_M_counted_45 ⟨fun _ => ?_, fun q => absurd (Int32.le_refl _) q⟩
        rw [oi_s]
        refine next τ ⟨i1, i2, i3, by omega, fun S' hS' => ?_⟩
        rw [i4 S' hS', sumN_s, if_neg (by omega)]
    refine w_M_counted_40 ⟨fun _ => ?_, fun q => absurd (Int32.le_refl _) q⟩
    -- taken over
    refine lp (fun k => [.ref m, .int (Int32.ofInt (sl : Int)), .int (Int32.ofInt (n : Int)), .int (Int32.ofInt (i : Nat)), .int (Int32.ofInt (k : Nat)), pm_U]) (fun k τ => XC m σ τ ∧ mSt τ m 0 T.2 ∧ (∀ S, S < k → jv (pm_A τ (m + 14) S) = Int64.ofNat (cw T.2 (i + 1) S)) ∧ ∀ S', S' < 4096 → jv (pm_A τ (m + 15) S') = Int64.ofNat (cw T.2 (i + 1) S')) 4096 (fun k hk τ hh next => ?_) (fun τ hh => ?_) 0 (Nat.zero_le _) τ ⟨hh.1, hh.2.1, fun S hS => absurd hS (by omega), hh.2.2.2.2⟩
    · obtain ⟨i1, i2, i3, i4⟩ := hh
      have mt := XC_mS i1 hm
      have vk := vi hk (by omega)
      have wk := vc (show k < 2000000 by omega)
      refine w_M_counted_76 ⟨fun q => ?_, fun _ => ?_⟩
      · rw [i32_4096 (by omega)] at q; omega
      simp only [mt.1, mt.f14, mt.t14, mt.l14, mt.f15, mt.t15, mt.l15, isr_ref, rv_ref, vk, wk, i4 k hk, true_and, forall_eq, oi_s]
      refine next _ ⟨XC_tr i1 XC_14, mSt_sA i2 (by omega), fun S hS => ?_, fun S' hS' => ?_⟩
      · rw [A_sA]
        by_cases c : S = k
        · rw [if_pos ⟨rfl, c⟩, c]; rfl
        · rw [if_neg (fun q => c q.2)]; exact i3 S (by omega)
      · rw [A_sA, if_neg (by omega)]; exact i4 S' hS'
    refine w_M_counted_76 ⟨fun _ => ?_, fun q => absurd (Int32.le_refl _) q⟩
    rw [oi_s]
    exact next τ ⟨hh.1, hh.2.1, hh.2.2.1⟩
  refine w_M_counted_23 ⟨fun _ => ?_, fun q => absurd (Int32.le_refl _) q⟩
  obtain ⟨i1, i2, i3⟩ := hh
  have mt := XC_mS i1 hm
  have ht := frX.T i1 h hT id
  refine lp0 (fun k => [.ref m, .int (Int32.ofInt (sl : Int)), pm_U, .long (Int64.ofNat (sumN (fun S => if S &&& T.1 ≠ 0 then cw T.2 n S else 0) k)), pm_U, .int (Int32.ofInt (k : Nat))]) 4096 (fun k hk next => ?_) ?_ 0 (Nat.zero_le _)
  · have vk := vi hk (by omega)
    have wk := vc (show k < 2000000 by omega)
    refine w_M_counted_95 ⟨fun q => ?_, fun _ => ?_⟩
    · rw [i32_4096 (by omega)] at q; omega
    have al := and_lt4 (b := T.1) hk
    simp only [mt.1, mt.f1, mt.t1, mt.l1, mt.f14, mt.t14, mt.l14, isr_ref, rv_ref, vs, ws, vk, wk, ht.1, i3 k hk, i_andN, true_and, forall_eq, oi_s]
    rw [i_0 (by omega)]
    rw [sumN_s] at next
    refine ⟨fun c => ?_, fun c => ?_⟩
    · rw [if_neg (fun q => q c), Nat.add_zero] at next
      rw [Int64.add_zero]; exact next
    · rw [if_pos c] at next
      rw [L_add]; exact next
  · exact w_M_counted_95 ⟨fun _ => ⟨rfl, i1⟩, fun q => absurd (Int32.le_refl _) q⟩
