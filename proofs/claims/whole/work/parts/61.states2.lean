/-! ===== what is reached, and from where ===== -/
theorem i32_lt12 {n : Nat} (hn : n < 100000) : ((12 : Int32) ≤ Int32.ofInt (n : Int)) ↔ 12 ≤ n := by
  rw [oi_lle ⟨by omega, by decide⟩]; omega
theorem s_Tr_reached {σ : pm_H} {a : Nat} {T : Tr} {π : Nat → Nat} (h : isTr σ a T π) (hT : okTr T) : cI 3 102 [.ref a] σ (Int32.ofInt (itR T.2 11 : Nat)) := by
  refine w_Tr_reachedStates_0 ?_
  refine lp0 (fun i => [.ref a, .int (Int32.ofInt (itR T.2 i : Nat)), .int (Int32.ofInt ((i + 1 : Nat) : Int)), pm_U, pm_U]) 11 (fun i hi next => ?_) ?_ 0 (Nat.zero_le _)
  · refine w_Tr_reachedStates_4 ⟨fun q => ?_, fun q => ?_⟩
    · rw [i32_lt12 (by omega)] at q; omega
    · exact s_reached_in h hT (n := i + 1) (by omega) next rfl
  · refine w_Tr_reachedStates_4 ⟨fun q => ⟨rfl, rfl⟩, fun q => ?_⟩
    rw [i32_lt12 (by omega)] at q; omega
def stW (S : Nat) (X : Nat) (r : Rl) : Nat := if S.testBit (rT r) && ever r then X ||| 2 ^ (rF r) else X
def wsrc (rs : List Rl) (S : Nat) : Nat := rs.foldl (stW S) S
theorem stW_lt {S X : Nat} {r : Rl} (hS : X < 4096) (hr : okR r) : stW S X r < 4096 := by
  unfold stW
  split
  · exact or_lt hS (two_lt hr.1)
  · exact hS
theorem foldW_lt {rs : List Rl} {S : Nat} (hr : ∀ r, r ∈ rs → okR r) : ∀ X, X < 4096 → rs.foldl (stW S) X < 4096 := by
  induction rs with
  | nil => exact fun S h => h
  | cons r rs ih => exact fun S h => ih (fun x hx => hr x (List.mem_cons_of_mem _ hx)) _ (stW_lt h (hr r List.mem_cons_self))
theorem s_Tr_withSources {σ : pm_H} {a S : Nat} {T : Tr} {π : Nat → Nat} (h : isTr σ a T π) (hT : okTr T) (hS : S < 4096) : cI 3 104 [.ref a, .int (Int32.ofInt (S : Int))] σ (Int32.ofInt (wsrc T.2 S : Nat)) := by
  have hl := h.2.2.2.2.1
  refine w_Tr_withSources_0 ?_
  refine lp0 (fun i => [.ref a, .int (Int32.ofInt (S : Int)), .int (Int32.ofInt (((T.2.take i).foldl (stW S) S : Nat) : Int)), .int (Int32.ofInt (i : Nat)), pm_U]) T.2.length (fun i hi next => ?_) ?_ 0 (Nat.zero_le _)
  · have hr := List.getElem?_eq_getElem hi
    have ok := okTr.at hT hr
    obtain ⟨qi, qc, qa, qr⟩ := h.at hr
    have q6 : ¬ Int32.ofInt (T.2.length) ≤ Int32.ofInt (i : Nat) := by rw [oi_le (by omega)]; omega
    rw [foldl_take hr] at next
    generalize (T.2.take i).foldl (stW S) S = X at *
    refine w_Tr_withSources_4 ?_
    simp only [h.1.1, h.1.2.1, h.1.2.2.1, h.1.2.2.2.1, h.2.2.1, iv_int, q6, not_false_eq_true, false_implies, true_implies, true_and, forall_eq, isr_ref, rv_ref, qi, qc, qa, qr.1.1, qr.2.2.1]
    refine (s_hasS hS ok.2.1).use (by omega) ⟨fun e => ?_, fun e => ?_⟩
    · rw [oi_s]
      unfold stW at next
      rw [bI_0.mp e] at next
      exact next
    · refine ⟨qr.1.1, (s_Ru_isEverEnabled qr ok.2.2.1 ok.ts).use (by omega) ⟨fun e2 => ?_, fun e2 => ?_⟩⟩
      · rw [oi_s]
        unfold stW at next
        rw [bI_1.mp e, bI_0.mp e2] at next
        exact next
      · unfold stW at next
        rw [bI_1.mp e, bI_1.mp e2] at next
        simp only [qr.1.1, qr.2.1, iv_int, true_and, forall_eq, st_one ok.1, i_orN, oi_s]
        exact next
  · have q6 : Int32.ofInt (T.2.length) ≤ Int32.ofInt (T.2.length) := Int32.le_refl _
    refine w_Tr_withSources_4 ?_
    simp only [h.1.1, h.2.2.1, iv_int, q6, not_true_eq_false, false_implies, true_implies, true_and, and_true, forall_eq, take_len]
    rfl
def itW (rs : List Rl) (S : Nat) : Nat → Nat
  | 0 => S
  | n + 1 => wsrc rs (itW rs S n)
theorem itW_lt {rs : List Rl} {S : Nat} (hr : ∀ r, r ∈ rs → okR r) (hS : S < 4096) (n : Nat) : itW rs S n < 4096 := by
  induction n with
  | zero => exact hS
  | succ n ih => exact foldW_lt hr _ ih
theorem s_Tr_hopeful {σ : pm_H} {a : Nat} {T : Tr} {π : Nat → Nat} (h : isTr σ a T π) (hT : okTr T) : cI 4 103 [.ref a] σ (Int32.ofInt (itW T.2 T.1 11 : Nat)) := by
  refine w_Tr_hopefulStates_0 ?_
  simp only [h.1.1, h.2.2.2.1, iv_int, true_and, forall_eq]
  refine lp0 (fun i => [.ref a, .int (Int32.ofInt (itW T.2 T.1 i : Nat)), .int (Int32.ofInt ((i + 1 : Nat) : Int))]) 11 (fun i hi next => ?_) ?_ 0 (Nat.zero_le _)
  · refine w_Tr_hopefulStates_5 ⟨fun q => ?_, fun q => ⟨h.1.1, ?_⟩⟩
    · rw [i32_lt12 (by omega)] at q; omega
    · refine (s_Tr_withSources h hT (itW_lt hT.2 hT.1 i)).use (by omega) ?_
      rw [oi_s]
      exact next
  · refine w_Tr_hopefulStates_5 ⟨fun q => ⟨rfl, rfl⟩, fun q => ?_⟩
    rw [i32_lt12 (by omega)] at q; omega
def useful (R H : Nat) (r : Rl) : Bool := R.testBit (rF r) && (H.testBit (rT r) && ever r)
theorem s_Tr_isUseful {σ : pm_H} {ρ R H : Nat} {r : Rl} (h : isRu σ ρ r) (ok : okR r) (hR : R < 4096) (hH : H < 4096) : cI 3 107 [.ref ρ, .int (Int32.ofInt (R : Int)), .int (Int32.ofInt (H : Int))] σ (bI (useful R H r)) := by
  refine w_Tr_isUseful_0 ?_
  unfold useful
  simp only [h.1.1, h.2.1, h.2.2.1, iv_int, true_and, forall_eq]
  refine (s_hasS hR ok.1).use (by omega) ⟨fun e => ?_, fun e => ?_⟩
  · rw [bI_0.mp e]; exact ⟨rfl, rfl, rfl⟩
  · rw [bI_1.mp e]
    simp only [h.1.1, h.2.1, h.2.2.1, iv_int, true_and, forall_eq]
    refine (s_hasS hH ok.2.1).use (by omega) ⟨fun e => ?_, fun e => ?_⟩
    · rw [bI_0.mp e]; exact ⟨rfl, rfl, rfl⟩
    · rw [bI_1.mp e]
      refine ⟨h.1.1, (s_Ru_isEverEnabled h ok.2.2.1 ok.ts).use (by omega) ⟨fun e => ?_, fun e => ?_⟩⟩
      · rw [bI_0.mp e]; exact ⟨rfl, rfl, rfl⟩
      · rw [bI_1.mp e]; exact ⟨rfl, rfl, rfl⟩
