/-! ===== sets of states ===== -/
theorem sh_12 : ∀ s : Nat, s < 12 → ((Int32.ofInt (s : Int)) &&& 31 = nI s ∧ ((nI s).toBitVec.smod 32).toNat = s ∧ (1 : Int32) <<< (nI s) = Int32.ofInt ((2 ^ s : Nat) : Int)) := by decide +kernel
theorem oi_nI (n : Nat) : Int32.ofInt (n : Int) = nI n := (oi_nat n).symm
theorem st_one {s : Nat} (hs : s < 12) : (1 : Int32) <<< (Int32.ofInt (s : Int) &&& 31) = Int32.ofInt ((2 ^ s : Nat) : Int) := by
  rw [(sh_12 s hs).1, (sh_12 s hs).2.2]
theorem st_has {S s : Nat} (hS : S < 2147483648) (hs : s < 12) : ((Int32.ofInt (S : Int)) >>> (Int32.ofInt (s : Int) &&& 31)) &&& 1 = bI (S.testBit s) := by
  rw [(sh_12 s hs).1, oi_nI, pk_shrN (by omega) _ s (sh_12 s hs).2.1, pk_andN (by have := Nat.div_le_self S (2 ^ s); omega) 1 (by decide), Nat.testBit_eq_decide_div_mod_eq]
  have : S / 2 ^ s % 2 ^ 1 = 0 ∨ S / 2 ^ s % 2 ^ 1 = 1 := by omega
  rcases this with q | q
  · rw [q, decide_eq_false (by omega)]; rfl
  · rw [q, decide_eq_true (by omega)]; rfl
theorem i_orN (a b : Nat) : Int32.ofInt (a : Int) ||| Int32.ofInt (b : Int) = Int32.ofInt ((a ||| b : Nat) : Int) := by
  rw [← oi_nat, ← oi_nat, ← oi_nat, ← Int32.toBitVec_inj]
  refine BitVec.eq_of_getLsbD_eq (fun i hi => ?_)
  simp [Int32.toBitVec_or, Int32.toBitVec_ofNat', BitVec.getLsbD_ofNat, hi]
theorem i_andN (a b : Nat) : Int32.ofInt (a : Int) &&& Int32.ofInt (b : Int) = Int32.ofInt ((a &&& b : Nat) : Int) := by
  rw [← oi_nat, ← oi_nat, ← oi_nat, ← Int32.toBitVec_inj]
  refine BitVec.eq_of_getLsbD_eq (fun i hi => ?_)
  simp [Int32.toBitVec_and, Int32.toBitVec_ofNat', BitVec.getLsbD_ofNat, hi]
theorem or_lt {a b : Nat} (ha : a < 4096) (hb : b < 4096) : a ||| b < 4096 := Nat.or_lt_two_pow (n := 12) ha hb
theorem two_lt {s : Nat} (hs : s < 12) : 2 ^ s < 4096 := Nat.pow_lt_pow_right (by decide) hs
theorem s_hasS {σ : pm_H} {S s : Nat} (hS : S < 4096) (hs : s < 12) : cI 0 160 [.int (Int32.ofInt (S : Int)), .int (Int32.ofInt (s : Int))] σ (bI (S.testBit s)) := by
  refine w_B_hasState_0 ?_
  rw [st_has (by omega) hs]
  refine ⟨fun e => ⟨rfl, ?_, rfl⟩, fun e => ⟨rfl, ?_, rfl⟩⟩
  · rw [bI_0.mp e]; rfl
  · rw [bI_1.mp e]; rfl
theorem s_Tr_hasFinal {σ : pm_H} {a s : Nat} {T : Tr} {π : Nat → Nat} (h : isTr σ a T π) (hT : T.1 < 4096) (hs : s < 12) : cI 1 100 [.ref a, .int (Int32.ofInt (s : Int))] σ (bI (T.1.testBit s)) := by
  refine w_Tr_hasFinal_0 ?_
  simp only [h.1.1, h.2.2.2.1, iv_int, true_and, forall_eq]
  exact (s_hasS hT hs).use (Nat.le_refl _) ⟨bI_and _, rfl, rfl⟩
/-- a state is made final or not -/
def mkF (S s : Nat) (b : Bool) : Nat := if b then S ||| 2 ^ s else S &&& (4095 - 2 ^ s)
theorem sh_not : ∀ s : Nat, s < 12 → ∀ S : Nat, S < 4096 → (Int32.ofInt (S : Int)) &&& (Int32.ofInt ((2 ^ s : Nat) : Int) ^^^ (-1)) = Int32.ofInt ((S &&& (4095 - 2 ^ s) : Nat) : Int) := by
  have h1 : ∀ s : Nat, s < 12 → ((Int32.ofInt ((2 ^ s : Nat) : Int) ^^^ (-1)) &&& 4095 = Int32.ofInt ((4095 - 2 ^ s : Nat) : Int)) := by decide +kernel
  intro s hs S hS
  have h2 : Int32.ofInt (S : Int) = Int32.ofInt (S : Int) &&& 4095 := by
    rw [oi_lit 4095, show ((OfNat.ofNat 4095 : Int)) = ((4095 : Nat) : Int) from rfl, i_andN]
    have : S &&& 4095 = S % 2 ^ 12 := Nat.and_two_pow_sub_one_eq_mod S 12
    rw [this, Nat.mod_eq_of_lt hS]
  rw [h2, Int32.and_assoc, Int32.and_comm 4095, h1 s hs, i_andN]
theorem mkF_lt {S s : Nat} {b : Bool} (hS : S < 4096) (hs : s < 12) : mkF S s b < 4096 := by
  unfold mkF
  split
  · exact or_lt hS (two_lt hs)
  · exact Nat.lt_of_le_of_lt Nat.and_le_left hS
theorem isTr_fin {σ : pm_H} {a : Nat} {T : Tr} {π : Nat → Nat} (h : isTr σ a T π) (S : Nat) : isTr (pm_sF σ 902 a (.int (Int32.ofInt (S : Int)))) a (S, T.2) π := by
  obtain ⟨⟨h1, h2, h3, h4, h5⟩, ⟨g1, g2⟩, e1, e2, e3, e4⟩ := h
  have hf : fr (fun b => b = a) σ (pm_sF σ 902 a (.int (Int32.ofInt (S : Int)))) := fr_sF (P := fun b => b = a) rfl
  refine ⟨⟨h1, ?_, h3, h4, fun k hk => ruS_fr (h5 k hk) hf (by omega)⟩, ⟨fun k hk => ⟨(g1 k hk).1, (g1 k hk).2⟩, g2⟩, ?_, ?_, e3, fun k r hr => isRu_fr (e4 k r hr) hf (fun c hc q => by have := hc.1; omega)⟩
  · rw [F_sF, if_neg (by omega), h2]
  · rw [F_sF, if_neg (by omega), e1]
  · rw [F_sF, if_pos ⟨rfl, rfl⟩]; rfl
theorem s_Tr_markFinal {σ : pm_H} {a s : Nat} {T : Tr} {π : Nat → Nat} {b : Bool} (h : isTr σ a T π) (hT : T.1 < 4096) (hs : s < 12) : cV 0 101 [.ref a, .int (Int32.ofInt (s : Int)), .int (bI b)] σ (fun σ' => isTr σ' a (mkF T.1 s b, T.2) π ∧ fr (fun c => c = a) σ σ') := by
  refine w_Tr_markFinal_0 ?_
  simp only [h.1.1, h.2.2.2.1, iv_int, true_and, forall_eq, st_one hs, sh_not s hs T.1 hT, i_orN]
  cases b
  · exact ⟨fun _ => ⟨isTr_fin h _, fr_sF (P := fun c => c = a) rfl⟩, fun q => absurd rfl q⟩
  · exact ⟨fun q => absurd q (by decide), fun _ => ⟨isTr_fin h _, fr_sF (P := fun c => c = a) rfl⟩⟩
/-! folds over rules -/
theorem foldl_take {α β : Type} {f : β → α → β} {l : List α} {i : Nat} {x : α} {b : β} (h : l[i]? = some x) : (l.take (i + 1)).foldl f b = f ((l.take i).foldl f b) x := by
  rw [List.take_add_one, h, Option.toList_some, List.foldl_append]
  rfl
theorem take_len {α : Type} {l : List α} : l.take l.length = l := List.take_length
/-- in-place rounds of what is reached -/
def stR (S : Nat) (r : Rl) : Nat := if S.testBit (rF r) && ever r then S ||| 2 ^ (rT r) else S
def itR (rs : List Rl) : Nat → Nat
  | 0 => 1
  | n + 1 => rs.foldl stR (itR rs n)
theorem stR_lt {S : Nat} {r : Rl} (hS : S < 4096) (hr : okR r) : stR S r < 4096 := by
  unfold stR
  split
  · exact or_lt hS (two_lt hr.2.1)
  · exact hS
theorem foldR_lt {rs : List Rl} (hr : ∀ r, r ∈ rs → okR r) : ∀ S, S < 4096 → rs.foldl stR S < 4096 := by
  induction rs with
  | nil => exact fun S h => h
  | cons r rs ih => exact fun S h => ih (fun x hx => hr x (List.mem_cons_of_mem _ hx)) _ (stR_lt h (hr r List.mem_cons_self))
theorem itR_lt {rs : List Rl} (hr : ∀ r, r ∈ rs → okR r) (n : Nat) : itR rs n < 4096 := by
  induction n with
  | zero => exact (by decide : (1 : Nat) < 4096)
  | succ n ih => exact foldR_lt hr _ ih
theorem mem_take {α : Type} {l : List α} {i : Nat} {x : α} (h : x ∈ l.take i) : x ∈ l := List.mem_of_mem_take h
theorem s_reached_in {σ : pm_H} {a n : Nat} {T : Tr} {π : Nat → Nat} {Q : pm_O → pm_H → Prop} (h : isTr σ a T π) (hT : okTr T) (hn : n < 12) (hq : pm_R 3 102 4 [.ref a, .int (Int32.ofInt (itR T.2 n : Nat)), .int (Int32.ofInt ((n + 1 : Nat) : Int)), pm_U, pm_U] [] σ Q) {m : Nat} (hm : n = m + 1) : pm_R 3 102 9 [.ref a, .int (Int32.ofInt (itR T.2 m : Nat)), .int (Int32.ofInt (n : Nat)), .int 0, pm_U] [] σ Q := by
  subst hm
  have hl := h.2.2.2.2.1
  refine lp0 (fun i => [.ref a, .int (Int32.ofInt (((T.2.take i).foldl stR (itR T.2 m) : Nat) : Int)), .int (Int32.ofInt ((m + 1 : Nat) : Int)), .int (Int32.ofInt (i : Nat)), pm_U]) T.2.length (fun i hi next => ?_) ?_ 0 (Nat.zero_le _)
  · have hr := List.getElem?_eq_getElem hi
    have ok := okTr.at hT hr
    obtain ⟨qi, qc, qa, qr⟩ := h.at hr
    have hlt : (T.2.take i).foldl stR (itR T.2 m) < 4096 := foldR_lt (fun r hr => hT.2 r (mem_take hr)) _ (itR_lt hT.2 m)
    have q6 : ¬ Int32.ofInt (T.2.length) ≤ Int32.ofInt (i : Nat) := by rw [oi_le (by omega)]; omega
    rw [foldl_take hr] at next
    generalize (T.2.take i).foldl stR (itR T.2 m) = S at *
    refine w_Tr_reachedStates_9 ?_
    simp only [h.1.1, h.1.2.1, h.1.2.2.1, h.1.2.2.2.1, h.2.2.1, iv_int, q6, not_false_eq_true, false_implies, true_implies, true_and, forall_eq, isr_ref, rv_ref, qi, qc, qa, qr.1.1, qr.2.1]
    refine (s_hasS hlt ok.1).use (by omega) ⟨fun e => ?_, fun e => ?_⟩
    · rw [oi_s]
      unfold stR at next
      rw [bI_0.mp e] at next
      exact next
    · refine ⟨qr.1.1, (s_Ru_isEverEnabled qr ok.2.2.1 ok.ts).use (by omega) ⟨fun e2 => ?_, fun e2 => ?_⟩⟩
      · rw [oi_s]
        unfold stR at next
        rw [bI_1.mp e, bI_0.mp e2] at next
        exact next
      · unfold stR at next
        rw [bI_1.mp e, bI_1.mp e2] at next
        simp only [qr.1.1, qr.2.2.1, iv_int, true_and, forall_eq, st_one ok.2.1, i_orN, oi_s]
        exact next
  · have q6 : Int32.ofInt (T.2.length) ≤ Int32.ofInt (T.2.length) := Int32.le_refl _
    refine w_Tr_reachedStates_9 ?_
    simp only [h.1.1, h.2.2.1, iv_int, q6, not_true_eq_false, false_implies, true_implies, true_and, and_true, forall_eq, oi_s, take_len]
    exact hq
