/-! ===== the model: ending, used ===== -/
theorem s_M_ending {σ : pm_H} {m sl : Nat} {T : Tr} (hm : mS σ m) (h : mTr σ m sl T) (hT : okTr T) (hsl : sl < 4) : cI 4 219 [.ref m, .int (Int32.ofInt (sl : Int))] σ (Int32.ofInt ((itE T.2 T.1 12 : Nat) : Int)) := by
  have hl40 := h.2.2.1
  have vs := vi (show sl < 13 by omega) (by omega)
  have ws := vc (show sl < 2000000 by omega)
  refine w_M_ending_0 ?_
  simp only [hm.1, hm.f1, hm.t1, hm.l1, isr_ref, rv_ref, vs, ws, h.1, true_and, forall_eq]
  refine lp0 (fun n => [.ref m, .int (Int32.ofInt (sl : Int)), .int (Int32.ofInt ((itE T.2 T.1 n : Nat) : Int)), .int (Int32.ofInt (n : Nat)), pm_U, pm_U]) 12 (fun n hn next => ?_) ?_ 0 (Nat.zero_le _)
  · refine w_M_ending_7 ⟨fun q => ?_, fun q => ?_⟩
    · rw [i32_12 (by omega)] at q; omega
    · refine lp0 (fun i => [.ref m, .int (Int32.ofInt (sl : Int)), .int (Int32.ofInt (((T.2.take i).foldl stE (itE T.2 T.1 n) : Nat) : Int)), .int (Int32.ofInt (n : Nat)), .int (Int32.ofInt (i : Nat)), pm_U]) T.2.length (fun i hi next2 => ?_) ?_ 0 (Nat.zero_le _)
      · have hr := List.getElem?_eq_getElem hi
        generalize T.2[i] = r at hr
        have ok := hT.at hr
        have rk := h.2.2.2 i r hr
        have hlt : (T.2.take i).foldl stE (itE T.2 T.1 n) < 4096 := foldE_lt (fun r hr => hT.2 r (mem_take hr)) _ (itE_lt hT.2 hT.1 n)
        have q6 : ¬ Int32.ofInt (T.2.length : Int) ≤ Int32.ofInt (i : Nat) := by rw [oi_le (by omega)]; omega
        have vr := vi (show 40 * sl + i < 520 by omega) (by omega)
        have wr := vc (show 40 * sl + i < 2000000 by omega)
        rw [foldl_take hr] at next2
        generalize (T.2.take i).foldl stE (itE T.2 T.1 n) = S at *
        refine w_M_ending_12 ?_
        simp only [hm.1, hm.f2, hm.t2, hm.l2, hm.f4, hm.t4, hm.l4, isr_ref, rv_ref, vs, ws, h.2.1, q6, not_false_eq_true, false_implies, true_implies, oi_row, vr, wr, rk.2.1, st_has1 hlt ok.2.1, true_and, forall_eq, oi_s]
        refine ⟨fun e => (s_M_enabledMany hm rk (by omega) ok.2.2.2).use (by omega) ⟨fun e2 => ?_, fun e2 => ?_⟩, fun e => ?_⟩
        · rw [cnt_pos] at e2
          rw [stE, e, e2] at next2; exact next2
        · rw [cnt_pos, Bool.not_eq_false] at e2
          rw [stE, e, e2] at next2
          simp only [hm.1, hm.f3, hm.t3, hm.l3, isr_ref, rv_ref, vr, wr, rk.1, st_one ok.1, i_orN, true_and, forall_eq]
          exact next2
        · rw [stE, Bool.not_eq_true _ |>.mp e] at next2; exact next2
      · have q6 : Int32.ofInt (T.2.length : Int) ≤ Int32.ofInt (T.2.length : Int) := Int32.le_refl _
        refine w_M_ending_12 ?_
        simp only [hm.1, hm.f2, hm.t2, hm.l2, isr_ref, rv_ref, vs, ws, h.2.1, q6, not_true_eq_false, false_implies, true_implies, true_and, and_true, forall_eq, oi_s, take_len]
        exact next
  · exact w_M_ending_7 ⟨fun q => ⟨rfl, rfl⟩, fun q => absurd (Int32.le_refl _) q⟩
theorem s_M_isUsed {σ : pm_H} {m k : Nat} {r : Rl} {R E : Nat} (hm : mS σ m) (rk : mRu σ m k r) (hk : k < 520) (ok : okR r) (hR : R < 4096) (hE : E < 4096) : cI 4 220 [.ref m, .int (Int32.ofInt (k : Int)), .int (Int32.ofInt (R : Int)), .int (Int32.ofInt (E : Int))] σ (bI (useful R E r)) := by
  have vr := vi hk (by omega)
  have wr := vc (show k < 2000000 by omega)
  refine w_M_isUsed_0 ?_
  simp only [hm.1, hm.f3, hm.t3, hm.l3, hm.f4, hm.t4, hm.l4, isr_ref, rv_ref, vr, wr, rk.1, rk.2.1, st_has1 hR ok.1, st_has1 hE ok.2.1, true_and, forall_eq]
  refine ⟨fun e => ⟨fun e2 => (s_M_enabledMany hm rk hk ok.2.2.2).use (by omega) ⟨fun e3 => ?_, fun e3 => ?_⟩, fun e2 => ?_⟩, fun e => ?_⟩
  · rw [cnt_pos] at e3
    rw [useful, e, e2, e3]; exact ⟨rfl, rfl, rfl⟩
  · rw [cnt_pos, Bool.not_eq_false] at e3
    rw [useful, e, e2, e3]; exact ⟨rfl, rfl, rfl⟩
  · rw [useful, e, Bool.not_eq_true _ |>.mp e2]; exact ⟨rfl, rfl, trivial⟩
  · rw [useful, Bool.not_eq_true _ |>.mp e]; exact ⟨rfl, rfl, trivial⟩
