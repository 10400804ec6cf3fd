/-! ===== restrict ===== -/
theorem bt_clr : ∀ a : Nat, a < 64 → ∀ j : Nat, j < 64 → bt (bitL a ^^^ (-1)) j = decide (j ≠ a) := by decide +kernel
def clLo (lo : Int64) (s : Nat) : Int64 := if s < 64 then lo &&& (bitL s ^^^ (-1)) else lo
def clHi (hi : Int64) (s : Nat) : Int64 := if s < 64 then hi else hi &&& (bitL (s - 64) ^^^ (-1))
theorem sy_clr {lo hi : Int64} {s t : Nat} (hs : s < 100) (ht : t < 100) : sy (clLo lo s) (clHi hi s) t = (sy lo hi t && decide (t ≠ s)) := by
  unfold sy clLo clHi
  by_cases c : t < 64
  · rw [if_pos c, if_pos c]
    by_cases d : s < 64
    · rw [if_pos d, bt_and, bt_clr s d t c]
    · rw [if_neg d, decide_eq_true (by omega), Bool.and_true]
  · rw [if_neg c, if_neg c]
    by_cases d : s < 64
    · rw [if_pos d, decide_eq_true (by omega), Bool.and_true]
    · rw [if_neg d, bt_and, bt_clr (s - 64) (by omega) (t - 64) (by omega)]
      congr 1
      rw [decide_eq_decide]; omega
theorem okG_clr {hi : Int64} {s : Nat} (h : okG hi) : okG (clHi hi s) := by
  unfold clHi
  by_cases d : s < 64
  · rw [if_pos d]; exact h
  · rw [if_neg d]; exact okG_and h
theorem mRu_lo {σ : pm_H} {m j : Nat} {r : Rl} {lo : Int64} (h : mRu σ m j r) : mRu (pm_sA σ (m + 5) j (.long lo)) m j (rG r lo (rHi r)) ∧ frR m j σ (pm_sA σ (m + 5) j (.long lo)) :=
  ⟨⟨by rw [A_sA, if_neg (by omega)]; exact h.1, by rw [A_sA, if_neg (by omega)]; exact h.2.1, by rw [A_sA, if_pos ⟨rfl, rfl⟩]; rfl, by rw [A_sA, if_neg (by omega)]; exact h.2.2.2.1, by rw [A_sA, if_neg (by omega)]; exact h.2.2.2.2.1, fun k t hk => by rw [A_sA, A_sA, if_neg (by omega), if_neg (by omega)]; exact h.2.2.2.2.2 k t hk⟩, fr_sA ⟨by omega, by omega⟩, fun j' hj' => mEqR_sA (Or.inr (Or.inl ⟨by omega, fun q => hj' q.symm⟩))⟩
theorem mRu_hi {σ : pm_H} {m j : Nat} {r : Rl} {hi : Int64} (h : mRu σ m j r) : mRu (pm_sA σ (m + 6) j (.long hi)) m j (rG r (rLo r) hi) ∧ frR m j σ (pm_sA σ (m + 6) j (.long hi)) :=
  ⟨⟨by rw [A_sA, if_neg (by omega)]; exact h.1, by rw [A_sA, if_neg (by omega)]; exact h.2.1, by rw [A_sA, if_neg (by omega)]; exact h.2.2.1, by rw [A_sA, if_pos ⟨rfl, rfl⟩]; rfl, by rw [A_sA, if_neg (by omega)]; exact h.2.2.2.2.1, fun k t hk => by rw [A_sA, A_sA, if_neg (by omega), if_neg (by omega)]; exact h.2.2.2.2.2 k t hk⟩, fr_sA ⟨by omega, by omega⟩, fun j' hj' => mEqR_sA (Or.inr (Or.inl ⟨by omega, fun q => hj' q.symm⟩))⟩
theorem i32_64 {n : Nat} (hn : n < 100000) : ((64 : Int32) ≤ Int32.ofInt (n : Int)) ↔ 64 ≤ n := by
  have h : ((64 : Int32) ≤ Int32.ofInt (n : Int)) ↔ (64 : Int) ≤ (n : Int) := oi_lle ⟨by omega, by decide⟩
  rw [h]; omega
theorem oi_m64 {n : Nat} (h : 64 ≤ n) : Int32.ofInt (n : Int) - 64 = Int32.ofInt ((n - 64 : Nat) : Int) := by
  rw [show Int32.ofInt (n : Int) - 64 = Int32.ofInt ((n : Int) - 64) from oi_subl _ 64]; congr 1; omega
/-- the symbols before s that lie outside are gone -/
def rsI (m j a b : Nat) (r : Rl) (σ : pm_H) (s : Nat) (x : Int64 × Int64) (τ : pm_H) : Prop := mRu τ m j (rG r x.1 x.2) ∧ frR m j σ τ ∧ okG x.2 ∧ ∀ t, t < 100 → sy x.1 x.2 t = (sy (rLo r) (rHi r) t && (decide (s ≤ t) || decide (a ≤ t ∧ t ≤ b)))
theorem s_M_restrict_29 {σ τ0 : pm_H} {m sl a b : Nat} {T : Tr} {Q : pm_O → pm_H → Prop} (hm : mS σ m) (ht : mTr τ0 m sl T) (hT : okTr T) (hsl : sl < 4) (ha : a < 100) (hb : b < 100) (h0 : frM m (fun s => s = sl) σ τ0)
    (hQ : ∀ τ, frM m (fun s => s = sl) σ τ → mTr τ m sl (T.1, (T.2.map (rKeep a b)).filter (fun r => !rEmp r)) → Q (.inl (some (.int (Int32.ofInt ((T.2.length - ((T.2.map (rKeep a b)).filter (fun r => !rEmp r)).length : Nat) : Int))))) τ) : pm_R 39 240 29 [.ref m, .int (Int32.ofInt (sl : Int)), .int (Int32.ofInt (a : Int)), .int (Int32.ofInt (b : Int)), .int ((0 : Int32)), .int (Int32.ofInt (T.2.length : Int) - 1), pm_U, pm_U] [] τ0 Q := by
  have hl40 := ht.2.2.1
  have key := lpd (d := 39) (m := 240) (k := 29) (Q := Q) (fun i => [.ref m, .int (Int32.ofInt (sl : Int)), .int (Int32.ofInt (a : Int)), .int (Int32.ofInt (b : Int)), .int (Int32.ofInt ((T.2.length - (fmF (rKeep a b) (fun r => !rEmp r) i T.2).length : Nat) : Int)), .int (Int32.ofInt (dn i)), pm_U, pm_U]) (fun i τ => i ≤ T.2.length ∧ mTr τ m sl (T.1, fmF (rKeep a b) (fun r => !rEmp r) i T.2) ∧ frM m (fun s => s = sl) σ τ) ?_ ?_ T.2.length τ0 ⟨Nat.le_refl _, by rw [fmF_n]; exact ht, h0⟩
  · rw [fmF_n, Nat.sub_self] at key
    rw [oi_sub1]; exact key
  · rintro i τ ⟨i1, i2, i3⟩ next
    have mt := i3.mS hm
    have hr := List.getElem?_eq_getElem (show i < T.2.length by omega)
    have ok := hT.at hr
    generalize T.2[i] = r at hr ok
    have lenI := fmF_len (f := rKeep a b) (p := fun r => !rEmp r) (i + 1) T.2
    have okI := fmF_ok (f := rKeep a b) (p := fun r => !rEmp r) (i := i + 1) hT.2 (fun _ h => okR_keep h)
    rw [fmF_s hr] at i2 lenI okI ⊢
    have hAl := take_lenL (show i < T.2.length by omega)
    have htt := fmF_t (f := rKeep a b) (p := fun r => !rEmp r) hr
    rw [htt] at next
    generalize ((T.2.drop (i + 1)).map (rKeep a b)).filter (fun r => !rEmp r) = X at *
    generalize T.2.take i = B at *
    have hg : (B ++ r :: X)[i]? = some r := mid_get hAl
    have rk := i2.2.2.2 i r hg
    have hil : i < (B ++ r :: X).length := (List.getElem?_eq_some_iff.mp hg).1
    have q6 : ¬ Int32.ofInt (i : Int) < 0 := by rw [z_lt0 (nrg (by omega))]; omega
    have hdn : Int32.ofInt (i : Int) + (-1) = Int32.ofInt (dn i) := by rw [← dn_s, dn_m1]
    have vr := vi (show 40 * sl + i < 520 by omega) (by omega)
    have wr := vc (show 40 * sl + i < 2000000 by omega)
    rw [dn_s]
    refine w_M_restrict_29 ⟨fun q => absurd q q6, fun _ => ?_⟩
    rw [oi_row]
    refine lp_up (fun s (_ : Int64 × Int64) => [.ref m, .int (Int32.ofInt (sl : Int)), .int (Int32.ofInt (a : Int)), .int (Int32.ofInt (b : Int)), .int (Int32.ofInt ((T.2.length - (B ++ r :: X).length : Nat) : Int)), .int (Int32.ofInt (i : Int)), .int (Int32.ofInt ((40 * sl + i : Nat) : Int)), .int (Int32.ofInt (s : Nat))]) (fun s x τ' => rsI m (40 * sl + i) a b r τ s x τ') 100 (fun s hs x τ' hh next2 => ?_) (fun x τ' hh => ?_) 0 (Nat.zero_le _) (rLo r, rHi r) τ ⟨rk, frR.rf, ok.2.2.1, fun t ht => by rw [decide_eq_true (Nat.zero_le t), Bool.true_or, Bool.and_true]⟩
    · obtain ⟨j1, j2, j3, j4⟩ := hh
      have mt' := j2.mS mt
      refine w_M_restrict_39 ⟨fun q => ?_, fun _ => gD (s_M_in (v := (s : Int)) (by omega) (by omega) (by omega)) (by omega) (fun c => ?_) (fun c => ?_)⟩
      · rw [i32_100 (by omega)] at q; omega
      · -- outside
        have nxt : rsI m (40 * sl + i) a b r τ (s + 1) (clLo x.1 s, clHi x.2 s) (if s < 64 then pm_sA τ' (m + 5) (40 * sl + i) (.long (clLo x.1 s)) else pm_sA τ' (m + 6) (40 * sl + i) (.long (clHi x.2 s))) := by
          have bits : ∀ t, t < 100 → sy (clLo x.1 s) (clHi x.2 s) t = (sy (rLo r) (rHi r) t && (decide (s + 1 ≤ t) || decide (a ≤ t ∧ t ≤ b))) := fun t ht => by
            rw [sy_clr hs ht, j4 t ht, Bool.and_assoc]
            congr 1
            by_cases e : t = s
            · rw [decide_eq_false (show ¬ t ≠ s by omega), decide_eq_false (show ¬ s + 1 ≤ t by omega), decide_eq_false (show ¬ (a ≤ t ∧ t ≤ b) by omega), Bool.and_false]; rfl
            · rw [decide_eq_true (show t ≠ s from e), Bool.and_true]
              congr 1
              rw [decide_eq_decide]; omega
          by_cases d : s < 64
          · rw [if_pos d]
            have g := mRu_lo (lo := clLo x.1 s) j1
            have eh : clHi x.2 s = x.2 := if_pos d
            refine ⟨?_, j2.tr g.2, okG_clr j3, bits⟩
            show mRu _ m _ (rG r (clLo x.1 s) (clHi x.2 s))
            rw [eh]; exact g.1
          · rw [if_neg d]
            have g := mRu_hi (hi := clHi x.2 s) j1
            have eh : clLo x.1 s = x.1 := if_neg d
            refine ⟨?_, j2.tr g.2, okG_clr j3, bits⟩
            show mRu _ m _ (rG r (clLo x.1 s) (clHi x.2 s))
            rw [eh]; exact g.1
        have n2 := next2 _ _ nxt
        rw [i32_64 (by omega)]
        refine ⟨fun d => ?_, fun d => ?_⟩
        · rw [if_neg (by omega), clHi, if_neg (by omega), bitL] at n2
          simp only [mt'.1, mt'.f6, mt'.t6, mt'.l6, isr_ref, rv_ref, vr, wr, j1.2.2.2.1, oi_m64 d, true_and, forall_eq, oi_s]
          exact n2
        · rw [if_pos (by omega), clLo, if_pos (by omega), bitL] at n2
          simp only [mt'.1, mt'.f5, mt'.t5, mt'.l5, isr_ref, rv_ref, vr, wr, j1.2.2.1, true_and, forall_eq, oi_s]
          exact n2
      · rw [oi_s]
        refine next2 x τ' ⟨j1, j2, j3, fun t ht => ?_⟩
        rw [j4 t ht]
        congr 1
        by_cases e : t = s
        · rw [decide_eq_true (show a ≤ t ∧ t ≤ b by omega), Bool.or_true, Bool.or_true]
        · congr 1
          rw [decide_eq_decide]; omega
    · obtain ⟨j1, j2, j3, j4⟩ := hh
      have mt' := j2.mS mt
      have ek : rG r x.1 x.2 = rKeep a b r := by
        have e := sy_ext (lo := x.1) (hi := x.2) (lo' := rLo r &&& mB (Int32.ofInt (a : Int)) (Int32.ofInt (b : Int))) (hi' := rHi r &&& mB (Int32.ofInt (a : Int) - 64) (Int32.ofInt (b : Int) - 64)) j3 (okG_and ok.2.2.1) (fun t ht => by
          rw [j4 t ht, sy_and, sy_mB (by omega) (by omega) ht, decide_eq_false (show ¬ 100 ≤ t by omega), Bool.false_or]
          congr 1
          rw [decide_eq_decide]; omega)
        unfold rKeep
        rw [← e.1, ← e.2]
      rw [ek] at j1
      have t' := mTr_upd i2 ⟨hT.1, okI⟩ hil j2 j1
      dsimp only at t'
      rw [mid_set hAl] at t'
      have f' : frM m (fun s => s = sl) σ τ' := i3.tr (j2.M (by omega) (by omega))
      have okE := okR_keep (x := a) (y := b) ok
      have okI' : ∀ y, y ∈ B ++ rKeep a b r :: X → okR y := fun y hy => by
        rcases List.mem_append.mp hy with q | q
        · exact okI y (List.mem_append_left _ q)
        · rcases List.mem_cons.mp q with q | q
          · rw [q]; exact okE
          · exact okI y (List.mem_append_right _ (List.mem_cons_of_mem _ q))
      have elen : (B ++ r :: X).length = (B ++ rKeep a b r :: X).length := by simp
      refine w_M_restrict_39 ⟨fun _ => ?_, fun q => absurd (Int32.le_refl _) q⟩
      simp only [mt'.1, mt'.f5, mt'.t5, mt'.l5, isr_ref, rv_ref, vr, wr, j1.2.2.1, lg0, hdn, true_and, forall_eq]
      have keep : ¬ (rLo (rKeep a b r) = 0 ∧ rHi (rKeep a b r) = 0) → pm_R 39 240 29 [.ref m, .int (Int32.ofInt (sl : Int)), .int (Int32.ofInt (a : Int)), .int (Int32.ofInt (b : Int)), .int (Int32.ofInt ((T.2.length - (B ++ r :: X).length : Nat) : Int)), .int (Int32.ofInt (dn i)), pm_U, pm_U] [] τ' Q := by
        intro ne
        have e3 : rEmp (rKeep a b r) = false := decide_eq_false ne
        simp only [e3, Bool.not_false, if_true] at next
        rw [elen]
        exact next τ' ⟨by omega, t', f'⟩
      refine ⟨fun z1 => ?_, fun z1 => keep (fun q => z1 q.1)⟩
      simp only [mt'.1, mt'.f6, mt'.t6, mt'.l6, isr_ref, rv_ref, vr, wr, j1.2.2.2.1, lg0, true_and, forall_eq]
      refine ⟨fun z2 => (s_M_removes mt' t' ⟨hT.1, okI'⟩ (by omega) (by dsimp only; rw [← elen]; exact hil)).use (by omega) (fun τ2 p => ?_), fun z2 => keep (fun q => z2 q.2)⟩
      have e3 : rEmp (rKeep a b r) = true := decide_eq_true ⟨z1, z2⟩
      have e4 : T.2.length - (B ++ r :: X).length + 1 = T.2.length - (B ++ X).length := by
        rw [List.length_append, List.length_cons] at lenI ⊢
        rw [List.length_append]; omega
      rw [oi_s, e4]
      simp only [e3, Bool.not_true, Bool.false_eq_true, if_false] at next
      refine next τ2 ⟨by omega, ?_, f'.tr p.2⟩
      have := p.1
      dsimp only at this
      rw [mid_erase hAl] at this; exact this
  · rintro τ ⟨i1, i2, i3⟩
    rw [fmF_0] at i2 ⊢
    exact w_M_restrict_29 ⟨fun q => hQ τ i3 i2, fun q => absurd (by decide) q⟩
theorem keep_ok {T : Tr} {x y : Int} {p : Rl → Bool} (hT : okTr T) : okTr (T.1, (T.2.map (rKeep x y)).filter p) := ⟨hT.1, fun r h => by
  obtain ⟨r', h1, h2⟩ := List.mem_map.mp (List.mem_filter.mp h).1
  rw [← h2]; exact okR_keep (hT.2 r' h1)⟩
theorem J_restrict {x m N0 L : Nat} {A : AS} (hA : okA A) {z1 z2 z3 : Int} (r1 : rg z1) (r2 : rg z2) (r3 : rg z3) : ∃ k v A', okA A' ∧ (∀ σ, isB σ x N0 A → isL σ x N0 L → pm_C 39 278 [.ref x, .int (Int32.ofInt z1), .int (Int32.ofInt z2), .int (Int32.ofInt z3), .ref L] σ (bOut x N0 1 6 σ k v A' L)) ∧ ∀ σ, isM σ m A → pm_C 39 240 [.ref m, .int (Int32.ofInt z1), .int (Int32.ofInt z2), .int (Int32.ofInt z3)] σ (mOut m σ k v A') := by
  by_cases hv : (0 ≤ z1 ∧ z1 < 4) ∧ (0 ≤ z2 ∧ z2 ≤ z3 ∧ z3 < 100)
  · obtain ⟨sl, rfl⟩ : ∃ n : Nat, z1 = n := ⟨z1.toNat, by omega⟩
    obtain ⟨a, rfl⟩ : ∃ n : Nat, z2 = n := ⟨z2.toNat, by omega⟩
    obtain ⟨b, rfl⟩ : ∃ n : Nat, z3 = n := ⟨z3.toNat, by omega⟩
    have hsl : sl < 4 := by omega
    have hT := hA.1 sl hsl
    generalize eT : aS A sl = T at hT
    have v4 := vi (show sl < 4 from hsl) (by omega)
    have v13 := vi (show sl < 13 by omega) (by omega)
    have ws := vc (show sl < 2000000 by omega)
    have fl : ((T.2.map (rKeep a b)).filter (fun r => !rEmp r)).length ≤ T.2.length := by
      have := List.length_filter_le (fun r => !rEmp r) (T.2.map (rKeep a b))
      rw [List.length_map] at this; exact this
    refine ⟨0, (Int32.ofInt ((T.2.length - ((T.2.map (rKeep a b)).filter (fun r => !rEmp r)).length : Nat) : Int)).toInt64, chg A sl (T.1, (T.2.map (rKeep a b)).filter (fun r => !rEmp r)), okA_chg hA hsl (keep_ok hT), fun σ h hL => ?_, fun σ h => ?_⟩
    · obtain ⟨π, ht⟩ := h.2.1 sl hsl
      rw [eT] at ht
      refine w_L_restrict_0 ⟨h.1.1, w_B_restrict_0 (q_slot r1 (fun _ => q_symbols r2 r3 (fun _ => ?_) (fun n => absurd hv.2 n)) (fun n => absurd hv.1 n))⟩
      simp only [h.1.1, h.1.2.1.1, h.1.2.1.2.2.1, h.1.2.2.1, h.1.2.2.2.1, h.1.2.2.2.2 sl hsl, h.2.2.2.1.1.1, isr_ref, rv_ref, v4, ws, ht.1.1, ht.2.2.1, true_and, forall_eq]
      refine (s_Hi_save h.2.2.2.1 ht hT (by omega) hsl).use (by omega) (fun σ1 p1 => ?_)
      have ht1 := isTr_fr ht p1.2 (fun b hb => by unfold pTr at hb; unfold pHi; omega)
      refine ⟨ht1.1.1, (s_Tr_keepSymbols ht1).use (by omega) (fun σ2 p2 => ?_)⟩
      have g := isB_chg h hsl (by rw [eT]; exact p1.1) p1.2 p2.2 p2.1
      obtain ⟨π2, t2⟩ := p2.1
      refine ⟨t2.1.1, ?_⟩
      rw [t2.2.2.1, oi_dif fl]
      exact L_ok2 hL g.1 g.2
    · have hm := h.1
      have ht := h.2.1 sl hsl
      rw [eT] at ht
      refine w_M_restrict_0 (gD (s_M_isSlot r1) (by omega) (fun n => absurd hv.1 n) (fun _ => gD (s_M_isRange r2 r3) (by omega) (fun n => absurd hv.2 n) (fun _ => w_M_restrict_11 (thr0 hm (fun σ1 m1 f1 y1 => ⟨m1.1, ?_⟩)))))
      have h1 := isM_scr h hA f1 (fun _ q => Or.inl q) (fun _ q => q.elim) (fun _ q => q.elim)
      have ht1 := h1.2.1 sl hsl
      rw [eT] at ht1
      refine (s_M_keeps m1 h1.2.2.1 hA.2.1 ht1 hT hsl).use (by omega) (fun σ2 p2 => ?_)
      have m2 := p2.2.mS m1 (fun f hf => by rw [hf]; decide)
      have ht2 := p2.2.T ht1 hT (by omega)
      have y2 : iv (pm_F σ2 1200 m) = 0 := by rw [p2.2.F (by decide)]; exact y1
      simp only [m2.1, m2.f2, m2.t2, m2.l2, isr_ref, rv_ref, v13, ws, ht2.2.1, true_and, forall_eq]
      refine s_M_restrict_29 m2 ht2 hT hsl (by omega) (by omega) frM.rf (fun τ f3 t3 => ?_)
      have g := isM_chg h hA hsl (frX.mono f1 (fun _ q => q) (fun _ q => q.elim) (fun _ q => q.elim)) (As0 := fun _ => False) (fun _ q => q.elim) (by rw [eT]; exact p2.1) p2.2 f3.X (fun _ q => q.elim) (fun i q => by omega) (fun _ q => q) t3
      exact ⟨⟨_, rfl, fun _ => rfl⟩, by rw [f3.X.F id]; exact y2, g.1, g.2⟩
  · refine ⟨1, 0, A, hA, fun σ h hL => ?_, fun σ h => ?_⟩
    · exact w_L_restrict_0 ⟨h.1.1, w_B_restrict_0 (q_slot r1 (fun s1 => q_symbols r2 r3 (fun s2 => absurd ⟨s1, s2⟩ hv) (fun n => k_L_restrict_11 (L_thr i1_ne h))) (fun n => k_L_restrict_11 (L_thr i1_ne h)))⟩
    · have fin : pm_R 39 240 11 [.ref m, .int (Int32.ofInt z1), .int (Int32.ofInt z2), .int (Int32.ofInt z3), pm_U, pm_U, pm_U, pm_U] [.int ((1 : Int32)), .ref m] σ (mOut m σ 1 0 A) := w_M_restrict_11 (thrK h.1 i1_ne (fun σ1 m1 f1 y1 => mOut_e i1_ne h hA f1 y1))
      exact w_M_restrict_0 (gD (s_M_isSlot r1) (by omega) (fun n => fin) (fun s1 => gD (s_M_isRange r2 r3) (by omega) (fun n => fin) (fun s2 => absurd ⟨s1, s2⟩ hv)))
