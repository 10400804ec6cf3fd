/-! ===== domainShare: the quotient is a number ===== -/
def gd (X : FP.Core.Datum) : Prop := match X with
  | .nan => False
  | .inf _ => True
  | .fin _ c q => c < 9007199254740992 ∧ q ≤ 971
theorem b64_t : FP.Core.Fmt.tails FP.Core.b64 = 4503599627370496 := by decide
theorem b64_e : FP.Core.Fmt.exps FP.Core.b64 = 2048 := by decide
theorem b64_q : FP.Core.Fmt.qmax FP.Core.b64 = 971 := by decide
theorem b64_m : FP.Core.Fmt.qmin FP.Core.b64 = -1074 := by decide
theorem b64_p : (2 : Nat) ^ FP.Core.b64.p = 9007199254740992 := by decide
theorem gd_settle (s : Bool) (c : Nat) (q : Int) : gd (FP.Core.settle FP.Core.b64 s c q) := by
  unfold FP.Core.settle FP.Core.bound
  rw [b64_p, b64_q, b64_t]
  by_cases h1 : c < 9007199254740992
  · rw [if_pos h1]
    by_cases h2 : q ≤ 971
    · rw [if_pos h2]; exact ⟨h1, h2⟩
    · rw [if_neg h2]; trivial
  · rw [if_neg h1]
    by_cases h2 : q + 1 ≤ 971
    · rw [if_pos h2]; exact ⟨by decide, h2⟩
    · rw [if_neg h2]; trivial
theorem gd_rr (s : Bool) (A B : Nat) (e : Int) : gd (FP.Core.roundRatio FP.Core.b64 s A B e) := by
  unfold FP.Core.roundRatio FP.Core.roundAt
  by_cases h : A = 0
  · rw [if_pos h, b64_m]; exact ⟨by decide, by decide⟩
  · rw [if_neg h]; exact gd_settle _ _ _
def isF (X : FP.Core.Datum) : Bool := match X with
  | .fin _ d _ => d != 0
  | _ => false
theorem gd_quot {X Y : FP.Core.Datum} (hX : X ≠ .nan) (hY : isF Y = true) : gd (FP.Core.quotient FP.Core.b64 X Y) := by
  cases Y with
  | nan => cases hY
  | inf t => cases hY
  | fin t d r =>
    have d0 : d ≠ 0 := by
      have : (d != 0) = true := hY
      simpa using this
    cases X with
    | nan => exact absurd rfl hX
    | inf s => trivial
    | fin s c q =>
      show gd (if d = 0 then _ else _)
      rw [if_neg d0]; exact gd_rr _ _ _ _
theorem enc_gd {X : FP.Core.Datum} (h : gd X) : FP.Core.encode FP.Core.b64 X < 18446744073709551616 ∧ FP.Core.encode FP.Core.b64 X % 9223372036854775808 ≤ 9218868437227405312 := by
  cases X with
  | nan => exact h.elim
  | inf s => cases s <;> exact ⟨by decide, by decide⟩
  | fin s c q =>
    obtain ⟨h1, h2⟩ := h
    show (if c < FP.Core.Fmt.tails FP.Core.b64 then FP.Core.assemble FP.Core.b64 s 0 c else FP.Core.assemble FP.Core.b64 s ((q - FP.Core.Fmt.qmin FP.Core.b64).toNat + 1) (c - FP.Core.Fmt.tails FP.Core.b64)) < _ ∧ (if c < FP.Core.Fmt.tails FP.Core.b64 then FP.Core.assemble FP.Core.b64 s 0 c else FP.Core.assemble FP.Core.b64 s ((q - FP.Core.Fmt.qmin FP.Core.b64).toNat + 1) (c - FP.Core.Fmt.tails FP.Core.b64)) % _ ≤ _
    unfold FP.Core.assemble
    rw [b64_t, b64_e, b64_m]
    have hs : s.toNat = 0 ∨ s.toNat = 1 := by cases s <;> simp
    generalize s.toNat = b at hs
    by_cases c1 : c < 4503599627370496
    · rw [if_pos c1]
      rcases hs with e | e <;> subst e <;> omega
    · rw [if_neg c1]
      generalize hk : (q - -1074).toNat = k
      have hk' : k ≤ 2045 := by omega
      rcases hs with e | e <;> subst e <;> omega
theorem dec_nn {n : Nat} (h : n % 9223372036854775808 ≤ 9218868437227405312) : FP.Core.decode FP.Core.b64 n ≠ .nan := by
  unfold FP.Core.decode FP.Core.fieldE FP.Core.fieldT
  rw [b64_t, b64_e]
  by_cases c1 : n / 4503599627370496 % 2048 = 2048 - 1
  · rw [if_pos c1]
    by_cases c2 : n % 4503599627370496 = 0
    · rw [if_pos c2]; intro q; cases q
    · omega
  · rw [if_neg c1]
    by_cases c2 : n / 4503599627370496 % 2048 = 0
    · rw [if_pos c2]; intro q; cases q
    · rw [if_neg c2]; intro q; cases q
theorem enc_of {X : FP.Core.Datum} (h : gd X) : (UInt64.ofNat (FP.Core.encode FP.Core.b64 X)).toNat = FP.Core.encode FP.Core.b64 X := UInt64.toNat_ofNat_of_lt' (enc_gd h).1
theorem l2d_nn (c : Int64) : FP.Core.decode FP.Core.b64 (FP.l2d c).toNat ≠ .nan := by
  have h : gd (FP.Core.round FP.Core.b64 (FP.Core.ofInt c.toInt)) := gd_rr _ _ _ _
  refine dec_nn ?_
  show (UInt64.ofNat (FP.Core.encode FP.Core.b64 (FP.Core.round FP.Core.b64 (FP.Core.ofInt c.toInt)))).toNat % _ ≤ _
  rw [enc_of h]; exact (enc_gd h).2
theorem l2d_100 : ∀ n : Nat, n < 9 → isF (FP.Core.decode FP.Core.b64 (FP.l2d (Int64.ofNat (100 ^ n))).toNat) = true := by decide +kernel
theorem s_vf (c : Int64) {n : Nat} (hn : n < 9) : vf_n64 (FP.ddiv (FP.l2d c) (FP.l2d (Int64.ofNat (100 ^ n)))) := by
  have h := gd_quot (l2d_nn c) (l2d_100 n hn)
  unfold vf_n64
  rw [UInt64.le_iff_toNat_le, UInt64.toNat_and]
  have e1 : (0x7fffffffffffffff : UInt64).toNat = 2 ^ 63 - 1 := by decide
  have e2 : (0x7ff0000000000000 : UInt64).toNat = 9218868437227405312 := by decide
  rw [e1, e2, Nat.and_two_pow_sub_one_eq_mod]
  show (UInt64.ofNat (FP.Core.encode FP.Core.b64 (FP.Core.quotient FP.Core.b64 (FP.Core.decode FP.Core.b64 (FP.l2d c).toNat) (FP.Core.decode FP.Core.b64 (FP.l2d (Int64.ofNat (100 ^ n))).toNat)))).toNat % 2 ^ 63 ≤ _
  rw [enc_of h]; exact (enc_gd h).2
/-- the cell of the answers that are doubles -/
def isLD (σ : pm_H) (x N0 L : Nat) : Prop := L < N0 ∧ ¬ pB x L ∧ pm_t σ L = 105 ∧ pm_l σ L = 1
def bOutD (x N0 c w : Nat) (σ : pm_H) (k : Int32) (v : UInt64) (A' : AS) (L : Nat) (o : pm_O) (σ' : pm_H) : Prop := o = .inl (some (.int k)) ∧ isB σ' x N0 A' ∧ (k = 0 → dv (pm_A σ' L 0) = v) ∧ ∃ τ, fB x N0 c w σ τ ∧ (σ' = τ ∨ ∃ u : UInt64, σ' = pm_sA τ L 0 (.double u))
def mOutD (m : Nat) (σ : pm_H) (k : Int32) (v : UInt64) (A' : AS) (o : pm_O) (σ' : pm_H) : Prop := (∃ r : UInt64, o = .inl (some (.double r)) ∧ (k = 0 → r = v)) ∧ mCo m σ k A' σ'
theorem isB_LD {σ : pm_H} {x N0 L : Nat} {A : AS} {v : Value} (h : isB σ x N0 A) (hL : isLD σ x N0 L) : isB (pm_sA σ L 0 v) x N0 A := by
  have hn := hL.2.1
  unfold pB at hn
  refine isB_mk h (P := fun b => b = L) (fr_sA rfl) ⟨by omega, by omega⟩ (fun i hi => Or.inl ⟨fun b hb => ?_, rfl⟩) (Or.inl (fun b hb => ?_)) (Or.inl ⟨fun b hb => ?_, rfl⟩) (Or.inl ⟨fun b hb => ?_, rfl⟩) (Or.inl ⟨fun b hb => ?_, rfl⟩) (Or.inl ⟨fun b hb => ?_, rfl⟩) (Or.inl (fun b hb => ?_)) (Or.inl (fun b hb => ?_)) (Or.inl (by omega)) (Or.inl (fun b hb => ?_))
  · unfold pTr at hb; omega
  · unfold pTr at hb; omega
  · unfold pHi at hb; omega
  · unfold pRe at hb; omega
  · unfold pWo at hb; omega
  · unfold pWo at hb; omega
  · unfold pO at hb; omega
  · unfold pDo at hb; omega
  · unfold pCo at hb; omega
theorem fB_LD {σ σ' : pm_H} {x N0 c w L : Nat} (h : fB x N0 c w σ σ') (hL : isLD σ x N0 L) : isLD σ' x N0 L := by
  refine ⟨hL.1, hL.2.1, ?_, ?_⟩
  · rw [(h.1 L hL.1 hL.2.1).1]; exact hL.2.2.1
  · rw [(h.1 L hL.1 hL.2.1).2.1]; exact hL.2.2.2
theorem kD_B {K : UInt64 → pm_H → Prop} {X : Nat → pm_H → Prop} {r : UInt64} {σ : pm_H} (h : K r σ) : pm_kD K X (.inl (some (.double r))) σ := h
theorem L_okD {σ σ1 : pm_H} {x N0 c w L : Nat} {A : AS} {v : UInt64} (hL : isLD σ x N0 L) (h : isB σ1 x N0 A) (f : fB x N0 c w σ σ1) : (pm_t σ1 L = 105 ∧ vp_in ((0 : Int32)) (pm_l σ1 L)) ∧ ∀ σ2, σ2 = pm_sA σ1 L ((0 : Int32)).toNatClampNeg (.double v) → bOutD x N0 c w σ 0 v A L (.inl (some (.int ((0 : Int32))))) σ2 := by
  have g := fB_LD f hL
  refine ⟨⟨g.2.2.1, by rw [g.2.2.2]; exact v01⟩, fun σ2 e => ?_⟩
  rw [c00] at e
  refine ⟨rfl, by rw [e]; exact isB_LD h g, fun _ => ?_, σ1, f, Or.inr ⟨_, e⟩⟩
  rw [e, A_sA, if_pos ⟨rfl, rfl⟩]; rfl
theorem L_okD2 {σ σ1 : pm_H} {x N0 c w L : Nat} {A : AS} {v : UInt64} (hL : isLD σ x N0 L) (h : isB σ1 x N0 A) (f : fB x N0 c w σ σ1) : (pm_t σ1 L = 105 ∧ vp_in ((0 : Int32)) (pm_l σ1 L)) ∧ bOutD x N0 c w σ 0 v A L (.inl (some (.int ((0 : Int32))))) (pm_sA σ1 L ((0 : Int32)).toNatClampNeg (.double v)) := ⟨(L_okD (v := v) hL h f).1, (L_okD (v := v) hL h f).2 _ rfl⟩
theorem L_thrD {σ : pm_H} {x N0 L : Nat} {A : AS} {k : Int32} (hk : k ≠ 0) (h : isB σ x N0 A) : bOutD x N0 1 6 σ k 0 A L (.inl (some (.int k))) (pm_thr σ) := ⟨rfl, isB_thr h, fun q => absurd q hk, pm_thr σ, fB_thr (P := fun _ => False) fr.rf (fun _ q => q.elim), Or.inl rfl⟩
theorem mOutD_e {σ σ1 : pm_H} {m : Nat} {A : AS} {k : Int32} {r : UInt64} (hk : k ≠ 0) (h : isM σ m A) (hA : okA A) (f : frT m (fun _ => False) (fun _ => False) σ σ1) (z : iv (pm_F σ1 1200 m) = k) : mOutD m σ k 0 A (.inl (some (.double r))) σ1 := ⟨⟨r, rfl, fun q => absurd q hk⟩, mCo_e h hA f z⟩
theorem L_100 (i : Nat) : Int64.ofNat (100 ^ i) * 100 = Int64.ofNat (100 ^ (i + 1)) := by
  rw [show (100 : Int64) = Int64.ofNat 100 from rfl, L_mul, Nat.pow_succ]
theorem J_domainShare {x m N0 L : Nat} {A : AS} (hA : okA A) {z1 z2 : Int} (r1 : rg z1) (r2 : rg z2) : ∃ k v A', okA A' ∧ (∀ σ, isB σ x N0 A → isLD σ x N0 L → pm_C 39 269 [.ref x, .int (Int32.ofInt z1), .int (Int32.ofInt z2), .ref L] σ (bOutD x N0 1 6 σ k v A' L)) ∧ ∀ σ, isM σ m A → pm_C 39 216 [.ref m, .int (Int32.ofInt z1), .int (Int32.ofInt z2)] σ (mOutD m σ k v A') := by
  by_cases hv : (0 ≤ z1 ∧ z1 < 4) ∧ (0 ≤ z2 ∧ z2 ≤ 8)
  · obtain ⟨sl, rfl⟩ : ∃ n : Nat, z1 = n := ⟨z1.toNat, by omega⟩
    obtain ⟨n, rfl⟩ : ∃ n : Nat, z2 = n := ⟨z2.toNat, by omega⟩
    have hsl : sl < 4 := by omega
    have hT := hA.1 sl hsl
    have v4 := vi (show sl < 4 from hsl) (by omega)
    have ws := vc (show sl < 2000000 by omega)
    refine ⟨0, FP.ddiv (FP.l2d (Int64.ofNat (dcnt (aS A sl) n))) (FP.l2d (Int64.ofNat (100 ^ n))), A, hA, fun σ h hL => ?_, fun σ h => ?_⟩
    · obtain ⟨π, ht⟩ := h.2.1 sl hsl
      have hd := h.2.2.2.2.2.2.2.2.1
      refine w_L_domainShare_0 ⟨h.1.1, w_B_domainShare_0 (q_slot r1 (fun _ => q_counted r2 (fun _ => ?_) (fun n => absurd hv.2 n)) (fun n => absurd hv.1 n))⟩
      refine lp0 (fun i => [.ref x, .int (Int32.ofInt (sl : Int)), .int (Int32.ofInt (n : Int)), .long (Int64.ofNat (100 ^ i)), pm_U, .int (Int32.ofInt (i : Nat))]) n (fun i hi next => ?_) ?_ 0 (Nat.zero_le _)
      · refine w_B_domainShare_8 ⟨fun q => ?_, fun _ => ?_⟩
        · rw [oi_le (by omega)] at q; omega
        · rw [L_100, oi_s]; exact next
      · refine w_B_domainShare_8 ⟨fun _ => ?_, fun q => absurd (Int32.le_refl _) q⟩
        simp only [h.1.1, h.1.2.1.1, h.1.2.1.2.2.2.2.2.2.2.1, h.1.2.2.1, h.1.2.2.2.1, h.1.2.2.2.2 sl hsl, isr_ref, rv_ref, v4, ws, hd.1.1, true_and, forall_eq]
        refine pm_C_mono (pm_C_up (s_Do_countWords hd ht hT (by omega) (by omega)) (by omega)) (fun o σ' p => ?_)
        obtain ⟨rfl, p1, f⟩ := p
        have b := isB_do h f (fun _ q => q) p1
        exact kJ_B ⟨s_vf _ (by omega), kD_B (L_okD2 hL b.1 b.2)⟩
    · have hm := h.1
      refine w_M_domainShare_0 (gD (s_M_isSlot r1) (by omega) (fun n => absurd hv.1 n) (fun _ => gD (s_M_in r2 (a := 0) (b := 8) ⟨by decide, by decide⟩ ⟨by decide, by decide⟩) (by omega) (fun n => absurd hv.2 n) (fun _ => thr0 hm (fun σ1 m1 f1 y1 => ?_))))
      have g1 := isM_scr h hA f1 (fun _ q => Or.inl q) (fun _ q => q.elim) (fun _ q => q.elim)
      refine lp0 (fun i => [.ref m, .int (Int32.ofInt (sl : Int)), .int (Int32.ofInt (n : Int)), .long (Int64.ofNat (100 ^ i)), pm_U, .int (Int32.ofInt (i : Nat))]) n (fun i hi next => ?_) ?_ 0 (Nat.zero_le _)
      · refine w_M_domainShare_22 ⟨fun q => ?_, fun _ => ?_⟩
        · rw [oi_le (by omega)] at q; omega
        · rw [L_100, oi_s]; exact next
      · refine w_M_domainShare_22 ⟨fun _ => ⟨m1.1, pm_C_mono (pm_C_up (s_M_counted m1 (g1.2.1 sl hsl) hT hsl (show n ≤ 8 by omega)) (by omega)) (fun o σ' p => ?_)⟩, fun q => absurd (Int32.le_refl _) q⟩
        obtain ⟨rfl, f⟩ := p
        have f2 : frT m (fun i => i = 14 ∨ i = 15 ∨ i = 19) (fun _ => False) σ σ' := frX.tr (frX.mono f1 (fun _ q => q) (fun _ q => q.elim) (fun _ q => q)) (frX.mono f (fun _ q => q.elim) (fun _ q => q) (fun _ q => q))
        exact kJ_B ⟨s_vf _ (by omega), ⟨_, rfl, fun _ => rfl⟩, by rw [frX.F f id]; exact y1, isM_scr h hA f2 (fun _ q => Or.inl q) (fun i q => by omega) (fun _ q => q.elim), frX.fr f2⟩
  · refine ⟨1, 0, A, hA, fun σ h hL => ?_, fun σ h => ?_⟩
    · exact w_L_domainShare_0 ⟨h.1.1, w_B_domainShare_0 (q_slot r1 (fun s => q_counted r2 (fun s' => absurd ⟨s, s'⟩ hv) (fun n => k_L_domainShare_9 (L_thrD i1_ne h))) (fun n => k_L_domainShare_9 (L_thrD i1_ne h)))⟩
    · exact w_M_domainShare_0 (gD (s_M_isSlot r1) (by omega) (fun n => thrK h.1 i1_ne (fun σ1 m1 f1 y1 => mOutD_e i1_ne h hA f1 y1)) (fun s => gD (s_M_in r2 (a := 0) (b := 8) ⟨by decide, by decide⟩ ⟨by decide, by decide⟩) (by omega) (fun n => thrK h.1 i1_ne (fun σ1 m1 f1 y1 => mOutD_e i1_ne h hA f1 y1)) (fun s' => absurd ⟨s, s'⟩ hv)))
