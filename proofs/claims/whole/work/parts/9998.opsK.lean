/-! ===== copy, undo, trim ===== -/
/-- a slot takes what lies at an address -/
theorem s_B_replace {σ : pm_H} {x N0 sl b : Nat} {A : AS} {T : Tr} {π' : Nat → Nat} (h : isB σ x N0 A) (hA : okA A) (hsl : sl < 4) (hb : isTr σ b T π') (hT : okTr T) (hz : (b = x + 2 + 122 * sl ∧ isTr0 σ (x + 2 + 122 * sl) π') ∨ (b + 122 ≤ x + 2 + 122 * sl ∨ x + 2 + 122 * sl + 122 ≤ b)) (hx : b + 122 ≤ x + 612) : cIP 4 158 [.ref x, .int (Int32.ofInt (sl : Int)), .ref b] σ (Int32.ofInt (T.2.length : Int)) (fun σ' => isB σ' x N0 (chg A sl T) ∧ fr (fun c => pHi (x + 612) c ∨ pTr (x + 2 + 122 * sl) c) σ σ') := by
  obtain ⟨π, ht⟩ := h.2.1 sl hsl
  have hT0 := hA.1 sl hsl
  have v4 := vi (show sl < 4 from hsl) (by omega)
  have ws := vc (show sl < 2000000 by omega)
  refine w_B_replace_0 ?_
  simp only [h.1.1, h.1.2.1.1, h.1.2.1.2.2.1, h.1.2.2.1, h.1.2.2.2.1, h.1.2.2.2.2 sl hsl, h.2.2.2.1.1.1, isr_ref, rv_ref, v4, ws, true_and, forall_eq]
  refine (s_Hi_save h.2.2.2.1 ht hT0 (by omega) hsl).use (by omega) (fun σ1 p1 => ?_)
  have hd1 := isHd_fr h.1 p1.2 ⟨by unfold pHi; omega, by unfold pHi; omega⟩
  have ht1 := isTr_fr ht p1.2 (fun c hc => by unfold pTr at hc; unfold pHi; omega)
  have hb1 := isTr_fr hb p1.2 (fun c hc => by unfold pTr at hc; unfold pHi; omega)
  simp only [hd1.1, hd1.2.1.1, hd1.2.2.1, hd1.2.2.2.1, hd1.2.2.2.2 sl hsl, isr_ref, rv_ref, v4, ws, ht1.1.1, true_and, forall_eq]
  have go : ∀ πz, isTr0 σ1 (x + 2 + 122 * sl) πz → ((b = x + 2 + 122 * sl ∧ π' = πz) ∨ b + 122 ≤ x + 2 + 122 * sl ∨ x + 2 + 122 * sl + 122 ≤ b) → cV 2 96 [.ref (x + 2 + 122 * sl), .ref b] σ1 (fun σ2 => (∃ π, isTr σ2 (x + 2 + 122 * sl) T π) ∧ fr (pTr (x + 2 + 122 * sl)) σ1 σ2) := by
    intro πz z0 hd
    exact pm_C_mono (s_Tr_copyFrom z0 hb1 hT hd) (fun o τ q => ⟨q.1, ⟨_, q.2.1⟩, q.2.2⟩)
  have copy : cV 2 96 [.ref (x + 2 + 122 * sl), .ref b] σ1 (fun σ2 => (∃ π, isTr σ2 (x + 2 + 122 * sl) T π) ∧ fr (pTr (x + 2 + 122 * sl)) σ1 σ2) := by
    rcases hz with ⟨e, z⟩ | hz
    · exact go π' (isTr0_fr z p1.2 (fun c hc => by unfold pTr at hc; unfold pHi; omega)) (Or.inl ⟨e, rfl⟩)
    · exact go π ht1.z (Or.inr hz)
  refine copy.use (by omega) (fun σ2 p2 => ?_)
  have g := isB_chg h hsl p1.1 p1.2 p2.2 p2.1
  obtain ⟨π2, t2⟩ := p2.1
  have hd2 := g.1.1
  simp only [hd2.1, hd2.2.1.1, hd2.2.2.1, hd2.2.2.2.1, hd2.2.2.2.2 sl hsl, isr_ref, rv_ref, v4, ws, t2.1.1, t2.2.2.1, true_and, forall_eq]
  exact ⟨g.1, (p1.2.mono (fun _ q => Or.inl q)).tr (p2.2.mono (fun _ q => Or.inr q))⟩
theorem pRep_B {x sl c : Nat} (hsl : sl < 4) (h : pHi (x + 612) c ∨ pTr (x + 2 + 122 * sl) c) : pB x c := by
  unfold pHi pTr at h; unfold pB; omega
theorem J_copy {x m N0 L : Nat} {A : AS} (hA : okA A) {z1 z2 : Int} (r1 : rg z1) (r2 : rg z2) : ∃ k v A', okA A' ∧ (∀ σ, isB σ x N0 A → isL σ x N0 L → pm_C 39 280 [.ref x, .int (Int32.ofInt z1), .int (Int32.ofInt z2), .ref L] σ (bOut x N0 1 6 σ k v A' L)) ∧ ∀ σ, isM σ m A → pm_C 39 242 [.ref m, .int (Int32.ofInt z1), .int (Int32.ofInt z2)] σ (mOut m σ k v A') := by
  by_cases hv : (0 ≤ z1 ∧ z1 < 4) ∧ (0 ≤ z2 ∧ z2 < 4)
  · obtain ⟨s1, rfl⟩ : ∃ n : Nat, z1 = n := ⟨z1.toNat, by omega⟩
    obtain ⟨s2, rfl⟩ : ∃ n : Nat, z2 = n := ⟨z2.toNat, by omega⟩
    have h1 : s1 < 4 := by omega
    have h2 : s2 < 4 := by omega
    have k1 := hA.1 s1 h1
    have k2 := hA.1 s2 h2
    have v1 := vi (show s1 < 4 from h1) (by omega)
    have w1 := vc (show s1 < 2000000 by omega)
    refine ⟨0, (Int32.ofInt ((aS A s1).2.length : Int)).toInt64, chg A s2 (aS A s1), okA_chg hA h2 k1, fun σ h hL => ?_, fun σ h => ?_⟩
    · obtain ⟨π1, t1⟩ := h.2.1 s1 h1
      refine w_L_copy_0 ⟨h.1.1, w_B_copy_0 (q_slot r1 (fun _ => q_slot r2 (fun _ => ?_) (fun n => absurd hv.2 n)) (fun n => absurd hv.1 n))⟩
      simp only [h.1.1, h.1.2.1.1, h.1.2.2.1, h.1.2.2.2.1, h.1.2.2.2.2 s1 h1, isr_ref, rv_ref, v1, w1, true_and, forall_eq]
      refine (s_B_replace h hA h2 t1 k1 ?_ (by omega)).use (by omega) (fun σ' p => L_ok2 hL p.1 (fB_fr p.2 (fun c hc => pRep_B h2 hc)))
      by_cases c : s1 = s2
      · subst c; exact Or.inl ⟨rfl, t1.z⟩
      · exact Or.inr (by omega)
    · have hm := h.1
      refine w_M_copy_0 (gD (s_M_isSlot r1) (by omega) (fun n => absurd hv.1 n) (fun _ => gD (s_M_isSlot r2) (by omega) (fun n => absurd hv.2 n) (fun _ => w_M_copy_10 (thr0 hm (fun σ1 m1 f1 y1 => ⟨m1.1, ?_⟩)))))
      have g1 := isM_scr h hA f1 (fun _ q => Or.inl q) (fun _ q => q.elim) (fun _ q => q.elim)
      refine (s_M_keeps m1 g1.2.2.1 hA.2.1 (g1.2.1 s2 h2) k2 h2).use (by omega) (fun σ2 p2 => ?_)
      have m2 := p2.2.mS m1 (fun f hf => by rw [hf]; decide)
      have y2 : iv (pm_F σ2 1200 m) = 0 := by rw [p2.2.F (by decide)]; exact y1
      have t2 := p2.2.T (g1.2.1 s1 h1) k1 (by omega)
      refine ⟨m2.1, (s_M_copies m2 t2 k1 (by omega) (by omega)).use (by omega) (fun σ3 p3 => ?_)⟩
      have m3 := p3.2.mS m2
      have v13 := vi (show s2 < 13 by omega) (by omega)
      have w13 := vc (show s2 < 2000000 by omega)
      have g := isM_chg h hA h2 (frX.mono f1 (fun _ q => q) (fun _ q => q.elim) (fun _ q => q.elim)) (As0 := fun _ => False) (fun _ q => q.elim) p2.1 p2.2 p3.2.X (fun _ q => q.elim) (fun i q => by omega) (fun _ q => q) p3.1
      simp only [m3.1, m3.f2, m3.t2, m3.l2, isr_ref, rv_ref, v13, w13, p3.1.2.1, true_and, forall_eq]
      exact ⟨⟨_, rfl, fun _ => rfl⟩, by rw [p3.2.X.F id]; exact y2, g.1, g.2⟩
  · refine ⟨1, 0, A, hA, fun σ h hL => ?_, fun σ h => ?_⟩
    · exact w_L_copy_0 ⟨h.1.1, w_B_copy_0 (q_slot r1 (fun s => q_slot r2 (fun s' => absurd ⟨s, s'⟩ hv) (fun n => k_L_copy_10 (L_thr i1_ne h))) (fun n => k_L_copy_10 (L_thr i1_ne h)))⟩
    · have fin : pm_R 39 242 10 [.ref m, .int (Int32.ofInt z1), .int (Int32.ofInt z2)] [.int ((1 : Int32)), .ref m] σ (mOut m σ 1 0 A) := w_M_copy_10 (thrK h.1 i1_ne (fun σ1 m1 f1 y1 => mOut_e i1_ne h hA f1 y1))
      exact w_M_copy_0 (gD (s_M_isSlot r1) (by omega) (fun n => fin) (fun s => gD (s_M_isSlot r2) (by omega) (fun n => fin) (fun s' => absurd ⟨s, s'⟩ hv)))
theorem J_undo {x m N0 L : Nat} {A : AS} (hA : okA A) : ∃ k v A', okA A' ∧ (∀ σ, isB σ x N0 A → isL σ x N0 L → pm_C 39 281 [.ref x, .ref L] σ (bOut x N0 1 6 σ k v A' L)) ∧ ∀ σ, isM σ m A → pm_C 39 170 [.ref m] σ (mOut m σ k v A') := by
  rcases List.eq_nil_or_concat (aH A) with e0 | ⟨hs, e, e0⟩
  · refine ⟨1, 0, A, hA, fun σ h hL => ?_, fun σ h => ?_⟩
    · obtain ⟨nx, _, _, hl, _⟩ := h.2.2.2.1.2
      rw [e0] at hl
      refine w_L_undo_0 ⟨h.1.1, w_B_undo_0 ?_⟩
      simp only [h.1.1, h.1.2.1.2.2.1, h.2.2.2.1.1.1, isr_ref, rv_ref, true_and, forall_eq]
      exact ⟨fun _ => k_L_undo_8 (L_thr i1_ne h), fun n => absurd (by rw [hl]; rfl) n⟩
    · have hm := h.1
      have hh := h.2.2.1
      rw [e0] at hh
      refine pm_C_mono (pm_C_up (s_M_undo0 hm hh) (by omega)) (fun o σ' p => ?_)
      obtain ⟨rfl, p1⟩ := p
      have f1 : frT m (fun _ => False) (fun _ => False) σ σ' := by rw [p1]; exact frX_sF
      exact mOut_e i1_ne h hA f1 (by rw [p1, F_sF, if_pos ⟨rfl, rfl⟩]; rfl)
  · have e0' : aH A = hs ++ [e] := by rw [e0, List.concat_eq_append]
    have okh : okH (hs ++ [e]) := by rw [← e0']; exact hA.2.1
    have oke := okh e (by simp)
    have okhs : okH hs := fun y hy => okh y (List.mem_append_left _ hy)
    refine ⟨0, (Int32.ofInt (e.1 : Int)).toInt64, (updS (aS A) e.1 e.2, hs, aL A, aW A, aR A), ⟨fun i hi => ?_, okhs, hA.2.2⟩, fun σ h hL => ?_, fun σ h => ?_⟩
    · show okTr (updS (aS A) e.1 e.2 i)
      unfold updS
      by_cases c : i = e.1
      · rw [if_pos c]; exact oke.2
      · rw [if_neg c]; exact hA.1 i hi
    · have hh := h.2.2.2.1
      rw [e0'] at hh
      obtain ⟨nx, _, _, hl, hl8, _⟩ := hh.2
      obtain ⟨π, ht⟩ := h.2.1 e.1 oke.1
      have nz : ¬ Int32.ofInt ((hs ++ [e]).length : Int) = 0 := by
        rw [z_eq0 (nrg (by omega)), List.length_append]
        show ¬ ((hs.length + 1 : Nat) : Int) = 0
        omega
      refine w_L_undo_0 ⟨h.1.1, w_B_undo_0 ?_⟩
      simp only [h.1.1, h.1.2.1.1, h.1.2.1.2.2.1, hh.1.1, hl, nz, not_false_eq_true, false_implies, true_implies, isr_ref, rv_ref, true_and, forall_eq]
      refine (s_Hi_takeBack (c := x + 2) hh oke ⟨h.1.2.2.1, h.1.2.2.2.1, h.1.2.2.2.2⟩ ht.z (by omega)).use (by omega) (fun σ' p => ?_)
      obtain ⟨p1, p2, f⟩ := p
      have o4 := oke.1
      have b : isB σ' x N0 (updS (aS A) e.1 e.2, hs, aL A, aW A, aR A) := by
        refine isB_mk h f ⟨?_, ?_⟩ (fun i hi => ?_) (Or.inl (fun b hb => ?_)) (Or.inr p1) (Or.inl ⟨fun b hb => ?_, rfl⟩) (Or.inl ⟨fun b hb => ?_, rfl⟩) (Or.inl ⟨fun b hb => ?_, rfl⟩) (Or.inl (fun b hb => ?_)) (Or.inl (fun b hb => ?_)) (Or.inl ?_) (Or.inl (fun b hb => ?_))
        · unfold pHi pTr; omega
        · unfold pHi pTr; omega
        · by_cases c : i = e.1
          · refine Or.inr ?_
            rw [c]
            show ∃ π, isTr σ' _ (updS (aS A) e.1 e.2 e.1) π
            rw [updS_eq]; exact ⟨π, p2⟩
          · refine Or.inl ⟨fun b hb => ?_, updS_ne c⟩
            unfold pTr at hb
            unfold pHi pTr; omega
        · unfold pTr at hb; unfold pHi pTr; omega
        · unfold pRe at hb; unfold pHi pTr; omega
        · unfold pWo at hb; unfold pHi pTr; omega
        · unfold pWo at hb; unfold pHi pTr; omega
        · unfold pO at hb; unfold pHi pTr; omega
        · unfold pDo at hb; unfold pHi pTr; omega
        · unfold pHi pTr; omega
        · unfold pCo at hb; unfold pHi pTr; omega
      exact L_ok2 hL b (fB_fr f (fun c hc => by unfold pHi pTr at hc; unfold pB; omega))
    · have hm := h.1
      have hh := h.2.2.1
      rw [e0'] at hh
      refine pm_C_mono (pm_C_up (s_M_undo hm hh okh) (by omega)) (fun o σ' p => ?_)
      obtain ⟨rfl, p1, p2, p3, f⟩ := p
      refine ⟨⟨_, rfl, fun _ => rfl⟩, p3, isM_mk h hA f (fun f hf => by rcases hf with q | q <;> (rw [q]; decide)) (fun i hi => ?_) (Or.inr p1) (Or.inl ⟨by omega, by omega, rfl⟩) (Or.inl ⟨by omega, by omega, rfl⟩) (Or.inl ⟨by omega, by omega, rfl⟩), f.fr⟩
      by_cases c : i = e.1
      · refine Or.inr ?_
        rw [c]
        show mTr σ' m e.1 (updS (aS A) e.1 e.2 e.1)
        rw [updS_eq]; exact p2
      · exact Or.inl ⟨c, updS_ne c⟩
theorem fmF_len {f : Rl → Rl} {p : Rl → Bool} (i : Nat) (rs : List Rl) : (fmF f p i rs).length ≤ rs.length := by
  unfold fmF
  rw [List.length_append]
  have h1 := List.length_filter_le p ((rs.drop i).map f)
  rw [List.length_map] at h1
  have : (rs.take i).length + (rs.drop i).length = rs.length := by rw [← List.length_append, List.take_append_drop]
  omega
theorem fmF_ok {f : Rl → Rl} {p : Rl → Bool} {i : Nat} {rs : List Rl} (h : ∀ r, r ∈ rs → okR r) (hf : ∀ r, okR r → okR (f r)) : ∀ r, r ∈ fmF f p i rs → okR r := by
  intro r hr
  unfold fmF at hr
  rcases List.mem_append.mp hr with q | q
  · exact h r (List.mem_of_mem_take q)
  · have := (List.mem_filter.mp q).1
    obtain ⟨r', h1, h2⟩ := List.mem_map.mp this
    rw [← h2]; exact hf r' (h r' (List.mem_of_mem_drop h1))
theorem s_M_trim_33 {σ τ0 : pm_H} {m sl R E : Nat} {T : Tr} {Q : pm_O → pm_H → Prop} (hm : mS σ m) (ht : mTr τ0 m sl T) (hT : okTr T) (hsl : sl < 4) (hR : R < 4096) (hE : E < 4096) (h0 : frM m (fun s => s = sl) σ τ0)
    (hQ : ∀ τ, frM m (fun s => s = sl) σ τ → mTr τ m sl (T.1, T.2.filter (useful R E)) → Q (.inl (some (.int (Int32.ofInt ((T.2.length - (T.2.filter (useful R E)).length : Nat) : Int))))) τ) : pm_R 39 241 33 [.ref m, .int (Int32.ofInt (sl : Int)), .int (Int32.ofInt (R : Int)), .int (Int32.ofInt (E : Int)), .int ((0 : Int32)), .int (Int32.ofInt (T.2.length : Int) - 1)] [] τ0 Q := by
  have hl40 := ht.2.2.1
  have key := lpd (d := 39) (m := 241) (k := 33) (Q := Q) (fun i => [.ref m, .int (Int32.ofInt (sl : Int)), .int (Int32.ofInt (R : Int)), .int (Int32.ofInt (E : Int)), .int (Int32.ofInt ((T.2.length - (fmF id (useful R E) i T.2).length : Nat) : Int)), .int (Int32.ofInt (dn i))]) (fun i τ => i ≤ T.2.length ∧ mTr τ m sl (T.1, fmF id (useful R E) i T.2) ∧ frM m (fun s => s = sl) σ τ) ?_ ?_ T.2.length τ0 ⟨Nat.le_refl _, by rw [fmF_n]; exact ht, h0⟩
  · rw [fmF_n, Nat.sub_self] at key
    rw [oi_sub1]; exact key
  · rintro i τ ⟨i1, i2, i3⟩ next
    have mt := i3.mS hm
    have hr := List.getElem?_eq_getElem (show i < T.2.length by omega)
    have ok := hT.at hr
    generalize T.2[i] = r at hr ok
    have lenI := fmF_len (f := id) (p := useful R E) (i + 1) T.2
    have okI := fmF_ok (f := id) (p := useful R E) (i := i + 1) hT.2 (fun _ h => h)
    rw [fmF_s hr] at i2 lenI okI ⊢
    have hAl := take_lenL (show i < T.2.length by omega)
    have htt := fmF_t (f := id) (p := useful R E) hr
    rw [htt] at next
    generalize ((T.2.drop (i + 1)).map id).filter (useful R E) = X at *
    generalize T.2.take i = B at *
    have hg : (B ++ r :: X)[i]? = some r := mid_get hAl
    have rk := i2.2.2.2 i r hg
    have hil : i < (B ++ r :: X).length := (List.getElem?_eq_some_iff.mp hg).1
    have q6 : ¬ Int32.ofInt (i : Int) < 0 := by rw [z_lt0 (nrg (by omega))]; omega
    have hdn : Int32.ofInt (i : Int) + (-1) = Int32.ofInt (dn i) := by rw [← dn_s, dn_m1]
    rw [dn_s]
    refine w_M_trim_33 ⟨fun q => absurd q q6, fun _ => ⟨mt.1, ?_⟩⟩
    rw [oi_row]
    refine gI (s_M_isUsed mt rk (by omega) ok hR hE) (by omega) (fun e3 => ⟨mt.1, (s_M_removes mt i2 ⟨hT.1, okI⟩ (by omega) hil).use (by omega) (fun τ' p => ?_)⟩) (fun e3 => ?_)
    · rw [hdn, oi_s]
      have e4 : T.2.length - (B ++ r :: X).length + 1 = T.2.length - (B ++ X).length := by
        rw [List.length_append, List.length_cons] at lenI ⊢
        rw [List.length_append]; omega
      rw [e4]
      simp only [id, e3, Bool.false_eq_true, if_false] at next
      refine next τ' ⟨by omega, ?_, i3.tr p.2⟩
      have := p.1
      dsimp only at this
      rw [mid_erase hAl] at this; exact this
    · rw [hdn]
      simp only [id, e3, if_true] at next
      exact next τ ⟨by omega, i2, i3⟩
  · rintro τ ⟨i1, i2, i3⟩
    rw [fmF_0, List.map_id] at i2 ⊢
    exact w_M_trim_33 ⟨fun q => hQ τ i3 i2, fun q => absurd (by decide) q⟩
theorem oi_dif {a b : Nat} (h : b ≤ a) : Int32.ofInt (a : Int) - Int32.ofInt (b : Int) = Int32.ofInt ((a - b : Nat) : Int) := by
  rw [oi_sub]; congr 1; omega
theorem filter_ok {T : Tr} {p : Rl → Bool} (hT : okTr T) : okTr (T.1, T.2.filter p) := ⟨hT.1, fun r h => hT.2 r (List.mem_filter.mp h).1⟩
theorem J_trim {x m N0 L : Nat} {A : AS} (hA : okA A) {z1 : Int} (r1 : rg z1) : ∃ k v A', okA A' ∧ (∀ σ, isB σ x N0 A → isL σ x N0 L → pm_C 39 279 [.ref x, .int (Int32.ofInt z1), .ref L] σ (bOut x N0 1 6 σ k v A' L)) ∧ ∀ σ, isM σ m A → pm_C 39 241 [.ref m, .int (Int32.ofInt z1)] σ (mOut m σ k v A') := by
  by_cases hv : 0 ≤ z1 ∧ z1 < 4
  · obtain ⟨sl, rfl⟩ : ∃ n : Nat, z1 = n := ⟨z1.toNat, by omega⟩
    have hsl : sl < 4 := by omega
    have hT := hA.1 sl hsl
    generalize eT : aS A sl = T at hT
    have v4 := vi (show sl < 4 from hsl) (by omega)
    have v13 := vi (show sl < 13 by omega) (by omega)
    have ws := vc (show sl < 2000000 by omega)
    have fl := List.length_filter_le (useful (itR T.2 11) (itW T.2 T.1 11)) T.2
    refine ⟨0, (Int32.ofInt ((T.2.length - (T.2.filter (useful (itR T.2 11) (itW T.2 T.1 11))).length : Nat) : Int)).toInt64, chg A sl (T.1, T.2.filter (useful (itR T.2 11) (itW T.2 T.1 11))), okA_chg hA hsl (filter_ok hT), fun σ h hL => ?_, fun σ h => ?_⟩
    · obtain ⟨π, ht⟩ := h.2.1 sl hsl
      rw [eT] at ht
      refine w_L_trim_0 ⟨h.1.1, w_B_trim_0 (q_slot r1 (fun _ => ?_) (fun n => absurd hv n))⟩
      simp only [h.1.1, h.1.2.1.1, h.1.2.1.2.2.1, h.1.2.2.1, h.1.2.2.2.1, h.1.2.2.2.2 sl hsl, h.2.2.2.1.1.1, isr_ref, rv_ref, v4, ws, ht.1.1, ht.2.2.1, true_and, forall_eq]
      refine (s_Hi_save h.2.2.2.1 ht hT (by omega) hsl).use (by omega) (fun σ1 p1 => ?_)
      have ht1 := isTr_fr ht p1.2 (fun b hb => by unfold pTr at hb; unfold pHi; omega)
      refine ⟨ht1.1.1, (s_Tr_dropUseless ht1 hT).use (by omega) (fun σ2 p2 => ?_)⟩
      have g := isB_chg h hsl (by rw [eT]; exact p1.1) p1.2 p2.2 p2.1
      obtain ⟨π2, t2⟩ := p2.1
      refine ⟨t2.1.1, ?_⟩
      rw [t2.2.2.1, oi_dif fl]
      exact L_ok2 hL g.1 g.2
    · have hm := h.1
      have ht := h.2.1 sl hsl
      rw [eT] at ht
      refine w_M_trim_0 (gD (s_M_isSlot r1) (by omega) (fun n => absurd hv n) (fun _ => w_M_trim_7 (thr0 hm (fun σ1 m1 f1 y1 => ⟨m1.1, ?_⟩))))
      have h1 := isM_scr h hA f1 (fun _ q => Or.inl q) (fun _ q => q.elim) (fun _ q => q.elim)
      have ht1 := h1.2.1 sl hsl
      rw [eT] at ht1
      refine (s_M_keeps m1 h1.2.2.1 hA.2.1 ht1 hT hsl).use (by omega) (fun σ2 p2 => ?_)
      have m2 := p2.2.mS m1 (fun f hf => by rw [hf]; decide)
      have ht2 := p2.2.T ht1 hT (by omega)
      have y2 : iv (pm_F σ2 1200 m) = 0 := by rw [p2.2.F (by decide)]; exact y1
      refine ⟨m2.1, (s_M_reached m2 ht2 hT hsl).use (by omega) ⟨m2.1, (s_M_ending m2 ht2 hT hsl).use (by omega) ?_⟩⟩
      rw [itR_rest hT.2, itE_W hT.2 hT.1]
      simp only [m2.1, m2.f2, m2.t2, m2.l2, isr_ref, rv_ref, v13, ws, ht2.2.1, true_and, forall_eq]
      refine s_M_trim_33 m2 ht2 hT hsl (itR_lt hT.2 11) (itW_lt hT.2 hT.1 11) frM.rf (fun τ f3 t3 => ?_)
      have g := isM_chg h hA hsl (frX.mono f1 (fun _ q => q) (fun _ q => q.elim) (fun _ q => q.elim)) (As0 := fun _ => False) (fun _ q => q.elim) (by rw [eT]; exact p2.1) p2.2 f3.X (fun _ q => q.elim) (fun i q => by omega) (fun _ q => q) t3
      exact ⟨⟨_, rfl, fun _ => rfl⟩, by rw [f3.X.F id]; exact y2, g.1, g.2⟩
  · refine ⟨1, 0, A, hA, fun σ h hL => ?_, fun σ h => ?_⟩
    · exact w_L_trim_0 ⟨h.1.1, w_B_trim_0 (q_slot r1 (fun s1 => absurd s1 hv) (fun n => k_L_trim_9 (L_thr i1_ne h)))⟩
    · exact w_M_trim_0 (gD (s_M_isSlot r1) (by omega) (fun n => w_M_trim_7 (thrK h.1 i1_ne (fun σ1 m1 f1 y1 => mOut_e i1_ne h hA f1 y1))) (fun s1 => absurd s1 hv))
