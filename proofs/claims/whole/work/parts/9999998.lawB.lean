/-! ===== the law: a case a call ===== -/
theorem gZ2 {w : Int32} {bb : Bool} {R0 R1 : Prop} (hbb : w = 0 ↔ bb = false) (h0 : bb = false → R0) (h1 : bb = true → R1) : (w = 0 → R0) ∧ (¬ w = 0 → R1) := ⟨fun q => h0 (hbb.mp q), fun q => h1 (by cases bb with
  | false => exact absurd (hbb.mpr rfl) q
  | true => rfl)⟩
theorem fin_D {x : Nat} {σ : pm_H} {k : Int32} {v r : UInt64} {R X1 X2 Y : Prop} (hL : isLD σ x (x + 1814) (x + 1813)) (hv : k = 0 → dv (pm_A σ (x + 1813) 0) = v) (hr : k = 0 → r = v) (nx : R) : (k = k → ((k = 0 → (pm_t σ (x + 1813) = 105 ∧ vp_in (0 : Int32) (pm_l σ (x + 1813))) ∧ ∀ z8, z8 = dv (pm_A σ (x + 1813) (0 : Int32).toNatClampNeg) → (((Op.cmpValue (FP.dcmp z8 r) .l) = 0 → R) ∧ (¬ (Op.cmpValue (FP.dcmp z8 r) .l) = 0 → (pm_t σ (x + 1813) = 105 ∧ vp_in (0 : Int32) (pm_l σ (x + 1813))) ∧ ∀ z9, z9 = dv (pm_A σ (x + 1813) (0 : Int32).toNatClampNeg) → (pm_t σ (x + 1813) = 105 ∧ vp_in (0 : Int32) (pm_l σ (x + 1813))) ∧ ∀ z10, z10 = dv (pm_A σ (x + 1813) (0 : Int32).toNatClampNeg) → (((Op.cmpValue (FP.dcmp z9 z10) .l) = 0 → X1) ∧ (¬ (Op.cmpValue (FP.dcmp z9 z10) .l) = 0 → (((Op.cmpValue (FP.dcmp r r) .l) = 0 → X2) ∧ (¬ (Op.cmpValue (FP.dcmp r r) .l) = 0 → R))))))) ∧ (¬ k = 0 → R))) ∧ (¬ k = k → Y) := by
  have tl : pm_t σ (x + 1813) = 105 ∧ vp_in (0 : Int32) (pm_l σ (x + 1813)) := ⟨hL.2.2.1, by rw [hL.2.2.2]; exact v01⟩
  refine ⟨fun _ => ⟨fun k0 => ⟨tl, fun z ez => ⟨fun _ => nx, fun n1 => ⟨tl, fun z9 e9 => ⟨tl, fun z10 e10 => ⟨fun q => ?_, fun _ => ⟨fun q => ?_, fun _ => nx⟩⟩⟩⟩⟩⟩, fun _ => nx⟩, fun q => absurd rfl q⟩
  · rw [ez, c00, hv k0, hr k0] at n1
    rw [e9, e10, c00, hv k0] at q
    exact absurd q n1
  · rw [ez, c00, hv k0, hr k0] at n1
    rw [hr k0] at q
    exact absurd q n1
theorem cs_0 {b Ls x c i : Nat} {xs : Nat → Int32} {A : AS} {σ : pm_H} {Q : pm_O → pm_H → Prop} (hb : b < x) (hL : Ls ≤ 3072) (hi : 6 * i + 6 ≤ Ls) (hA : okA A) (h : ST b Ls x xs A A c σ) (nx : ∀ A' σ', okA A' → ST b Ls x xs A' A' (c + 1) σ' → pm_R 40 282 1568 [.ref b, .ref x, .ref (x + 1777), .ref (x + 1812), .ref (x + 1813), .int (Int32.ofInt ((6 * i : Nat) : Int)), pm_U, pm_U, pm_U] [] σ' Q) : pm_R 40 282 28 [.ref b, .ref x, .ref (x + 1777), .ref (x + 1812), .ref (x + 1813), .int (Int32.ofInt ((6 * i : Nat) : Int)), pm_U, pm_U, pm_U] [] σ Q := by
  obtain ⟨z1, e1, r1⟩ := oi_of (xs (6 * i + 1))
  obtain ⟨z2, e2, r2⟩ := oi_of (xs (6 * i + 2))
  have cut : ∀ bb : Bool, (xs (6 * i + 3) = 0 ↔ bb = false) → pm_R 40 282 48 [.ref b, .ref x, .ref (x + 1777), .ref (x + 1812), .ref (x + 1813), .int (Int32.ofInt ((6 * i : Nat) : Int)), pm_U, pm_U, pm_U] [.int (bI bb), .int (Int32.ofInt z2), .int (Int32.ofInt z1), .ref x] σ Q := by
    intro bb hbb
    obtain ⟨k, v, A', hA', hC, hM⟩ := J_setFinal (x := x) (m := x + 1777) (N0 := x + 1814) (L := x + 1812) (b := bb) hA r1 r2
    refine w_L_law_48 ?_
    refine pm_C_mono (fx_C (hC σ h.B h.tL) (by decide)) (fun o σ1 p => ?_)
    obtain ⟨rfl, hv, h1⟩ := st_cls hb h (by decide +kernel) p
    have M : pm_R 40 282 71 [.ref b, .ref x, .ref (x + 1777), .ref (x + 1812), .ref (x + 1813), .int (Int32.ofInt ((6 * i : Nat) : Int)), .int k, pm_U, pm_U] [.int (bI bb), .int (Int32.ofInt z2), .int (Int32.ofInt z1), .ref (x + 1777)] σ1 Q := by
      refine w_L_law_71 (⟨h1.tM, ?_⟩)
      refine pm_C_mono (hM σ1 h1.M) (fun o σ2 p => ?_)
      obtain ⟨⟨r, rfl, er⟩, co⟩ := p
      obtain ⟨h2, eL, eD, y⟩ := st_mod hb h1 co
      exact kI_B ⟨h2.tM, w_M_thrown_0 (rdF h2.tM y (kI_B (fin_B h2.tL (fun q => by rw [eL]; exact hv q) er (nx A' σ2 hA' h2))))⟩
    exact kI_B (gS h1 (sc1 i) (by omega) hL e1 (gS h1 (sc2 i) (by omega) hL e2 (gS h1 (sc3 i) (by omega) hL rfl (gZ2 hbb (fun e => by rw [e] at M; exact M) (fun e => by rw [e] at M; exact M)))))
  exact w_L_law_28 (gS h (sc1 i) (by omega) hL e1 (gS h (sc2 i) (by omega) hL e2 (gS h (sc3 i) (by omega) hL rfl (⟨fun q => cut false ⟨fun _ => rfl, fun _ => q⟩, fun q => cut true ⟨fun w => absurd w q, fun w => by cases w⟩⟩))))
theorem cs_1 {b Ls x c i : Nat} {xs : Nat → Int32} {A : AS} {σ : pm_H} {Q : pm_O → pm_H → Prop} (hb : b < x) (hL : Ls ≤ 3072) (hi : 6 * i + 6 ≤ Ls) (hA : okA A) (h : ST b Ls x xs A A c σ) (nx : ∀ A' σ', okA A' → ST b Ls x xs A' A' (c + 1) σ' → pm_R 40 282 1568 [.ref b, .ref x, .ref (x + 1777), .ref (x + 1812), .ref (x + 1813), .int (Int32.ofInt ((6 * i : Nat) : Int)), pm_U, pm_U, pm_U] [] σ' Q) : pm_R 40 282 94 [.ref b, .ref x, .ref (x + 1777), .ref (x + 1812), .ref (x + 1813), .int (Int32.ofInt ((6 * i : Nat) : Int)), pm_U, pm_U, pm_U] [] σ Q := by
  obtain ⟨z1, e1, r1⟩ := oi_of (xs (6 * i + 1))
  obtain ⟨z2, e2, r2⟩ := oi_of (xs (6 * i + 2))
  obtain ⟨z3, e3, r3⟩ := oi_of (xs (6 * i + 3))
  obtain ⟨z4, e4, r4⟩ := oi_of (xs (6 * i + 4))
  obtain ⟨z5, e5, r5⟩ := oi_of (xs (6 * i + 5))
  obtain ⟨k, v, A', hA', hC, hM⟩ := J_addRule (x := x) (m := x + 1777) (N0 := x + 1814) (L := x + 1812) hA r1 r2 r3 r4 r5
  refine w_L_law_94 (gS h (sc1 i) (by omega) hL e1 (gS h (sc2 i) (by omega) hL e2 (gS h (sc3 i) (by omega) hL e3 (gS h (sc4 i) (by omega) hL e4 (gS h (sc5 i) (by omega) hL e5 (?_))))))
  refine pm_C_mono (fx_C (hC σ h.B h.tL) (by decide)) (fun o σ1 p => ?_)
  obtain ⟨rfl, hv, h1⟩ := st_cls hb h (by decide +kernel) p
  refine kI_B (gS h1 (sc1 i) (by omega) hL e1 (gS h1 (sc2 i) (by omega) hL e2 (gS h1 (sc3 i) (by omega) hL e3 (gS h1 (sc4 i) (by omega) hL e4 (gS h1 (sc5 i) (by omega) hL e5 (⟨h1.tM, ?_⟩))))))
  refine pm_C_mono (hM σ1 h1.M) (fun o σ2 p => ?_)
  obtain ⟨⟨r, rfl, er⟩, co⟩ := p
  obtain ⟨h2, eL, eD, y⟩ := st_mod hb h1 co
  exact kI_B ⟨h2.tM, w_M_thrown_0 (rdF h2.tM y (kI_B (fin_J h2.tL (fun q => by rw [eL]; exact hv q) er (nx A' σ2 hA' h2))))⟩
theorem cs_2 {b Ls x c i : Nat} {xs : Nat → Int32} {A : AS} {σ : pm_H} {Q : pm_O → pm_H → Prop} (hb : b < x) (hL : Ls ≤ 3072) (hi : 6 * i + 6 ≤ Ls) (hA : okA A) (h : ST b Ls x xs A A c σ) (nx : ∀ A' σ', okA A' → ST b Ls x xs A' A' (c + 1) σ' → pm_R 40 282 1568 [.ref b, .ref x, .ref (x + 1777), .ref (x + 1812), .ref (x + 1813), .int (Int32.ofInt ((6 * i : Nat) : Int)), pm_U, pm_U, pm_U] [] σ' Q) : pm_R 40 282 169 [.ref b, .ref x, .ref (x + 1777), .ref (x + 1812), .ref (x + 1813), .int (Int32.ofInt ((6 * i : Nat) : Int)), pm_U, pm_U, pm_U] [] σ Q := by
  obtain ⟨z1, e1, r1⟩ := oi_of (xs (6 * i + 1))
  obtain ⟨z2, e2, r2⟩ := oi_of (xs (6 * i + 2))
  obtain ⟨z3, e3, r3⟩ := oi_of (xs (6 * i + 3))
  obtain ⟨z4, e4, r4⟩ := oi_of (xs (6 * i + 4))
  obtain ⟨k, v, A', hA', hC, hM⟩ := J_addRange (x := x) (m := x + 1777) (N0 := x + 1814) (L := x + 1812) hA r1 r2 r3 r4
  refine w_L_law_169 (gS h (sc1 i) (by omega) hL e1 (gS h (sc2 i) (by omega) hL e2 (gS h (sc3 i) (by omega) hL e3 (gS h (sc4 i) (by omega) hL e4 (?_)))))
  refine pm_C_mono (fx_C (hC σ h.B h.tL) (by decide)) (fun o σ1 p => ?_)
  obtain ⟨rfl, hv, h1⟩ := st_cls hb h (by decide +kernel) p
  refine kI_B (gS h1 (sc1 i) (by omega) hL e1 (gS h1 (sc2 i) (by omega) hL e2 (gS h1 (sc3 i) (by omega) hL e3 (gS h1 (sc4 i) (by omega) hL e4 (⟨h1.tM, ?_⟩)))))
  refine pm_C_mono (hM σ1 h1.M) (fun o σ2 p => ?_)
  obtain ⟨⟨r, rfl, er⟩, co⟩ := p
  obtain ⟨h2, eL, eD, y⟩ := st_mod hb h1 co
  exact kI_B ⟨h2.tM, w_M_thrown_0 (rdF h2.tM y (kI_B (fin_J h2.tL (fun q => by rw [eL]; exact hv q) er (nx A' σ2 hA' h2))))⟩
theorem cs_3 {b Ls x c i : Nat} {xs : Nat → Int32} {A : AS} {σ : pm_H} {Q : pm_O → pm_H → Prop} (hb : b < x) (hL : Ls ≤ 3072) (hi : 6 * i + 6 ≤ Ls) (hA : okA A) (h : ST b Ls x xs A A c σ) (nx : ∀ A' σ', okA A' → ST b Ls x xs A' A' (c + 1) σ' → pm_R 40 282 1568 [.ref b, .ref x, .ref (x + 1777), .ref (x + 1812), .ref (x + 1813), .int (Int32.ofInt ((6 * i : Nat) : Int)), pm_U, pm_U, pm_U] [] σ' Q) : pm_R 40 282 234 [.ref b, .ref x, .ref (x + 1777), .ref (x + 1812), .ref (x + 1813), .int (Int32.ofInt ((6 * i : Nat) : Int)), pm_U, pm_U, pm_U] [] σ Q := by
  obtain ⟨z1, e1, r1⟩ := oi_of (xs (6 * i + 1))
  obtain ⟨z2, e2, r2⟩ := oi_of (xs (6 * i + 2))
  obtain ⟨z4, e4, r4⟩ := oi_of (xs (6 * i + 4))
  have cut : ∀ bb : Bool, (xs (6 * i + 3) = 0 ↔ bb = false) → pm_R 40 282 254 [.ref b, .ref x, .ref (x + 1777), .ref (x + 1812), .ref (x + 1813), .int (Int32.ofInt ((6 * i : Nat) : Int)), pm_U, pm_U, pm_U] [.int (bI bb), .int (Int32.ofInt z2), .int (Int32.ofInt z1), .ref x] σ Q := by
    intro bb hbb
    obtain ⟨k, v, A', hA', hC, hM⟩ := J_addTerm (x := x) (m := x + 1777) (N0 := x + 1814) (L := x + 1812) (b := bb) hA r1 r2 r4
    refine w_L_law_254 (gS h (sc4 i) (by omega) hL e4 (?_))
    refine pm_C_mono (fx_C (hC σ h.B h.tL) (by decide)) (fun o σ1 p => ?_)
    obtain ⟨rfl, hv, h1⟩ := st_cls hb h (by decide +kernel) p
    have M : pm_R 40 282 282 [.ref b, .ref x, .ref (x + 1777), .ref (x + 1812), .ref (x + 1813), .int (Int32.ofInt ((6 * i : Nat) : Int)), .int k, pm_U, pm_U] [.int (bI bb), .int (Int32.ofInt z2), .int (Int32.ofInt z1), .ref (x + 1777)] σ1 Q := by
      refine w_L_law_282 (gS h1 (sc4 i) (by omega) hL e4 (⟨h1.tM, ?_⟩))
      refine pm_C_mono (hM σ1 h1.M) (fun o σ2 p => ?_)
      obtain ⟨⟨r, rfl, er⟩, co⟩ := p
      obtain ⟨h2, eL, eD, y⟩ := st_mod hb h1 co
      exact kI_B ⟨h2.tM, w_M_thrown_0 (rdF h2.tM y (kI_B (fin_J h2.tL (fun q => by rw [eL]; exact hv q) er (nx A' σ2 hA' h2))))⟩
    exact kI_B (gS h1 (sc1 i) (by omega) hL e1 (gS h1 (sc2 i) (by omega) hL e2 (gS h1 (sc3 i) (by omega) hL rfl (gZ2 hbb (fun e => by rw [e] at M; exact M) (fun e => by rw [e] at M; exact M)))))
  exact w_L_law_234 (gS h (sc1 i) (by omega) hL e1 (gS h (sc2 i) (by omega) hL e2 (gS h (sc3 i) (by omega) hL rfl (⟨fun q => cut false ⟨fun _ => rfl, fun _ => q⟩, fun q => cut true ⟨fun w => absurd w q, fun w => by cases w⟩⟩))))
theorem cs_4 {b Ls x c i : Nat} {xs : Nat → Int32} {A : AS} {σ : pm_H} {Q : pm_O → pm_H → Prop} (hb : b < x) (hL : Ls ≤ 3072) (hi : 6 * i + 6 ≤ Ls) (hA : okA A) (h : ST b Ls x xs A A c σ) (nx : ∀ A' σ', okA A' → ST b Ls x xs A' A' (c + 1) σ' → pm_R 40 282 1568 [.ref b, .ref x, .ref (x + 1777), .ref (x + 1812), .ref (x + 1813), .int (Int32.ofInt ((6 * i : Nat) : Int)), pm_U, pm_U, pm_U] [] σ' Q) : pm_R 40 282 307 [.ref b, .ref x, .ref (x + 1777), .ref (x + 1812), .ref (x + 1813), .int (Int32.ofInt ((6 * i : Nat) : Int)), pm_U, pm_U, pm_U] [] σ Q := by
  obtain ⟨z1, e1, r1⟩ := oi_of (xs (6 * i + 1))
  obtain ⟨z2, e2, r2⟩ := oi_of (xs (6 * i + 2))
  obtain ⟨k, v, A', hA', hC, hM⟩ := J_removeRule (x := x) (m := x + 1777) (N0 := x + 1814) (L := x + 1812) hA r1 r2
  refine w_L_law_307 (gS h (sc1 i) (by omega) hL e1 (gS h (sc2 i) (by omega) hL e2 (?_)))
  refine pm_C_mono (fx_C (hC σ h.B h.tL) (by decide)) (fun o σ1 p => ?_)
  obtain ⟨rfl, hv, h1⟩ := st_cls hb h (by decide +kernel) p
  refine kI_B (gS h1 (sc1 i) (by omega) hL e1 (gS h1 (sc2 i) (by omega) hL e2 (⟨h1.tM, ?_⟩)))
  refine pm_C_mono (hM σ1 h1.M) (fun o σ2 p => ?_)
  obtain ⟨⟨r, rfl, er⟩, co⟩ := p
  obtain ⟨h2, eL, eD, y⟩ := st_mod hb h1 co
  exact kI_B ⟨h2.tM, w_M_thrown_0 (rdF h2.tM y (kI_B (fin_J h2.tL (fun q => by rw [eL]; exact hv q) er (nx A' σ2 hA' h2))))⟩
theorem cs_5 {b Ls x c i : Nat} {xs : Nat → Int32} {A : AS} {σ : pm_H} {Q : pm_O → pm_H → Prop} (hb : b < x) (hL : Ls ≤ 3072) (hi : 6 * i + 6 ≤ Ls) (hA : okA A) (h : ST b Ls x xs A A c σ) (nx : ∀ A' σ', okA A' → ST b Ls x xs A' A' (c + 1) σ' → pm_R 40 282 1568 [.ref b, .ref x, .ref (x + 1777), .ref (x + 1812), .ref (x + 1813), .int (Int32.ofInt ((6 * i : Nat) : Int)), pm_U, pm_U, pm_U] [] σ' Q) : pm_R 40 282 352 [.ref b, .ref x, .ref (x + 1777), .ref (x + 1812), .ref (x + 1813), .int (Int32.ofInt ((6 * i : Nat) : Int)), pm_U, pm_U, pm_U] [] σ Q := by
  obtain ⟨z1, e1, r1⟩ := oi_of (xs (6 * i + 1))
  obtain ⟨k, v, A', hA', hC, hM⟩ := J_rules (x := x) (m := x + 1777) (N0 := x + 1814) (L := x + 1812) hA r1
  refine w_L_law_352 (gS h (sc1 i) (by omega) hL e1 (?_))
  refine pm_C_mono (fx_C (hC σ h.B h.tL) (by decide)) (fun o σ1 p => ?_)
  obtain ⟨rfl, hv, h1⟩ := st_cls hb h (by decide +kernel) p
  refine kI_B (gS h1 (sc1 i) (by omega) hL e1 (⟨h1.tM, ?_⟩))
  refine pm_C_mono (hM σ1 h1.M) (fun o σ2 p => ?_)
  obtain ⟨⟨r, rfl, er⟩, co⟩ := p
  obtain ⟨h2, eL, eD, y⟩ := st_mod hb h1 co
  exact kI_B ⟨h2.tM, w_M_thrown_0 (rdF h2.tM y (kI_B (fin_J h2.tL (fun q => by rw [eL]; exact hv q) er (nx A' σ2 hA' h2))))⟩
theorem cs_6 {b Ls x c i : Nat} {xs : Nat → Int32} {A : AS} {σ : pm_H} {Q : pm_O → pm_H → Prop} (hb : b < x) (hL : Ls ≤ 3072) (hi : 6 * i + 6 ≤ Ls) (hA : okA A) (h : ST b Ls x xs A A c σ) (nx : ∀ A' σ', okA A' → ST b Ls x xs A' A' (c + 1) σ' → pm_R 40 282 1568 [.ref b, .ref x, .ref (x + 1777), .ref (x + 1812), .ref (x + 1813), .int (Int32.ofInt ((6 * i : Nat) : Int)), pm_U, pm_U, pm_U] [] σ' Q) : pm_R 40 282 387 [.ref b, .ref x, .ref (x + 1777), .ref (x + 1812), .ref (x + 1813), .int (Int32.ofInt ((6 * i : Nat) : Int)), pm_U, pm_U, pm_U] [] σ Q := by
  obtain ⟨z1, e1, r1⟩ := oi_of (xs (6 * i + 1))
  obtain ⟨k, v, A', hA', hC, hM⟩ := J_finals (x := x) (m := x + 1777) (N0 := x + 1814) (L := x + 1812) hA r1
  refine w_L_law_387 (gS h (sc1 i) (by omega) hL e1 (?_))
  refine pm_C_mono (fx_C (hC σ h.B h.tL) (by decide)) (fun o σ1 p => ?_)
  obtain ⟨rfl, hv, h1⟩ := st_cls hb h (by decide +kernel) p
  refine kI_B (gS h1 (sc1 i) (by omega) hL e1 (⟨h1.tM, ?_⟩))
  refine pm_C_mono (hM σ1 h1.M) (fun o σ2 p => ?_)
  obtain ⟨⟨r, rfl, er⟩, co⟩ := p
  obtain ⟨h2, eL, eD, y⟩ := st_mod hb h1 co
  exact kI_B ⟨h2.tM, w_M_thrown_0 (rdF h2.tM y (kI_B (fin_J h2.tL (fun q => by rw [eL]; exact hv q) er (nx A' σ2 hA' h2))))⟩
theorem cs_7 {b Ls x c i : Nat} {xs : Nat → Int32} {A : AS} {σ : pm_H} {Q : pm_O → pm_H → Prop} (hb : b < x) (hL : Ls ≤ 3072) (hi : 6 * i + 6 ≤ Ls) (hA : okA A) (h : ST b Ls x xs A A c σ) (nx : ∀ A' σ', okA A' → ST b Ls x xs A' A' (c + 1) σ' → pm_R 40 282 1568 [.ref b, .ref x, .ref (x + 1777), .ref (x + 1812), .ref (x + 1813), .int (Int32.ofInt ((6 * i : Nat) : Int)), pm_U, pm_U, pm_U] [] σ' Q) : pm_R 40 282 422 [.ref b, .ref x, .ref (x + 1777), .ref (x + 1812), .ref (x + 1813), .int (Int32.ofInt ((6 * i : Nat) : Int)), pm_U, pm_U, pm_U] [] σ Q := by
  obtain ⟨z1, e1, r1⟩ := oi_of (xs (6 * i + 1))
  obtain ⟨z2, e2, r2⟩ := oi_of (xs (6 * i + 2))
  obtain ⟨z3, e3, r3⟩ := oi_of (xs (6 * i + 3))
  obtain ⟨k, v, A', hA', hC, hM⟩ := J_rule (x := x) (m := x + 1777) (N0 := x + 1814) (L := x + 1812) hA r1 r2 r3
  refine w_L_law_422 (gS h (sc1 i) (by omega) hL e1 (gS h (sc2 i) (by omega) hL e2 (gS h (sc3 i) (by omega) hL e3 (?_))))
  refine pm_C_mono (fx_C (hC σ h.B h.tL) (by decide)) (fun o σ1 p => ?_)
  obtain ⟨rfl, hv, h1⟩ := st_cls hb h (by decide +kernel) p
  refine kI_B (gS h1 (sc1 i) (by omega) hL e1 (gS h1 (sc2 i) (by omega) hL e2 (gS h1 (sc3 i) (by omega) hL e3 (⟨h1.tM, ?_⟩))))
  refine pm_C_mono (hM σ1 h1.M) (fun o σ2 p => ?_)
  obtain ⟨⟨r, rfl, er⟩, co⟩ := p
  obtain ⟨h2, eL, eD, y⟩ := st_mod hb h1 co
  exact kI_B ⟨h2.tM, w_M_thrown_0 (rdF h2.tM y (kI_B (fin_J h2.tL (fun q => by rw [eL]; exact hv q) er (nx A' σ2 hA' h2))))⟩
theorem cs_8 {b Ls x c i : Nat} {xs : Nat → Int32} {A : AS} {σ : pm_H} {Q : pm_O → pm_H → Prop} (hb : b < x) (hL : Ls ≤ 3072) (hi : 6 * i + 6 ≤ Ls) (hA : okA A) (h : ST b Ls x xs A A c σ) (nx : ∀ A' σ', okA A' → ST b Ls x xs A' A' (c + 1) σ' → pm_R 40 282 1568 [.ref b, .ref x, .ref (x + 1777), .ref (x + 1812), .ref (x + 1813), .int (Int32.ofInt ((6 * i : Nat) : Int)), pm_U, pm_U, pm_U] [] σ' Q) : pm_R 40 282 477 [.ref b, .ref x, .ref (x + 1777), .ref (x + 1812), .ref (x + 1813), .int (Int32.ofInt ((6 * i : Nat) : Int)), pm_U, pm_U, pm_U] [] σ Q := by
  obtain ⟨z1, e1, r1⟩ := oi_of (xs (6 * i + 1))
  obtain ⟨z2, e2, r2⟩ := oi_of (xs (6 * i + 2))
  obtain ⟨z3, e3, r3⟩ := oi_of (xs (6 * i + 3))
  have cut : ∀ bb : Bool, (xs (6 * i + 4) = 0 ↔ bb = false) → pm_R 40 282 502 [.ref b, .ref x, .ref (x + 1777), .ref (x + 1812), .ref (x + 1813), .int (Int32.ofInt ((6 * i : Nat) : Int)), pm_U, pm_U, pm_U] [.int (bI bb), .int (Int32.ofInt z3), .int (Int32.ofInt z2), .int (Int32.ofInt z1), .ref x] σ Q := by
    intro bb hbb
    obtain ⟨k, v, A', hA', hC, hM⟩ := J_range (x := x) (m := x + 1777) (N0 := x + 1814) (L := x + 1812) (b := bb) hA r1 r2 r3
    refine w_L_law_502 ?_
    refine pm_C_mono (fx_C (hC σ h.B h.tL) (by decide)) (fun o σ1 p => ?_)
    obtain ⟨rfl, hv, h1⟩ := st_cls hb h (by decide +kernel) p
    have M : pm_R 40 282 530 [.ref b, .ref x, .ref (x + 1777), .ref (x + 1812), .ref (x + 1813), .int (Int32.ofInt ((6 * i : Nat) : Int)), .int k, pm_U, pm_U] [.int (bI bb), .int (Int32.ofInt z3), .int (Int32.ofInt z2), .int (Int32.ofInt z1), .ref (x + 1777)] σ1 Q := by
      refine w_L_law_530 (⟨h1.tM, ?_⟩)
      refine pm_C_mono (hM σ1 h1.M) (fun o σ2 p => ?_)
      obtain ⟨⟨r, rfl, er⟩, co⟩ := p
      obtain ⟨h2, eL, eD, y⟩ := st_mod hb h1 co
      exact kI_B ⟨h2.tM, w_M_thrown_0 (rdF h2.tM y (kI_B (fin_J h2.tL (fun q => by rw [eL]; exact hv q) er (nx A' σ2 hA' h2))))⟩
    exact kI_B (gS h1 (sc1 i) (by omega) hL e1 (gS h1 (sc2 i) (by omega) hL e2 (gS h1 (sc3 i) (by omega) hL e3 (gS h1 (sc4 i) (by omega) hL rfl (gZ2 hbb (fun e => by rw [e] at M; exact M) (fun e => by rw [e] at M; exact M))))))
  exact w_L_law_477 (gS h (sc1 i) (by omega) hL e1 (gS h (sc2 i) (by omega) hL e2 (gS h (sc3 i) (by omega) hL e3 (gS h (sc4 i) (by omega) hL rfl (⟨fun q => cut false ⟨fun _ => rfl, fun _ => q⟩, fun q => cut true ⟨fun w => absurd w q, fun w => by cases w⟩⟩)))))
theorem cs_9 {b Ls x c i : Nat} {xs : Nat → Int32} {A : AS} {σ : pm_H} {Q : pm_O → pm_H → Prop} (hb : b < x) (hL : Ls ≤ 3072) (hi : 6 * i + 6 ≤ Ls) (hA : okA A) (h : ST b Ls x xs A A c σ) (nx : ∀ A' σ', okA A' → ST b Ls x xs A' A' (c + 1) σ' → pm_R 40 282 1568 [.ref b, .ref x, .ref (x + 1777), .ref (x + 1812), .ref (x + 1813), .int (Int32.ofInt ((6 * i : Nat) : Int)), pm_U, pm_U, pm_U] [] σ' Q) : pm_R 40 282 550 [.ref b, .ref x, .ref (x + 1777), .ref (x + 1812), .ref (x + 1813), .int (Int32.ofInt ((6 * i : Nat) : Int)), pm_U, pm_U, pm_U] [] σ Q := by
  obtain ⟨z1, e1, r1⟩ := oi_of (xs (6 * i + 1))
  obtain ⟨z2, e2, r2⟩ := oi_of (xs (6 * i + 2))
  obtain ⟨z3, e3, r3⟩ := oi_of (xs (6 * i + 3))
  obtain ⟨k, v, A', hA', hC, hM⟩ := J_term (x := x) (m := x + 1777) (N0 := x + 1814) (L := x + 1812) hA r1 r2 r3
  refine w_L_law_550 (gS h (sc1 i) (by omega) hL e1 (gS h (sc2 i) (by omega) hL e2 (gS h (sc3 i) (by omega) hL e3 (?_))))
  refine pm_C_mono (fx_C (hC σ h.B h.tL) (by decide)) (fun o σ1 p => ?_)
  obtain ⟨rfl, hv, h1⟩ := st_cls hb h (by decide +kernel) p
  refine kI_B (gS h1 (sc1 i) (by omega) hL e1 (gS h1 (sc2 i) (by omega) hL e2 (gS h1 (sc3 i) (by omega) hL e3 (⟨h1.tM, ?_⟩))))
  refine pm_C_mono (hM σ1 h1.M) (fun o σ2 p => ?_)
  obtain ⟨⟨r, rfl, er⟩, co⟩ := p
  obtain ⟨h2, eL, eD, y⟩ := st_mod hb h1 co
  exact kI_B ⟨h2.tM, w_M_thrown_0 (rdF h2.tM y (kI_B (fin_J h2.tL (fun q => by rw [eL]; exact hv q) er (nx A' σ2 hA' h2))))⟩
theorem cs_10 {b Ls x c i : Nat} {xs : Nat → Int32} {A : AS} {σ : pm_H} {Q : pm_O → pm_H → Prop} (hb : b < x) (hL : Ls ≤ 3072) (hi : 6 * i + 6 ≤ Ls) (hA : okA A) (h : ST b Ls x xs A A c σ) (nx : ∀ A' σ', okA A' → ST b Ls x xs A' A' (c + 1) σ' → pm_R 40 282 1568 [.ref b, .ref x, .ref (x + 1777), .ref (x + 1812), .ref (x + 1813), .int (Int32.ofInt ((6 * i : Nat) : Int)), pm_U, pm_U, pm_U] [] σ' Q) : pm_R 40 282 605 [.ref b, .ref x, .ref (x + 1777), .ref (x + 1812), .ref (x + 1813), .int (Int32.ofInt ((6 * i : Nat) : Int)), pm_U, pm_U, pm_U] [] σ Q := by
  obtain ⟨z1, e1, r1⟩ := oi_of (xs (6 * i + 1))
  obtain ⟨z2, e2, r2⟩ := oi_of (xs (6 * i + 2))
  obtain ⟨z3, e3, r3⟩ := oi_of (xs (6 * i + 3))
  obtain ⟨z4, e4, r4⟩ := oi_of (xs (6 * i + 4))
  obtain ⟨k, v, A', hA', hC, hM⟩ := J_valueOf (x := x) (m := x + 1777) (N0 := x + 1814) (L := x + 1812) hA r1 r2 r3 r4
  refine w_L_law_605 (gS h (sc1 i) (by omega) hL e1 (gS h (sc2 i) (by omega) hL e2 (gS h (sc3 i) (by omega) hL e3 (gS h (sc4 i) (by omega) hL e4 (?_)))))
  refine pm_C_mono (fx_C (hC σ h.B h.tL) (by decide)) (fun o σ1 p => ?_)
  obtain ⟨rfl, hv, h1⟩ := st_cls hb h (by decide +kernel) p
  refine kI_B (gS h1 (sc1 i) (by omega) hL e1 (gS h1 (sc2 i) (by omega) hL e2 (gS h1 (sc3 i) (by omega) hL e3 (gS h1 (sc4 i) (by omega) hL e4 (⟨h1.tM, ?_⟩)))))
  refine pm_C_mono (hM σ1 h1.M) (fun o σ2 p => ?_)
  obtain ⟨⟨r, rfl, er⟩, co⟩ := p
  obtain ⟨h2, eL, eD, y⟩ := st_mod hb h1 co
  exact kI_B ⟨h2.tM, w_M_thrown_0 (rdF h2.tM y (kI_B (fin_J h2.tL (fun q => by rw [eL]; exact hv q) er (nx A' σ2 hA' h2))))⟩
theorem cs_11 {b Ls x c i : Nat} {xs : Nat → Int32} {A : AS} {σ : pm_H} {Q : pm_O → pm_H → Prop} (hb : b < x) (hL : Ls ≤ 3072) (hi : 6 * i + 6 ≤ Ls) (hA : okA A) (h : ST b Ls x xs A A c σ) (nx : ∀ A' σ', okA A' → ST b Ls x xs A' A' (c + 1) σ' → pm_R 40 282 1568 [.ref b, .ref x, .ref (x + 1777), .ref (x + 1812), .ref (x + 1813), .int (Int32.ofInt ((6 * i : Nat) : Int)), pm_U, pm_U, pm_U] [] σ' Q) : pm_R 40 282 670 [.ref b, .ref x, .ref (x + 1777), .ref (x + 1812), .ref (x + 1813), .int (Int32.ofInt ((6 * i : Nat) : Int)), pm_U, pm_U, pm_U] [] σ Q := by
  obtain ⟨ch, hc, ec⟩ := zch (xs (6 * i + 1))
  obtain ⟨k, v, A', hA', hC, hM⟩ := J_feed (x := x) (m := x + 1777) (N0 := x + 1814) (L := x + 1812) hA hc
  refine w_L_law_670 (gS h (sc1 i) (by omega) hL rfl (?_))
  rw [ec]
  refine pm_C_mono (fx_C (hC σ h.B h.tL) (by decide)) (fun o σ1 p => ?_)
  obtain ⟨rfl, hv, h1⟩ := st_cls hb h (by decide +kernel) p
  refine kI_B (gS h1 (sc1 i) (by omega) hL rfl (⟨h1.tM, ?_⟩))
  rw [ec]
  refine pm_C_mono (hM σ1 h1.M) (fun o σ2 p => ?_)
  obtain ⟨⟨r, rfl, er⟩, co⟩ := p
  obtain ⟨h2, eL, eD, y⟩ := st_mod hb h1 co
  exact kI_B ⟨h2.tM, w_M_thrown_0 (rdF h2.tM y (kI_B (fin_J h2.tL (fun q => by rw [eL]; exact hv q) er (nx A' σ2 hA' h2))))⟩
theorem cs_12 {b Ls x c i : Nat} {xs : Nat → Int32} {A : AS} {σ : pm_H} {Q : pm_O → pm_H → Prop} (hb : b < x) (hL : Ls ≤ 3072) (hi : 6 * i + 6 ≤ Ls) (hA : okA A) (h : ST b Ls x xs A A c σ) (nx : ∀ A' σ', okA A' → ST b Ls x xs A' A' (c + 1) σ' → pm_R 40 282 1568 [.ref b, .ref x, .ref (x + 1777), .ref (x + 1812), .ref (x + 1813), .int (Int32.ofInt ((6 * i : Nat) : Int)), pm_U, pm_U, pm_U] [] σ' Q) : pm_R 40 282 707 [.ref b, .ref x, .ref (x + 1777), .ref (x + 1812), .ref (x + 1813), .int (Int32.ofInt ((6 * i : Nat) : Int)), pm_U, pm_U, pm_U] [] σ Q := by
  obtain ⟨z1, e1, r1⟩ := oi_of (xs (6 * i + 1))
  obtain ⟨k, v, A', hA', hC, hM⟩ := J_parse (x := x) (m := x + 1777) (N0 := x + 1814) (L := x + 1812) hA r1
  refine w_L_law_707 (gS h (sc1 i) (by omega) hL e1 (?_))
  refine pm_C_mono (fx_C (hC σ h.B h.tL) (by decide)) (fun o σ1 p => ?_)
  obtain ⟨rfl, hv, h1⟩ := st_cls hb h (by decide +kernel) p
  refine kI_B (gS h1 (sc1 i) (by omega) hL e1 (⟨h1.tM, ?_⟩))
  refine pm_C_mono (hM σ1 h1.M) (fun o σ2 p => ?_)
  obtain ⟨⟨r, rfl, er⟩, co⟩ := p
  obtain ⟨h2, eL, eD, y⟩ := st_mod hb h1 co
  exact kI_B ⟨h2.tM, w_M_thrown_0 (rdF h2.tM y (kI_B (fin_J h2.tL (fun q => by rw [eL]; exact hv q) er (nx A' σ2 hA' h2))))⟩
theorem cs_13 {b Ls x c i : Nat} {xs : Nat → Int32} {A : AS} {σ : pm_H} {Q : pm_O → pm_H → Prop} (hb : b < x) (hL : Ls ≤ 3072) (hi : 6 * i + 6 ≤ Ls) (hA : okA A) (h : ST b Ls x xs A A c σ) (nx : ∀ A' σ', okA A' → ST b Ls x xs A' A' (c + 1) σ' → pm_R 40 282 1568 [.ref b, .ref x, .ref (x + 1777), .ref (x + 1812), .ref (x + 1813), .int (Int32.ofInt ((6 * i : Nat) : Int)), pm_U, pm_U, pm_U] [] σ' Q) : pm_R 40 282 742 [.ref b, .ref x, .ref (x + 1777), .ref (x + 1812), .ref (x + 1813), .int (Int32.ofInt ((6 * i : Nat) : Int)), pm_U, pm_U, pm_U] [] σ Q := by
  obtain ⟨z1, e1, r1⟩ := oi_of (xs (6 * i + 1))
  obtain ⟨k, v, A', hA', hC, hM⟩ := J_push (x := x) (m := x + 1777) (N0 := x + 1814) (L := x + 1812) hA r1
  refine w_L_law_742 (gS h (sc1 i) (by omega) hL e1 (?_))
  refine pm_C_mono (fx_C (hC σ h.B h.tL) (by decide)) (fun o σ1 p => ?_)
  obtain ⟨rfl, hv, h1⟩ := st_cls hb h (by decide +kernel) p
  refine kI_B (gS h1 (sc1 i) (by omega) hL e1 (⟨h1.tM, ?_⟩))
  refine pm_C_mono (hM σ1 h1.M) (fun o σ2 p => ?_)
  obtain ⟨⟨r, rfl, er⟩, co⟩ := p
  obtain ⟨h2, eL, eD, y⟩ := st_mod hb h1 co
  exact kI_B ⟨h2.tM, w_M_thrown_0 (rdF h2.tM y (kI_B (fin_J h2.tL (fun q => by rw [eL]; exact hv q) er (nx A' σ2 hA' h2))))⟩
theorem cs_15 {b Ls x c i : Nat} {xs : Nat → Int32} {A : AS} {σ : pm_H} {Q : pm_O → pm_H → Prop} (hb : b < x) (hL : Ls ≤ 3072) (hi : 6 * i + 6 ≤ Ls) (hA : okA A) (h : ST b Ls x xs A A c σ) (nx : ∀ A' σ', okA A' → ST b Ls x xs A' A' (c + 1) σ' → pm_R 40 282 1568 [.ref b, .ref x, .ref (x + 1777), .ref (x + 1812), .ref (x + 1813), .int (Int32.ofInt ((6 * i : Nat) : Int)), pm_U, pm_U, pm_U] [] σ' Q) : pm_R 40 282 784 [.ref b, .ref x, .ref (x + 1777), .ref (x + 1812), .ref (x + 1813), .int (Int32.ofInt ((6 * i : Nat) : Int)), pm_U, pm_U, pm_U] [] σ Q := by
  obtain ⟨z1, e1, r1⟩ := oi_of (xs (6 * i + 1))
  obtain ⟨k, v, A', hA', hC, hM⟩ := J_symbol (x := x) (m := x + 1777) (N0 := x + 1814) (L := x + 1812) hA r1
  refine w_L_law_784 (gS h (sc1 i) (by omega) hL e1 (?_))
  refine pm_C_mono (fx_C (hC σ h.B h.tL) (by decide)) (fun o σ1 p => ?_)
  obtain ⟨rfl, hv, h1⟩ := st_cls hb h (by decide +kernel) p
  refine kI_B (gS h1 (sc1 i) (by omega) hL e1 (⟨h1.tM, ?_⟩))
  refine pm_C_mono (hM σ1 h1.M) (fun o σ2 p => ?_)
  obtain ⟨⟨r, rfl, er⟩, co⟩ := p
  obtain ⟨h2, eL, eD, y⟩ := st_mod hb h1 co
  exact kI_B ⟨h2.tM, w_M_thrown_0 (rdF h2.tM y (kI_B (fin_J h2.tL (fun q => by rw [eL]; exact hv q) er (nx A' σ2 hA' h2))))⟩
theorem cs_16 {b Ls x c i : Nat} {xs : Nat → Int32} {A : AS} {σ : pm_H} {Q : pm_O → pm_H → Prop} (hb : b < x) (hL : Ls ≤ 3072) (hi : 6 * i + 6 ≤ Ls) (hA : okA A) (h : ST b Ls x xs A A c σ) (nx : ∀ A' σ', okA A' → ST b Ls x xs A' A' (c + 1) σ' → pm_R 40 282 1568 [.ref b, .ref x, .ref (x + 1777), .ref (x + 1812), .ref (x + 1813), .int (Int32.ofInt ((6 * i : Nat) : Int)), pm_U, pm_U, pm_U] [] σ' Q) : pm_R 40 282 819 [.ref b, .ref x, .ref (x + 1777), .ref (x + 1812), .ref (x + 1813), .int (Int32.ofInt ((6 * i : Nat) : Int)), pm_U, pm_U, pm_U] [] σ Q := by
  obtain ⟨z1, e1, r1⟩ := oi_of (xs (6 * i + 1))
  obtain ⟨k, v, A', hA', hC, hM⟩ := J_runs (x := x) (m := x + 1777) (N0 := x + 1814) (L := x + 1812) hA r1
  refine w_L_law_819 (gS h (sc1 i) (by omega) hL e1 (?_))
  refine pm_C_mono (fx_C (hC σ h.B h.tL) (by decide)) (fun o σ1 p => ?_)
  obtain ⟨rfl, hv, h1⟩ := st_cls hb h (by decide +kernel) p
  refine kI_B (gS h1 (sc1 i) (by omega) hL e1 (⟨h1.tM, ?_⟩))
  refine pm_C_mono (hM σ1 h1.M) (fun o σ2 p => ?_)
  obtain ⟨⟨r, rfl, er⟩, co⟩ := p
  obtain ⟨h2, eL, eD, y⟩ := st_mod hb h1 co
  exact kJ_B ⟨h2.tM, w_M_thrown_0 (rdF h2.tM y (kI_B (fin_J h2.tL (fun q => by rw [eL]; exact hv q) er (nx A' σ2 hA' h2))))⟩
theorem cs_17 {b Ls x c i : Nat} {xs : Nat → Int32} {A : AS} {σ : pm_H} {Q : pm_O → pm_H → Prop} (hb : b < x) (hL : Ls ≤ 3072) (hi : 6 * i + 6 ≤ Ls) (hA : okA A) (h : ST b Ls x xs A A c σ) (nx : ∀ A' σ', okA A' → ST b Ls x xs A' A' (c + 1) σ' → pm_R 40 282 1568 [.ref b, .ref x, .ref (x + 1777), .ref (x + 1812), .ref (x + 1813), .int (Int32.ofInt ((6 * i : Nat) : Int)), pm_U, pm_U, pm_U] [] σ' Q) : pm_R 40 282 853 [.ref b, .ref x, .ref (x + 1777), .ref (x + 1812), .ref (x + 1813), .int (Int32.ofInt ((6 * i : Nat) : Int)), pm_U, pm_U, pm_U] [] σ Q := by
  obtain ⟨z1, e1, r1⟩ := oi_of (xs (6 * i + 1))
  have cut : ∀ bb : Bool, (xs (6 * i + 2) = 0 ↔ bb = false) → pm_R 40 282 868 [.ref b, .ref x, .ref (x + 1777), .ref (x + 1812), .ref (x + 1813), .int (Int32.ofInt ((6 * i : Nat) : Int)), pm_U, pm_U, pm_U] [.int (bI bb), .int (Int32.ofInt z1), .ref x] σ Q := by
    intro bb hbb
    obtain ⟨k, v, A', hA', hC, hM⟩ := J_transduce (x := x) (m := x + 1777) (N0 := x + 1814) (L := x + 1812) (b := bb) hA r1
    refine w_L_law_868 ?_
    refine pm_C_mono (fx_C (hC σ h.B h.tL) (by decide)) (fun o σ1 p => ?_)
    obtain ⟨rfl, hv, h1⟩ := st_cls hb h (by decide +kernel) p
    have M : pm_R 40 282 886 [.ref b, .ref x, .ref (x + 1777), .ref (x + 1812), .ref (x + 1813), .int (Int32.ofInt ((6 * i : Nat) : Int)), .int k, pm_U, pm_U] [.int (bI bb), .int (Int32.ofInt z1), .ref (x + 1777)] σ1 Q := by
      refine w_L_law_886 (⟨h1.tM, ?_⟩)
      refine pm_C_mono (hM σ1 h1.M) (fun o σ2 p => ?_)
      obtain ⟨⟨r, rfl, er⟩, co⟩ := p
      obtain ⟨h2, eL, eD, y⟩ := st_mod hb h1 co
      exact kI_B ⟨h2.tM, w_M_thrown_0 (rdF h2.tM y (kI_B (fin_J h2.tL (fun q => by rw [eL]; exact hv q) er (nx A' σ2 hA' h2))))⟩
    exact kI_B (gS h1 (sc1 i) (by omega) hL e1 (gS h1 (sc2 i) (by omega) hL rfl (gZ2 hbb (fun e => by rw [e] at M; exact M) (fun e => by rw [e] at M; exact M))))
  exact w_L_law_853 (gS h (sc1 i) (by omega) hL e1 (gS h (sc2 i) (by omega) hL rfl (⟨fun q => cut false ⟨fun _ => rfl, fun _ => q⟩, fun q => cut true ⟨fun w => absurd w q, fun w => by cases w⟩⟩)))
theorem cs_18 {b Ls x c i : Nat} {xs : Nat → Int32} {A : AS} {σ : pm_H} {Q : pm_O → pm_H → Prop} (hb : b < x) (hL : Ls ≤ 3072) (hi : 6 * i + 6 ≤ Ls) (hA : okA A) (h : ST b Ls x xs A A c σ) (nx : ∀ A' σ', okA A' → ST b Ls x xs A' A' (c + 1) σ' → pm_R 40 282 1568 [.ref b, .ref x, .ref (x + 1777), .ref (x + 1812), .ref (x + 1813), .int (Int32.ofInt ((6 * i : Nat) : Int)), pm_U, pm_U, pm_U] [] σ' Q) : pm_R 40 282 906 [.ref b, .ref x, .ref (x + 1777), .ref (x + 1812), .ref (x + 1813), .int (Int32.ofInt ((6 * i : Nat) : Int)), pm_U, pm_U, pm_U] [] σ Q := by
  obtain ⟨z1, e1, r1⟩ := oi_of (xs (6 * i + 1))
  obtain ⟨k, v, A', hA', hC, hM⟩ := J_result (x := x) (m := x + 1777) (N0 := x + 1814) (L := x + 1812) hA r1
  refine w_L_law_906 (gS h (sc1 i) (by omega) hL e1 (?_))
  refine pm_C_mono (fx_C (hC σ h.B h.tL) (by decide)) (fun o σ1 p => ?_)
  obtain ⟨rfl, hv, h1⟩ := st_cls hb h (by decide +kernel) p
  refine kI_B (gS h1 (sc1 i) (by omega) hL e1 (⟨h1.tM, ?_⟩))
  refine pm_C_mono (hM σ1 h1.M) (fun o σ2 p => ?_)
  obtain ⟨⟨r, rfl, er⟩, co⟩ := p
  obtain ⟨h2, eL, eD, y⟩ := st_mod hb h1 co
  exact kI_B ⟨h2.tM, w_M_thrown_0 (rdF h2.tM y (kI_B (fin_J h2.tL (fun q => by rw [eL]; exact hv q) er (nx A' σ2 hA' h2))))⟩
theorem cs_19 {b Ls x c i : Nat} {xs : Nat → Int32} {A : AS} {σ : pm_H} {Q : pm_O → pm_H → Prop} (hb : b < x) (hL : Ls ≤ 3072) (hi : 6 * i + 6 ≤ Ls) (hA : okA A) (h : ST b Ls x xs A A c σ) (nx : ∀ A' σ', okA A' → ST b Ls x xs A' A' (c + 1) σ' → pm_R 40 282 1568 [.ref b, .ref x, .ref (x + 1777), .ref (x + 1812), .ref (x + 1813), .int (Int32.ofInt ((6 * i : Nat) : Int)), pm_U, pm_U, pm_U] [] σ' Q) : pm_R 40 282 941 [.ref b, .ref x, .ref (x + 1777), .ref (x + 1812), .ref (x + 1813), .int (Int32.ofInt ((6 * i : Nat) : Int)), pm_U, pm_U, pm_U] [] σ Q := by
  obtain ⟨k, v, A', hA', hC, hM⟩ := J_useResult (x := x) (m := x + 1777) (N0 := x + 1814) (L := x + 1812) hA 
  refine w_L_law_941 ?_
  refine pm_C_mono (fx_C (hC σ h.B h.tL) (by decide)) (fun o σ1 p => ?_)
  obtain ⟨rfl, hv, h1⟩ := st_cls hb h (by decide +kernel) p
  refine kI_B (⟨h1.tM, ?_⟩)
  refine pm_C_mono (hM σ1 h1.M) (fun o σ2 p => ?_)
  obtain ⟨⟨r, rfl, er⟩, co⟩ := p
  obtain ⟨h2, eL, eD, y⟩ := st_mod hb h1 co
  exact kI_B ⟨h2.tM, w_M_thrown_0 (rdF h2.tM y (kI_B (fin_J h2.tL (fun q => by rw [eL]; exact hv q) er (nx A' σ2 hA' h2))))⟩
theorem cs_20 {b Ls x c i : Nat} {xs : Nat → Int32} {A : AS} {σ : pm_H} {Q : pm_O → pm_H → Prop} (hb : b < x) (hL : Ls ≤ 3072) (hi : 6 * i + 6 ≤ Ls) (hA : okA A) (h : ST b Ls x xs A A c σ) (nx : ∀ A' σ', okA A' → ST b Ls x xs A' A' (c + 1) σ' → pm_R 40 282 1568 [.ref b, .ref x, .ref (x + 1777), .ref (x + 1812), .ref (x + 1813), .int (Int32.ofInt ((6 * i : Nat) : Int)), pm_U, pm_U, pm_U] [] σ' Q) : pm_R 40 282 966 [.ref b, .ref x, .ref (x + 1777), .ref (x + 1812), .ref (x + 1813), .int (Int32.ofInt ((6 * i : Nat) : Int)), pm_U, pm_U, pm_U] [] σ Q := by
  obtain ⟨z1, e1, r1⟩ := oi_of (xs (6 * i + 1))
  obtain ⟨z2, e2, r2⟩ := oi_of (xs (6 * i + 2))
  obtain ⟨k, v, A', hA', hC, hM⟩ := J_domainCount (x := x) (m := x + 1777) (N0 := x + 1814) (L := x + 1812) hA r1 r2
  refine w_L_law_966 (gS h (sc1 i) (by omega) hL e1 (gS h (sc2 i) (by omega) hL e2 (?_)))
  refine pm_C_mono (fx_C (hC σ h.B h.tL) (by decide)) (fun o σ1 p => ?_)
  obtain ⟨rfl, hv, h1⟩ := st_cls hb h (by decide +kernel) p
  refine kI_B (gS h1 (sc1 i) (by omega) hL e1 (gS h1 (sc2 i) (by omega) hL e2 (⟨h1.tM, ?_⟩)))
  refine pm_C_mono (hM σ1 h1.M) (fun o σ2 p => ?_)
  obtain ⟨⟨r, rfl, er⟩, co⟩ := p
  obtain ⟨h2, eL, eD, y⟩ := st_mod hb h1 co
  exact kJ_B ⟨h2.tM, w_M_thrown_0 (rdF h2.tM y (kI_B (fin_J h2.tL (fun q => by rw [eL]; exact hv q) er (nx A' σ2 hA' h2))))⟩
theorem cs_21 {b Ls x c i : Nat} {xs : Nat → Int32} {A : AS} {σ : pm_H} {Q : pm_O → pm_H → Prop} (hb : b < x) (hL : Ls ≤ 3072) (hi : 6 * i + 6 ≤ Ls) (hA : okA A) (h : ST b Ls x xs A A c σ) (nx : ∀ A' σ', okA A' → ST b Ls x xs A' A' (c + 1) σ' → pm_R 40 282 1568 [.ref b, .ref x, .ref (x + 1777), .ref (x + 1812), .ref (x + 1813), .int (Int32.ofInt ((6 * i : Nat) : Int)), pm_U, pm_U, pm_U] [] σ' Q) : pm_R 40 282 1010 [.ref b, .ref x, .ref (x + 1777), .ref (x + 1812), .ref (x + 1813), .int (Int32.ofInt ((6 * i : Nat) : Int)), pm_U, pm_U, pm_U] [] σ Q := by
  obtain ⟨z1, e1, r1⟩ := oi_of (xs (6 * i + 1))
  obtain ⟨z2, e2, r2⟩ := oi_of (xs (6 * i + 2))
  obtain ⟨k, v, A', hA', hC, hM⟩ := J_domainShare (x := x) (m := x + 1777) (N0 := x + 1814) (L := x + 1813) hA r1 r2
  refine w_L_law_1010 (gS h (sc1 i) (by omega) hL e1 (gS h (sc2 i) (by omega) hL e2 (?_)))
  refine pm_C_mono (fx_C (hC σ h.B h.tD) (by decide)) (fun o σ1 p => ?_)
  obtain ⟨rfl, hv, h1⟩ := st_clsD hb h (by decide +kernel) p
  refine kI_B (gS h1 (sc1 i) (by omega) hL e1 (gS h1 (sc2 i) (by omega) hL e2 (⟨h1.tM, ?_⟩)))
  refine pm_C_mono (hM σ1 h1.M) (fun o σ2 p => ?_)
  obtain ⟨⟨r, rfl, er⟩, co⟩ := p
  obtain ⟨h2, eL, eD, y⟩ := st_mod hb h1 co
  exact kD_B ⟨h2.tM, w_M_thrown_0 (rdF h2.tM y (kI_B (fin_D h2.tD (fun q => by rw [eD]; exact hv q) er (nx A' σ2 hA' h2))))⟩
theorem cs_22 {b Ls x c i : Nat} {xs : Nat → Int32} {A : AS} {σ : pm_H} {Q : pm_O → pm_H → Prop} (hb : b < x) (hL : Ls ≤ 3072) (hi : 6 * i + 6 ≤ Ls) (hA : okA A) (h : ST b Ls x xs A A c σ) (nx : ∀ A' σ', okA A' → ST b Ls x xs A' A' (c + 1) σ' → pm_R 40 282 1568 [.ref b, .ref x, .ref (x + 1777), .ref (x + 1812), .ref (x + 1813), .int (Int32.ofInt ((6 * i : Nat) : Int)), pm_U, pm_U, pm_U] [] σ' Q) : pm_R 40 282 1066 [.ref b, .ref x, .ref (x + 1777), .ref (x + 1812), .ref (x + 1813), .int (Int32.ofInt ((6 * i : Nat) : Int)), pm_U, pm_U, pm_U] [] σ Q := by
  obtain ⟨z1, e1, r1⟩ := oi_of (xs (6 * i + 1))
  obtain ⟨k, v, A', hA', hC, hM⟩ := J_shortestInput (x := x) (m := x + 1777) (N0 := x + 1814) (L := x + 1812) hA r1
  refine w_L_law_1066 (gS h (sc1 i) (by omega) hL e1 (?_))
  refine pm_C_mono (fx_C (hC σ h.B h.tL) (by decide)) (fun o σ1 p => ?_)
  obtain ⟨rfl, hv, h1⟩ := st_cls hb h (by decide +kernel) p
  refine kI_B (gS h1 (sc1 i) (by omega) hL e1 (⟨h1.tM, ?_⟩))
  refine pm_C_mono (hM σ1 h1.M) (fun o σ2 p => ?_)
  obtain ⟨⟨r, rfl, er⟩, co⟩ := p
  obtain ⟨h2, eL, eD, y⟩ := st_mod hb h1 co
  exact kI_B ⟨h2.tM, w_M_thrown_0 (rdF h2.tM y (kI_B (fin_J h2.tL (fun q => by rw [eL]; exact hv q) er (nx A' σ2 hA' h2))))⟩
theorem cs_23 {b Ls x c i : Nat} {xs : Nat → Int32} {A : AS} {σ : pm_H} {Q : pm_O → pm_H → Prop} (hb : b < x) (hL : Ls ≤ 3072) (hi : 6 * i + 6 ≤ Ls) (hA : okA A) (h : ST b Ls x xs A A c σ) (nx : ∀ A' σ', okA A' → ST b Ls x xs A' A' (c + 1) σ' → pm_R 40 282 1568 [.ref b, .ref x, .ref (x + 1777), .ref (x + 1812), .ref (x + 1813), .int (Int32.ofInt ((6 * i : Nat) : Int)), pm_U, pm_U, pm_U] [] σ' Q) : pm_R 40 282 1101 [.ref b, .ref x, .ref (x + 1777), .ref (x + 1812), .ref (x + 1813), .int (Int32.ofInt ((6 * i : Nat) : Int)), pm_U, pm_U, pm_U] [] σ Q := by
  obtain ⟨z1, e1, r1⟩ := oi_of (xs (6 * i + 1))
  obtain ⟨k, v, A', hA', hC, hM⟩ := J_outputSymbols (x := x) (m := x + 1777) (N0 := x + 1814) (L := x + 1812) hA r1
  refine w_L_law_1101 (gS h (sc1 i) (by omega) hL e1 (?_))
  refine pm_C_mono (fx_C (hC σ h.B h.tL) (by decide)) (fun o σ1 p => ?_)
  obtain ⟨rfl, hv, h1⟩ := st_cls hb h (by decide +kernel) p
  refine kI_B (gS h1 (sc1 i) (by omega) hL e1 (⟨h1.tM, ?_⟩))
  refine pm_C_mono (hM σ1 h1.M) (fun o σ2 p => ?_)
  obtain ⟨⟨r, rfl, er⟩, co⟩ := p
  obtain ⟨h2, eL, eD, y⟩ := st_mod hb h1 co
  exact kI_B ⟨h2.tM, w_M_thrown_0 (rdF h2.tM y (kI_B (fin_J h2.tL (fun q => by rw [eL]; exact hv q) er (nx A' σ2 hA' h2))))⟩
theorem cs_24 {b Ls x c i : Nat} {xs : Nat → Int32} {A : AS} {σ : pm_H} {Q : pm_O → pm_H → Prop} (hb : b < x) (hL : Ls ≤ 3072) (hi : 6 * i + 6 ≤ Ls) (hA : okA A) (h : ST b Ls x xs A A c σ) (nx : ∀ A' σ', okA A' → ST b Ls x xs A' A' (c + 1) σ' → pm_R 40 282 1568 [.ref b, .ref x, .ref (x + 1777), .ref (x + 1812), .ref (x + 1813), .int (Int32.ofInt ((6 * i : Nat) : Int)), pm_U, pm_U, pm_U] [] σ' Q) : pm_R 40 282 1136 [.ref b, .ref x, .ref (x + 1777), .ref (x + 1812), .ref (x + 1813), .int (Int32.ofInt ((6 * i : Nat) : Int)), pm_U, pm_U, pm_U] [] σ Q := by
  obtain ⟨z1, e1, r1⟩ := oi_of (xs (6 * i + 1))
  obtain ⟨k, v, A', hA', hC, hM⟩ := J_isDeterministic (x := x) (m := x + 1777) (N0 := x + 1814) (L := x + 1812) hA r1
  refine w_L_law_1136 (gS h (sc1 i) (by omega) hL e1 (?_))
  refine pm_C_mono (fx_C (hC σ h.B h.tL) (by decide)) (fun o σ1 p => ?_)
  obtain ⟨rfl, hv, h1⟩ := st_cls hb h (by decide +kernel) p
  refine kI_B (gS h1 (sc1 i) (by omega) hL e1 (⟨h1.tM, ?_⟩))
  refine pm_C_mono (hM σ1 h1.M) (fun o σ2 p => ?_)
  obtain ⟨⟨r, rfl, er⟩, co⟩ := p
  obtain ⟨h2, eL, eD, y⟩ := st_mod hb h1 co
  exact kI_B ⟨h2.tM, w_M_thrown_0 (rdF h2.tM y (kI_B (fin_B h2.tL (fun q => by rw [eL]; exact hv q) er (nx A' σ2 hA' h2))))⟩
theorem cs_25 {b Ls x c i : Nat} {xs : Nat → Int32} {A : AS} {σ : pm_H} {Q : pm_O → pm_H → Prop} (hb : b < x) (hL : Ls ≤ 3072) (hi : 6 * i + 6 ≤ Ls) (hA : okA A) (h : ST b Ls x xs A A c σ) (nx : ∀ A' σ', okA A' → ST b Ls x xs A' A' (c + 1) σ' → pm_R 40 282 1568 [.ref b, .ref x, .ref (x + 1777), .ref (x + 1812), .ref (x + 1813), .int (Int32.ofInt ((6 * i : Nat) : Int)), pm_U, pm_U, pm_U] [] σ' Q) : pm_R 40 282 1174 [.ref b, .ref x, .ref (x + 1777), .ref (x + 1812), .ref (x + 1813), .int (Int32.ofInt ((6 * i : Nat) : Int)), pm_U, pm_U, pm_U] [] σ Q := by
  obtain ⟨z1, e1, r1⟩ := oi_of (xs (6 * i + 1))
  obtain ⟨k, v, A', hA', hC, hM⟩ := J_isFunctional (x := x) (m := x + 1777) (N0 := x + 1814) (L := x + 1812) hA (by omega) r1
  refine w_L_law_1174 (gS h (sc1 i) (by omega) hL e1 (?_))
  obtain ⟨kk, hB, hM0, hr⟩ := h
  obtain ⟨pp, hp⟩ := hr.2.2.2.2.1
  refine pm_C_mono (hC σ kk pp hB hr.1 hr.2.2.2.1 hp) (fun o σ1 p => ?_)
  obtain ⟨rfl, hv, h1⟩ := st_clsG hb hM0 hr p
  refine kI_B (gS h1 (sc1 i) (by omega) hL e1 (⟨h1.tM, ?_⟩))
  refine pm_C_mono (hM σ1 h1.M) (fun o σ2 p => ?_)
  obtain ⟨⟨r, rfl, er⟩, co⟩ := p
  obtain ⟨h2, eL, eD, y⟩ := st_mod hb h1 co
  exact kI_B ⟨h2.tM, w_M_thrown_0 (rdF h2.tM y (kI_B (fin_B h2.tL (fun q => by rw [eL]; exact hv q) er (nx A' σ2 hA' h2))))⟩
theorem cs_26 {b Ls x c i : Nat} {xs : Nat → Int32} {A : AS} {σ : pm_H} {Q : pm_O → pm_H → Prop} (hb : b < x) (hL : Ls ≤ 3072) (hi : 6 * i + 6 ≤ Ls) (hA : okA A) (h : ST b Ls x xs A A c σ) (nx : ∀ A' σ', okA A' → ST b Ls x xs A' A' (c + 1) σ' → pm_R 40 282 1568 [.ref b, .ref x, .ref (x + 1777), .ref (x + 1812), .ref (x + 1813), .int (Int32.ofInt ((6 * i : Nat) : Int)), pm_U, pm_U, pm_U] [] σ' Q) : pm_R 40 282 1212 [.ref b, .ref x, .ref (x + 1777), .ref (x + 1812), .ref (x + 1813), .int (Int32.ofInt ((6 * i : Nat) : Int)), pm_U, pm_U, pm_U] [] σ Q := by
  obtain ⟨z1, e1, r1⟩ := oi_of (xs (6 * i + 1))
  obtain ⟨z2, e2, r2⟩ := oi_of (xs (6 * i + 2))
  obtain ⟨k, v, A', hA', hC, hM⟩ := J_isEquivalent (x := x) (m := x + 1777) (N0 := x + 1814) (L := x + 1812) hA (by omega) r1 r2
  refine w_L_law_1212 (gS h (sc1 i) (by omega) hL e1 (gS h (sc2 i) (by omega) hL e2 (?_)))
  obtain ⟨kk, hB, hM0, hr⟩ := h
  obtain ⟨pp, hp⟩ := hr.2.2.2.2.1
  refine pm_C_mono (hC σ kk pp hB hr.1 hr.2.2.2.1 hp) (fun o σ1 p => ?_)
  obtain ⟨rfl, hv, h1⟩ := st_clsG hb hM0 hr p
  refine kI_B (gS h1 (sc1 i) (by omega) hL e1 (gS h1 (sc2 i) (by omega) hL e2 (⟨h1.tM, ?_⟩)))
  refine pm_C_mono (hM σ1 h1.M) (fun o σ2 p => ?_)
  obtain ⟨⟨r, rfl, er⟩, co⟩ := p
  obtain ⟨h2, eL, eD, y⟩ := st_mod hb h1 co
  exact kI_B ⟨h2.tM, w_M_thrown_0 (rdF h2.tM y (kI_B (fin_B h2.tL (fun q => by rw [eL]; exact hv q) er (nx A' σ2 hA' h2))))⟩
theorem cs_27 {b Ls x c i : Nat} {xs : Nat → Int32} {A : AS} {σ : pm_H} {Q : pm_O → pm_H → Prop} (hb : b < x) (hL : Ls ≤ 3072) (hi : 6 * i + 6 ≤ Ls) (hA : okA A) (h : ST b Ls x xs A A c σ) (nx : ∀ A' σ', okA A' → ST b Ls x xs A' A' (c + 1) σ' → pm_R 40 282 1568 [.ref b, .ref x, .ref (x + 1777), .ref (x + 1812), .ref (x + 1813), .int (Int32.ofInt ((6 * i : Nat) : Int)), pm_U, pm_U, pm_U] [] σ' Q) : pm_R 40 282 1260 [.ref b, .ref x, .ref (x + 1777), .ref (x + 1812), .ref (x + 1813), .int (Int32.ofInt ((6 * i : Nat) : Int)), pm_U, pm_U, pm_U] [] σ Q := by
  obtain ⟨z1, e1, r1⟩ := oi_of (xs (6 * i + 1))
  obtain ⟨z2, e2, r2⟩ := oi_of (xs (6 * i + 2))
  obtain ⟨k, v, A', hA', hC, hM⟩ := J_isWithin (x := x) (m := x + 1777) (N0 := x + 1814) (L := x + 1812) hA r1 r2
  refine w_L_law_1260 (gS h (sc1 i) (by omega) hL e1 (gS h (sc2 i) (by omega) hL e2 (?_)))
  refine pm_C_mono (fx_C (hC σ h.B h.tL) (by decide)) (fun o σ1 p => ?_)
  obtain ⟨rfl, hv, h1⟩ := st_cls hb h (by decide +kernel) p
  refine kI_B (gS h1 (sc1 i) (by omega) hL e1 (gS h1 (sc2 i) (by omega) hL e2 (⟨h1.tM, ?_⟩)))
  refine pm_C_mono (hM σ1 h1.M) (fun o σ2 p => ?_)
  obtain ⟨⟨r, rfl, er⟩, co⟩ := p
  obtain ⟨h2, eL, eD, y⟩ := st_mod hb h1 co
  exact kI_B ⟨h2.tM, w_M_thrown_0 (rdF h2.tM y (kI_B (fin_B h2.tL (fun q => by rw [eL]; exact hv q) er (nx A' σ2 hA' h2))))⟩
theorem cs_28 {b Ls x c i : Nat} {xs : Nat → Int32} {A : AS} {σ : pm_H} {Q : pm_O → pm_H → Prop} (hb : b < x) (hL : Ls ≤ 3072) (hi : 6 * i + 6 ≤ Ls) (hA : okA A) (h : ST b Ls x xs A A c σ) (nx : ∀ A' σ', okA A' → ST b Ls x xs A' A' (c + 1) σ' → pm_R 40 282 1568 [.ref b, .ref x, .ref (x + 1777), .ref (x + 1812), .ref (x + 1813), .int (Int32.ofInt ((6 * i : Nat) : Int)), pm_U, pm_U, pm_U] [] σ' Q) : pm_R 40 282 1308 [.ref b, .ref x, .ref (x + 1777), .ref (x + 1812), .ref (x + 1813), .int (Int32.ofInt ((6 * i : Nat) : Int)), pm_U, pm_U, pm_U] [] σ Q := by
  obtain ⟨z1, e1, r1⟩ := oi_of (xs (6 * i + 1))
  obtain ⟨z2, e2, r2⟩ := oi_of (xs (6 * i + 2))
  obtain ⟨z3, e3, r3⟩ := oi_of (xs (6 * i + 3))
  obtain ⟨k, v, A', hA', hC, hM⟩ := J_compose (x := x) (m := x + 1777) (N0 := x + 1814) (L := x + 1812) hA r1 r2 r3
  refine w_L_law_1308 (gS h (sc1 i) (by omega) hL e1 (gS h (sc2 i) (by omega) hL e2 (gS h (sc3 i) (by omega) hL e3 (?_))))
  refine pm_C_mono (fx_C (hC σ h.B h.tL) (by decide)) (fun o σ1 p => ?_)
  obtain ⟨rfl, hv, h1⟩ := st_cls hb h (by decide +kernel) p
  refine kI_B (gS h1 (sc1 i) (by omega) hL e1 (gS h1 (sc2 i) (by omega) hL e2 (gS h1 (sc3 i) (by omega) hL e3 (⟨h1.tM, ?_⟩))))
  refine pm_C_mono (hM σ1 h1.M) (fun o σ2 p => ?_)
  obtain ⟨⟨r, rfl, er⟩, co⟩ := p
  obtain ⟨h2, eL, eD, y⟩ := st_mod hb h1 co
  exact kI_B ⟨h2.tM, w_M_thrown_0 (rdF h2.tM y (kI_B (fin_J h2.tL (fun q => by rw [eL]; exact hv q) er (nx A' σ2 hA' h2))))⟩
theorem cs_29 {b Ls x c i : Nat} {xs : Nat → Int32} {A : AS} {σ : pm_H} {Q : pm_O → pm_H → Prop} (hb : b < x) (hL : Ls ≤ 3072) (hi : 6 * i + 6 ≤ Ls) (hA : okA A) (h : ST b Ls x xs A A c σ) (nx : ∀ A' σ', okA A' → ST b Ls x xs A' A' (c + 1) σ' → pm_R 40 282 1568 [.ref b, .ref x, .ref (x + 1777), .ref (x + 1812), .ref (x + 1813), .int (Int32.ofInt ((6 * i : Nat) : Int)), pm_U, pm_U, pm_U] [] σ' Q) : pm_R 40 282 1363 [.ref b, .ref x, .ref (x + 1777), .ref (x + 1812), .ref (x + 1813), .int (Int32.ofInt ((6 * i : Nat) : Int)), pm_U, pm_U, pm_U] [] σ Q := by
  obtain ⟨z1, e1, r1⟩ := oi_of (xs (6 * i + 1))
  obtain ⟨z2, e2, r2⟩ := oi_of (xs (6 * i + 2))
  obtain ⟨k, v, A', hA', hC, hM⟩ := J_invert (x := x) (m := x + 1777) (N0 := x + 1814) (L := x + 1812) hA r1 r2
  refine w_L_law_1363 (gS h (sc1 i) (by omega) hL e1 (gS h (sc2 i) (by omega) hL e2 (?_)))
  refine pm_C_mono (fx_C (hC σ h.B h.tL) (by decide)) (fun o σ1 p => ?_)
  obtain ⟨rfl, hv, h1⟩ := st_cls hb h (by decide +kernel) p
  refine kI_B (gS h1 (sc1 i) (by omega) hL e1 (gS h1 (sc2 i) (by omega) hL e2 (⟨h1.tM, ?_⟩)))
  refine pm_C_mono (hM σ1 h1.M) (fun o σ2 p => ?_)
  obtain ⟨⟨r, rfl, er⟩, co⟩ := p
  obtain ⟨h2, eL, eD, y⟩ := st_mod hb h1 co
  exact kI_B ⟨h2.tM, w_M_thrown_0 (rdF h2.tM y (kI_B (fin_J h2.tL (fun q => by rw [eL]; exact hv q) er (nx A' σ2 hA' h2))))⟩
theorem cs_30 {b Ls x c i : Nat} {xs : Nat → Int32} {A : AS} {σ : pm_H} {Q : pm_O → pm_H → Prop} (hb : b < x) (hL : Ls ≤ 3072) (hi : 6 * i + 6 ≤ Ls) (hA : okA A) (h : ST b Ls x xs A A c σ) (nx : ∀ A' σ', okA A' → ST b Ls x xs A' A' (c + 1) σ' → pm_R 40 282 1568 [.ref b, .ref x, .ref (x + 1777), .ref (x + 1812), .ref (x + 1813), .int (Int32.ofInt ((6 * i : Nat) : Int)), pm_U, pm_U, pm_U] [] σ' Q) : pm_R 40 282 1408 [.ref b, .ref x, .ref (x + 1777), .ref (x + 1812), .ref (x + 1813), .int (Int32.ofInt ((6 * i : Nat) : Int)), pm_U, pm_U, pm_U] [] σ Q := by
  obtain ⟨z1, e1, r1⟩ := oi_of (xs (6 * i + 1))
  obtain ⟨z2, e2, r2⟩ := oi_of (xs (6 * i + 2))
  obtain ⟨z3, e3, r3⟩ := oi_of (xs (6 * i + 3))
  obtain ⟨k, v, A', hA', hC, hM⟩ := J_restrict (x := x) (m := x + 1777) (N0 := x + 1814) (L := x + 1812) hA r1 r2 r3
  refine w_L_law_1408 (gS h (sc1 i) (by omega) hL e1 (gS h (sc2 i) (by omega) hL e2 (gS h (sc3 i) (by omega) hL e3 (?_))))
  refine pm_C_mono (fx_C (hC σ h.B h.tL) (by decide)) (fun o σ1 p => ?_)
  obtain ⟨rfl, hv, h1⟩ := st_cls hb h (by decide +kernel) p
  refine kI_B (gS h1 (sc1 i) (by omega) hL e1 (gS h1 (sc2 i) (by omega) hL e2 (gS h1 (sc3 i) (by omega) hL e3 (⟨h1.tM, ?_⟩))))
  refine pm_C_mono (hM σ1 h1.M) (fun o σ2 p => ?_)
  obtain ⟨⟨r, rfl, er⟩, co⟩ := p
  obtain ⟨h2, eL, eD, y⟩ := st_mod hb h1 co
  exact kI_B ⟨h2.tM, w_M_thrown_0 (rdF h2.tM y (kI_B (fin_J h2.tL (fun q => by rw [eL]; exact hv q) er (nx A' σ2 hA' h2))))⟩
theorem cs_31 {b Ls x c i : Nat} {xs : Nat → Int32} {A : AS} {σ : pm_H} {Q : pm_O → pm_H → Prop} (hb : b < x) (hL : Ls ≤ 3072) (hi : 6 * i + 6 ≤ Ls) (hA : okA A) (h : ST b Ls x xs A A c σ) (nx : ∀ A' σ', okA A' → ST b Ls x xs A' A' (c + 1) σ' → pm_R 40 282 1568 [.ref b, .ref x, .ref (x + 1777), .ref (x + 1812), .ref (x + 1813), .int (Int32.ofInt ((6 * i : Nat) : Int)), pm_U, pm_U, pm_U] [] σ' Q) : pm_R 40 282 1463 [.ref b, .ref x, .ref (x + 1777), .ref (x + 1812), .ref (x + 1813), .int (Int32.ofInt ((6 * i : Nat) : Int)), pm_U, pm_U, pm_U] [] σ Q := by
  obtain ⟨z1, e1, r1⟩ := oi_of (xs (6 * i + 1))
  obtain ⟨k, v, A', hA', hC, hM⟩ := J_trim (x := x) (m := x + 1777) (N0 := x + 1814) (L := x + 1812) hA r1
  refine w_L_law_1463 (gS h (sc1 i) (by omega) hL e1 (?_))
  refine pm_C_mono (fx_C (hC σ h.B h.tL) (by decide)) (fun o σ1 p => ?_)
  obtain ⟨rfl, hv, h1⟩ := st_cls hb h (by decide +kernel) p
  refine kI_B (gS h1 (sc1 i) (by omega) hL e1 (⟨h1.tM, ?_⟩))
  refine pm_C_mono (hM σ1 h1.M) (fun o σ2 p => ?_)
  obtain ⟨⟨r, rfl, er⟩, co⟩ := p
  obtain ⟨h2, eL, eD, y⟩ := st_mod hb h1 co
  exact kI_B ⟨h2.tM, w_M_thrown_0 (rdF h2.tM y (kI_B (fin_J h2.tL (fun q => by rw [eL]; exact hv q) er (nx A' σ2 hA' h2))))⟩
theorem cs_32 {b Ls x c i : Nat} {xs : Nat → Int32} {A : AS} {σ : pm_H} {Q : pm_O → pm_H → Prop} (hb : b < x) (hL : Ls ≤ 3072) (hi : 6 * i + 6 ≤ Ls) (hA : okA A) (h : ST b Ls x xs A A c σ) (nx : ∀ A' σ', okA A' → ST b Ls x xs A' A' (c + 1) σ' → pm_R 40 282 1568 [.ref b, .ref x, .ref (x + 1777), .ref (x + 1812), .ref (x + 1813), .int (Int32.ofInt ((6 * i : Nat) : Int)), pm_U, pm_U, pm_U] [] σ' Q) : pm_R 40 282 1498 [.ref b, .ref x, .ref (x + 1777), .ref (x + 1812), .ref (x + 1813), .int (Int32.ofInt ((6 * i : Nat) : Int)), pm_U, pm_U, pm_U] [] σ Q := by
  obtain ⟨z1, e1, r1⟩ := oi_of (xs (6 * i + 1))
  obtain ⟨z2, e2, r2⟩ := oi_of (xs (6 * i + 2))
  obtain ⟨k, v, A', hA', hC, hM⟩ := J_copy (x := x) (m := x + 1777) (N0 := x + 1814) (L := x + 1812) hA r1 r2
  refine w_L_law_1498 (gS h (sc1 i) (by omega) hL e1 (gS h (sc2 i) (by omega) hL e2 (?_)))
  refine pm_C_mono (fx_C (hC σ h.B h.tL) (by decide)) (fun o σ1 p => ?_)
  obtain ⟨rfl, hv, h1⟩ := st_cls hb h (by decide +kernel) p
  refine kI_B (gS h1 (sc1 i) (by omega) hL e1 (gS h1 (sc2 i) (by omega) hL e2 (⟨h1.tM, ?_⟩)))
  refine pm_C_mono (hM σ1 h1.M) (fun o σ2 p => ?_)
  obtain ⟨⟨r, rfl, er⟩, co⟩ := p
  obtain ⟨h2, eL, eD, y⟩ := st_mod hb h1 co
  exact kI_B ⟨h2.tM, w_M_thrown_0 (rdF h2.tM y (kI_B (fin_J h2.tL (fun q => by rw [eL]; exact hv q) er (nx A' σ2 hA' h2))))⟩
theorem cs_33 {b Ls x c i : Nat} {xs : Nat → Int32} {A : AS} {σ : pm_H} {Q : pm_O → pm_H → Prop} (hb : b < x) (hL : Ls ≤ 3072) (hi : 6 * i + 6 ≤ Ls) (hA : okA A) (h : ST b Ls x xs A A c σ) (nx : ∀ A' σ', okA A' → ST b Ls x xs A' A' (c + 1) σ' → pm_R 40 282 1568 [.ref b, .ref x, .ref (x + 1777), .ref (x + 1812), .ref (x + 1813), .int (Int32.ofInt ((6 * i : Nat) : Int)), pm_U, pm_U, pm_U] [] σ' Q) : pm_R 40 282 1543 [.ref b, .ref x, .ref (x + 1777), .ref (x + 1812), .ref (x + 1813), .int (Int32.ofInt ((6 * i : Nat) : Int)), pm_U, pm_U, pm_U] [] σ Q := by
  obtain ⟨k, v, A', hA', hC, hM⟩ := J_undo (x := x) (m := x + 1777) (N0 := x + 1814) (L := x + 1812) hA 
  refine w_L_law_1543 ?_
  refine pm_C_mono (fx_C (hC σ h.B h.tL) (by decide)) (fun o σ1 p => ?_)
  obtain ⟨rfl, hv, h1⟩ := st_cls hb h (by decide +kernel) p
  refine kI_B (⟨h1.tM, ?_⟩)
  refine pm_C_mono (hM σ1 h1.M) (fun o σ2 p => ?_)
  obtain ⟨⟨r, rfl, er⟩, co⟩ := p
  obtain ⟨h2, eL, eD, y⟩ := st_mod hb h1 co
  exact kI_B ⟨h2.tM, w_M_thrown_0 (rdF h2.tM y (kI_B (fin_J h2.tL (fun q => by rw [eL]; exact hv q) er (nx A' σ2 hA' h2))))⟩
theorem cs_14 {b Ls x c i : Nat} {xs : Nat → Int32} {A : AS} {σ : pm_H} {Q : pm_O → pm_H → Prop} (hb : b < x) (hL : Ls ≤ 3072) (hi : 6 * i + 6 ≤ Ls) (hA : okA A) (h : ST b Ls x xs A A c σ) (nx : ∀ A' σ', okA A' → ST b Ls x xs A' A' (c + 1) σ' → pm_R 40 282 1568 [.ref b, .ref x, .ref (x + 1777), .ref (x + 1812), .ref (x + 1813), .int (Int32.ofInt ((6 * i : Nat) : Int)), pm_U, pm_U, pm_U] [] σ' Q) : pm_R 40 282 777 [.ref b, .ref x, .ref (x + 1777), .ref (x + 1812), .ref (x + 1813), .int (Int32.ofInt ((6 * i : Nat) : Int)), pm_U, pm_U, pm_U] [] σ Q := by
  obtain ⟨v, A', hA', hC, hM⟩ := J_clearWord (x := x) (m := x + 1777) (N0 := x + 1814) hA
  refine w_L_law_777 ⟨h.B.1.1, ?_⟩
  refine pm_C_mono (fx_C (hC σ h.B) (by decide)) (fun o σ1 p => ?_)
  obtain ⟨rfl, h1⟩ := st_cls1 hb h (by decide +kernel) p
  refine kI_B ⟨h1.tM, ?_⟩
  refine pm_C_mono (hM σ1 h1.M) (fun o σ2 p => ?_)
  obtain ⟨rfl, co⟩ := p
  obtain ⟨h2, eL, eD, y⟩ := st_mod hb h1 co
  exact kI_B ⟨fun _ => nx A' σ2 hA' h2, fun q => absurd rfl q⟩
