/-! ===== the law: the loop, the whole run ===== -/
theorem swl : ∀ t : Nat, t < 64 → pm_sw (Int32.ofInt (t : Int)) 0 [28, 94, 169, 234, 307, 352, 387, 422, 477, 550, 605, 670, 707, 742, 777, 784, 819, 853, 906, 941, 966, 1010, 1066, 1101, 1136, 1174, 1212, 1260, 1308, 1363, 1408, 1463, 1498, 1543] 1568 = (([28, 94, 169, 234, 307, 352, 387, 422, 477, 550, 605, 670, 707, 742, 777, 784, 819, 853, 906, 941, 966, 1010, 1066, 1101, 1136, 1174, 1212, 1260, 1308, 1363, 1408, 1463, 1498, 1543])[t]?).getD 1568 := by decide +kernel
def lwQ (x : Nat) (o : pm_O) (σ' : pm_H) : Prop := o = .inl (some (.int 1)) ∧ pm_n σ' ≤ x + 601024 ∧ pm_w σ' ≤ 7293034
theorem ST.room {b Ls x c : Nat} {xs : Nat → Int32} {A A' : AS} {σ : pm_H} (h : ST b Ls x xs A A' c σ) (hc : c ≤ 512) : pm_n σ ≤ x + 601024 ∧ pm_w σ ≤ 7293034 := by
  obtain ⟨kk, _, _, r1, r2, r3, r4, ⟨pp, hp⟩, r6, r7⟩ := h
  have k8 := hp.2.2.2.1
  have p28 : 2 ^ kk ≤ 2 ^ 8 := Nat.pow_le_pow_right (by decide) k8
  omega
theorem law_case {b Ls x c i t : Nat} {xs : Nat → Int32} {A : AS} {σ : pm_H} {Q : pm_O → pm_H → Prop} (hb : b < x) (hL : Ls ≤ 3072) (hi : 6 * i + 6 ≤ Ls) (hA : okA A) (hS : ST b Ls x xs A A c σ) (ht : t < 64) (nx : ∀ A' σ', okA A' → ST b Ls x xs A' A' (c + 1) σ' → pm_R 40 282 1568 [.ref b, .ref x, .ref (x + 1777), .ref (x + 1812), .ref (x + 1813), .int (Int32.ofInt ((6 * i : Nat) : Int)), pm_U, pm_U, pm_U] [] σ' Q) (nx0 : pm_R 40 282 1568 [.ref b, .ref x, .ref (x + 1777), .ref (x + 1812), .ref (x + 1813), .int (Int32.ofInt ((6 * i : Nat) : Int)), pm_U, pm_U, pm_U] [] σ Q) : pm_R 40 282 (pm_sw (Int32.ofInt (t : Int)) 0 [28, 94, 169, 234, 307, 352, 387, 422, 477, 550, 605, 670, 707, 742, 777, 784, 819, 853, 906, 941, 966, 1010, 1066, 1101, 1136, 1174, 1212, 1260, 1308, 1363, 1408, 1463, 1498, 1543] 1568) [.ref b, .ref x, .ref (x + 1777), .ref (x + 1812), .ref (x + 1813), .int (Int32.ofInt ((6 * i : Nat) : Int)), pm_U, pm_U, pm_U] [] σ Q := by
  rw [swl t ht]
  match t with
    | 0 => exact cs_0 hb hL hi hA hS nx
    | 1 => exact cs_1 hb hL hi hA hS nx
    | 2 => exact cs_2 hb hL hi hA hS nx
    | 3 => exact cs_3 hb hL hi hA hS nx
    | 4 => exact cs_4 hb hL hi hA hS nx
    | 5 => exact cs_5 hb hL hi hA hS nx
    | 6 => exact cs_6 hb hL hi hA hS nx
    | 7 => exact cs_7 hb hL hi hA hS nx
    | 8 => exact cs_8 hb hL hi hA hS nx
    | 9 => exact cs_9 hb hL hi hA hS nx
    | 10 => exact cs_10 hb hL hi hA hS nx
    | 11 => exact cs_11 hb hL hi hA hS nx
    | 12 => exact cs_12 hb hL hi hA hS nx
    | 13 => exact cs_13 hb hL hi hA hS nx
    | 14 => exact cs_14 hb hL hi hA hS nx
    | 15 => exact cs_15 hb hL hi hA hS nx
    | 16 => exact cs_16 hb hL hi hA hS nx
    | 17 => exact cs_17 hb hL hi hA hS nx
    | 18 => exact cs_18 hb hL hi hA hS nx
    | 19 => exact cs_19 hb hL hi hA hS nx
    | 20 => exact cs_20 hb hL hi hA hS nx
    | 21 => exact cs_21 hb hL hi hA hS nx
    | 22 => exact cs_22 hb hL hi hA hS nx
    | 23 => exact cs_23 hb hL hi hA hS nx
    | 24 => exact cs_24 hb hL hi hA hS nx
    | 25 => exact cs_25 hb hL hi hA hS nx
    | 26 => exact cs_26 hb hL hi hA hS nx
    | 27 => exact cs_27 hb hL hi hA hS nx
    | 28 => exact cs_28 hb hL hi hA hS nx
    | 29 => exact cs_29 hb hL hi hA hS nx
    | 30 => exact cs_30 hb hL hi hA hS nx
    | 31 => exact cs_31 hb hL hi hA hS nx
    | 32 => exact cs_32 hb hL hi hA hS nx
    | 33 => exact cs_33 hb hL hi hA hS nx
    | n + 34 => exact nx0
theorem law_loop {b Ls x : Nat} {xs : Nat → Int32} (hb : b < x) (hL : Ls ≤ 3072) : ∀ (f i c : Nat) (A : AS) (σ : pm_H), Ls < 6 * (i + f) → c ≤ i → i ≤ 512 → okA A → ST b Ls x xs A A c σ → pm_R 40 282 16 [.ref b, .ref x, .ref (x + 1777), .ref (x + 1812), .ref (x + 1813), .int (Int32.ofInt ((6 * i : Nat) : Int)), pm_U, pm_U, pm_U] [] σ (lwQ x) := by
  intro f
  have z6 : ∀ i : Nat, i ≤ 512 → ((Int32.ofNat Ls - 6 < Int32.ofInt ((6 * i : Nat) : Int)) ↔ Ls < 6 * i + 6) := fun i hi => by
    rw [oi_nat, show Int32.ofInt (Ls : Int) - 6 = Int32.ofInt ((Ls : Int) - 6) from oi_subl _ 6, oi_lt (by omega)]
    omega
  induction f with
  | zero =>
    intro i c A σ h1 h2 h3 hA hS
    have hS' := hS
    obtain ⟨_, _, _, hr⟩ := hS'
    refine w_L_law_16 ⟨hr.2.2.1.1, fun z ez => ?_⟩
    rw [hr.2.2.1.2.1] at ez
    subst ez
    rw [z6 i h3]
    exact ⟨fun _ => ⟨rfl, rfl, hS.room (by omega)⟩, fun q => absurd (by omega) q⟩
  | succ f ih =>
    intro i c A σ h1 h2 h3 hA hS
    have hS' := hS
    obtain ⟨_, _, _, hr⟩ := hS'
    refine w_L_law_16 ⟨hr.2.2.1.1, fun z ez => ?_⟩
    rw [hr.2.2.1.2.1] at ez
    subst ez
    rw [z6 i h3]
    refine ⟨fun _ => ⟨rfl, rfl, hS.room (by omega)⟩, fun q => ?_⟩
    have hi : 6 * i + 6 ≤ Ls := by omega
    refine gS (i := i) (k := 0) hS rfl (by omega) hL rfl ?_
    obtain ⟨t, t64, et⟩ := z63 (xs (6 * i + 0))
    rw [et]
    have nx : ∀ A' σ' c', okA A' → ST b Ls x xs A' A' c' σ' → c' ≤ c + 1 → pm_R 40 282 1568 [.ref b, .ref x, .ref (x + 1777), .ref (x + 1812), .ref (x + 1813), .int (Int32.ofInt ((6 * i : Nat) : Int)), pm_U, pm_U, pm_U] [] σ' (lwQ x) := fun A' σ' c' hA' hS' hc' => by
      refine w_L_law_1568 ?_
      rw [sc6]
      exact ih (i + 1) c' A' σ' (by omega) (by omega) (by omega) hA' hS'
    exact law_case hb hL hi hA hS t64 (fun A' σ' h h' => nx A' σ' _ h h' (Nat.le_refl _)) (nx A σ c hA hS (by omega))
theorem law_all : pm_law := by
  intro N b Ls xs hb hL
  refine w_L_law_0 (fun σ1 e1 => ?_)
  have n0 : pm_n (pm_s0 N b Ls xs) = N := rfl
  have w0 : pm_w (pm_s0 N b Ls xs) = 0 := rfl
  rw [n0]
  have t1 : pm_t σ1 N = 12 := by rw [e1, t_new, if_pos n0.symm]
  have n1 : pm_n σ1 = N + 1 := by rw [e1, n_new, n0]
  have w1 : pm_w σ1 = 10 := by rw [e1, w_new, w0]
  have a1 : al (fun a => a < N) (pm_s0 N b Ls xs) σ1 := by rw [e1]; exact al_new (fun a ha => by rw [n0]; exact ha)
  refine ⟨t1, (s_B_init (N0 := N + 1814) t1 n1).use (by omega) (fun σ2 p2 σ3 e3 => ?_)⟩
  obtain ⟨B2, a2, n2, w2⟩ := p2
  rw [n2]
  have t3 : pm_t σ3 (N + 1777) = 13 := by rw [e3, t_new, if_pos n2.symm]
  have n3 : pm_n σ3 = N + 1777 + 1 := by rw [e3, n_new, n2]
  have w3 : pm_w σ3 = pm_w σ2 + 45 := by rw [e3, w_new]
  have a3 : al (fun a => a < N + 1777) σ2 σ3 := by rw [e3]; exact al_new (fun a ha => by rw [n2]; exact ha)
  refine ⟨t3, (s_M_init t3 n3 (fun f => by rw [e3, F_new, if_pos n2.symm])).use (by omega) (fun σ4 p4 => ?_)⟩
  obtain ⟨M4, a4, n4, w4⟩ := p4
  have one : ¬ (1 : Int32) < 0 ∧ (1 : Int32).toNatClampNeg ≤ 1000000 := by decide
  have c1 : (1 : Int32).toNatClampNeg = 1 := by decide
  refine ⟨one, fun σ5 e5 => ⟨one, fun σ6 e6 => ?_⟩⟩
  rw [c1] at e5 e6
  have n4' : pm_n σ4 = N + 1812 := by omega
  have n5 : pm_n σ5 = N + 1813 := by rw [e5, n_new, n4']
  have n6 : pm_n σ6 = N + 1814 := by rw [e6, n_new, n5]
  have w5 : pm_w σ5 = pm_w σ4 + 1 := by rw [e5, w_new]
  have w6 : pm_w σ6 = pm_w σ5 + 1 := by rw [e6, w_new]
  have a5 : al (fun a => a < N + 1812) σ4 σ5 := by rw [e5]; exact al_new (fun a ha => by rw [n4']; exact ha)
  have a6 : al (fun a => a < N + 1813) σ5 σ6 := by rw [e6]; exact al_new (fun a ha => by rw [n5]; exact ha)
  rw [n4', n5]
  have m46 : al (fun a => a < N + 1812) σ4 σ6 := a5.tr (a6.sub (fun a ha => by omega))
  have b26 : al (fun a => a < N + 1777) σ2 σ6 := (a3.tr a4).tr (m46.sub (fun a ha => by omega))
  have s06 : al (fun a => a < N) (pm_s0 N b Ls xs) σ6 := (a1.tr a2).tr (b26.sub (fun a ha => by omega))
  have L5 : pm_t σ5 (N + 1812) = 101 ∧ pm_l σ5 (N + 1812) = 1 := by rw [e5, t_new, l_new, if_pos n4'.symm, if_pos n4'.symm]; exact ⟨rfl, rfl⟩
  have L6 := (a6 (N + 1812) (by omega)).1
  have D6 : pm_t σ6 (N + 1813) = 105 ∧ pm_l σ6 (N + 1813) = 1 := by rw [e6, t_new, l_new, if_pos n5.symm, if_pos n5.symm]; exact ⟨rfl, rfl⟩
  have S6 := s06 b hb
  -- the pool as it was made
  obtain ⟨hz, p, k, hp⟩ := isPa_iff.mp B2.2.2.2.2.2.2.2.2.2.1
  have pe : p = N + 1671 + 6 := by
    rcases hp.2.1 with q | q
    · exact q
    · omega
  have k0 : k = 0 := by
    rcases hp.2.2.2.2.2 with q | q
    · exact q.1
    · omega
  rw [pe, k0] at hp
  have q0 := b26 (N + 1671) (by omega)
  have q1 := b26 (N + 1671 + 1) (by omega)
  have q2 := b26 (N + 1671 + 2) (by omega)
  have q3 := b26 (N + 1671 + 3) (by omega)
  have q4 := b26 (N + 1671 + 4) (by omega)
  have q5 := b26 (N + 1671 + 5) (by omega)
  have q6 := b26 (N + 1671 + 6) (by omega)
  have q7 := b26 (N + 1671 + 7) (by omega)
  have q8 := b26 (N + 1671 + 8) (by omega)
  have z6 : pcZ σ6 (N + 1671) := by
    unfold pcZ
    simp only [q0.1.1, q0.2.1, q1.1.1, q1.1.2, q2.1.1, q2.1.2, q3.1.1, q3.1.2, q4.1.1, q4.1.2, q5.1.1, q5.1.2, q7.1.1, q7.1.2, q8.1.1, q8.1.2]
    exact hz
  have hp6 : paP σ6 (N + 1671) (N + 1814) (N + 1671 + 6) 0 := ⟨by rw [q0.2.1]; exact hp.1, Or.inl rfl, by rw [q6.1.1]; exact hp.2.2.1, by omega, by rw [q6.1.2]; exact hp.2.2.2.2.1, Or.inl ⟨rfl, rfl⟩⟩
  have hS : ST b Ls N xs A00 A00 0 σ6 := by
    refine ⟨0, isB_al B2 (b26.sub (fun a ha => by have := ha.1
                                                  unfold pB at this; omega)) (isPa_iff.mpr ⟨z6, _, 0, hp6⟩), isM_al M4 (m46.sub (fun a ha => by omega)), ⟨by omega, by unfold pB; omega, by rw [L6.1]; exact L5.1, by rw [L6.2]; exact L5.2⟩, ⟨by omega, by unfold pB; omega, D6.1, D6.2⟩, ⟨?_, ?_, fun j => ?_⟩, by omega, ⟨_, hp6⟩, by omega, by omega⟩
    · rw [S6.1.1]; show (if b = b then ((200 : Nat), Ls) else (0, 0)).1 = 200; rw [if_pos rfl]
    · rw [S6.1.2]; show (if b = b then ((200 : Nat), Ls) else (0, 0)).2 = Ls; rw [if_pos rfl]
    · rw [S6.2.2]; show iv (if b = b then Value.int (xs j) else .null) = xs j; rw [if_pos rfl]; rfl
  exact law_loop hb hL 513 0 0 A00 σ6 (by omega) (Nat.le_refl _) (by omega) okA_00 hS
