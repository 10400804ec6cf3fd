/-! ===== the model: outputs laid side by side ===== -/
theorem oi_870 (k q : Nat) : (870 : Int32) * Int32.ofInt (k : Int) + Int32.ofInt (q : Int) = Int32.ofInt ((870 * k + q : Nat) : Int) := by
  rw [show (870 : Int32) * Int32.ofInt (k : Int) = Int32.ofInt (870 * (k : Int)) from oi_lmul _ 870, oi_add]; congr 1
theorem mRu_X {m j : Nat} {Fs As : Nat → Prop} {σ σ' : pm_H} {r : Rl} (f : frX m Fs As (fun _ => False) σ σ') (h : mRu σ m j r) (hj : j < 520) (hl : (rTs r).length ≤ 6) : mRu σ' m j r := mRu_eq h hl ((f.2.2.2.2.2 (j / 40) (fun q => q)).2.2 j (by omega) (by omega))
theorem s_M_laid {σ : pm_H} {m ro j x s : Nat} {sd : Int32} {z za : Int} {w : List Nat} {r : Rl} (hm : mS σ m) (hr : mRu σ m j r) (hj : j < 520) (ok : okR r) (hro : ro = 27 ∨ ro = 28) (hx : x < 144) (hs : s < 100) (he : en r s = true) (ha : iv (pm_A σ (m + 24) x) = Int32.ofInt za) (hsd : sd * Int32.ofInt za = Int32.ofInt z) (hz : (z ≤ 0 ∧ -2000 < z ∧ w = []) ∨ (z = w.length ∧ ∀ i c : Nat, w[i]? = some c → iv (pm_A σ (m + 25) (870 * x + i)) = Int32.ofInt (c : Int))) (hl : w.length ≤ 864) : cIP 1 225 [.ref m, .ref (m + ro), .int (Int32.ofInt (x : Int)), .int sd, .int (Int32.ofInt (j : Int)), .int (Int32.ofInt (s : Int))] σ (Int32.ofInt (((w ++ outW r s).length : Nat) : Int)) (fun σ' => wdT σ' (m + ro) (w ++ outW r s) ∧ XR m ro σ σ') := by
  have vx := vi (show x < 144 from hx) (by omega)
  have wx := vc (show x < 2000000 by omega)
  have vj := vi (show j < 520 from hj) (by omega)
  have wj := vc (show j < 2000000 by omega)
  have l6 := ok.2.2.2.1
  have tl : ∀ {τ}, mS τ m → pm_t τ (m + ro) = 100 ∧ pm_l τ (m + ro) = 876 := fun h => by
    rcases hro with c | c
    · rw [c]; exact ⟨h.t27, h.l27⟩
    · rw [c]; exact ⟨h.t28, h.l28⟩
  -- the terms, behind what was there
  have terms : ∀ τ, XR m ro σ τ → wdT τ (m + ro) w → pm_R 1 225 30 [.ref m, .ref (m + ro), pm_U, pm_U, .int (Int32.ofInt (j : Int)), .int (Int32.ofInt (s : Int)), .int (Int32.ofInt (w.length : Int)), pm_U, .int ((0 : Int32))] [] τ (fun o σ' => o = .inl (some (.int (Int32.ofInt (((w ++ outW r s).length : Nat) : Int)))) ∧ wdT σ' (m + ro) (w ++ outW r s) ∧ XR m ro σ σ') := by
    intro τ fτ hτ
    refine lp (d := 1) (m := 225) (k := 30) (fun i => [.ref m, .ref (m + ro), pm_U, pm_U, .int (Int32.ofInt (j : Int)), .int (Int32.ofInt (s : Int)), .int (Int32.ofInt ((w.length + i : Nat) : Int)), pm_U, .int (Int32.ofInt (i : Nat))]) (fun i τ => wdT τ (m + ro) (w ++ (outW r s).take i) ∧ XR m ro σ τ) (rTs r).length ?_ ?_ 0 (Nat.zero_le _) τ ⟨by simpa using hτ, fτ⟩
    · rintro i hi τ ⟨i1, i3⟩ next
      have mt := i3.mS hm
      have ru : mRu τ m j r := mRu_X i3 hr (by omega) l6
      have hk := List.getElem?_eq_getElem hi
      generalize (rTs r)[i] = tt at hk
      have hv := en_val he hk
      have hoo : (outW r s)[i]? = some (val tt s).toNat := by unfold outW; rw [List.getElem?_map, hk]; rfl
      have hlo := outW_len r s
      have ll : (w ++ (outW r s).take i).length = w.length + i := by rw [List.length_append, List.length_take]; omega
      refine w_M_laid_30 (rdR mt.1 mt.f7 (gA mt.t7 mt.l7 vj wj ru.2.2.2.2.1 ⟨fun q => ?_, fun _ => ⟨mt.1, ?_⟩⟩))
      · rw [oi_le (by omega)] at q; omega
      refine (s_M_value mt ru hj l6 hk).use (by omega) ?_
      have ev : Int32.ofInt (val tt s) = Int32.ofInt (((val tt s).toNat : Nat) : Int) := by congr 1; omega
      rw [ev, oi_s, oi_s]
      refine wA (tl mt).1 (tl mt).2 (vi (show w.length + i < 876 by omega) (by omega)) (vc (by omega)) (fun σ6 e6 => ?_)
      refine next σ6 ⟨?_, i3.tr (by rw [e6]; exact XR_sA (by omega) (by omega))⟩
      rw [List.take_add_one, hoo, Option.toList_some, ← List.append_assoc, e6]
      exact wdT_app (c := (val tt s).toNat) i1 ll.symm
    · rintro τ ⟨i1, i3⟩
      have mt := i3.mS hm
      have ru : mRu τ m j r := mRu_X i3 hr (by omega) l6
      rw [← outW_len r s, List.take_length] at i1
      refine w_M_laid_30 (rdR mt.1 mt.f7 (gA mt.t7 mt.l7 vj wj ru.2.2.2.2.1 ⟨fun _ => ⟨?_, i1, i3⟩, fun q => absurd (Int32.le_refl _) q⟩))
      rw [List.length_append, outW_len]
  refine w_M_laid_0 (rdR hm.1 hm.f24 (gA hm.t24 hm.l24 vx wx ha ?_))
  rw [hsd]
  rcases hz with ⟨z0, z1, wn⟩ | ⟨z0, hw⟩
  · refine w_M_laid_11 ⟨fun _ => ?_, fun q => ?_⟩
    · have h := terms σ frX.rf (by rw [wn]; exact fun i c h => by simp at h)
      rw [wn] at h ⊢
      exact h
    · exfalso
      refine q ?_
      have : Int32.ofInt z ≤ 0 ↔ z ≤ 0 := oi_lel ⟨by omega, by decide⟩
      exact this.mpr z0
  · subst z0
    refine lp (d := 1) (m := 225) (k := 11) (fun i => [.ref m, .ref (m + ro), .int (Int32.ofInt (x : Int)), pm_U, .int (Int32.ofInt (j : Int)), .int (Int32.ofInt (s : Int)), .int (Int32.ofInt (i : Nat)), .int (Int32.ofInt (w.length : Int)), .int (Int32.ofInt (i : Nat))]) (fun i τ => wdT τ (m + ro) (w.take i) ∧ XR m ro σ τ) w.length ?_ ?_ 0 (Nat.zero_le _) σ ⟨fun i c h => by simp at h, frX.rf⟩
    · rintro i hi τ ⟨i1, i3⟩ next
      have mt := i3.mS hm
      have hk := List.getElem?_eq_getElem hi
      generalize w[i] = c at hk
      refine w_M_laid_11 ⟨fun q => ?_, fun _ => ?_⟩
      · rw [oi_le (by omega)] at q; omega
      rw [oi_870, oi_s]
      refine rdR mt.1 mt.f25 (gA mt.t25 mt.l25 (vi (show 870 * x + i < 125280 by omega) (by omega)) (vc (by omega)) (ivq (frX.A i3 (by omega) (by omega)) (hw i c hk)) (wA (tl mt).1 (tl mt).2 (vi (show i < 876 by omega) (by omega)) (vc (by omega)) (fun σ3 e3 => ?_)))
      refine next σ3 ⟨?_, i3.tr (by rw [e3]; exact XR_sA (by omega) (by omega))⟩
      rw [take_s hk, e3]
      exact wdT_app (c := c) i1 (by rw [List.length_take]; omega)
    · rintro τ ⟨i1, i3⟩
      rw [List.take_length] at i1
      exact w_M_laid_11 ⟨fun _ => terms τ i3 i1, fun q => absurd (Int32.le_refl _) q⟩
def entM (σ : pm_H) (m x : Nat) (u v : List Nat) : Prop := iv (pm_A σ (m + 23) x) = 1 ∧ iv (pm_A σ (m + 24) x) = Int32.ofInt ((u.length : Int) - (v.length : Int)) ∧ ∀ j c : Nat, (u ++ v)[j]? = some c → iv (pm_A σ (m + 25) (870 * x + j)) = Int32.ofInt (c : Int)
def tabM (σ : pm_H) (m : Nat) (S : List Ent) : Prop := iv (pm_F σ 1234 m) = Int32.ofInt (S.length : Int) ∧ (∀ (i x : Nat) (u v : List Nat), S[i]? = some (x, u, v) → iv (pm_A σ (m + 26) i) = Int32.ofInt (x : Int) ∧ entM σ m x u v) ∧ ∀ x, x < 144 → x ∉ keys S → iv (pm_A σ (m + 23) x) = 0
theorem tabM_R {σ σ' : pm_H} {m ro : Nat} {S : List Ent} (h : tabM σ m S) (f : XR m ro σ σ') (hr : ro = 27 ∨ ro = 28) : tabM σ' m S := by
  refine ⟨by rw [frX.F f id]; exact h.1, fun i x u v hi => ?_, fun x hx hn => by rw [frX.A f (by omega) (by omega)]; exact h.2.2 x hx hn⟩
  obtain ⟨a1, a2, a3, a4⟩ := h.2.1 i x u v hi
  exact ⟨by rw [frX.A f (by omega) (by omega)]; exact a1, by rw [frX.A f (by omega) (by omega)]; exact a2, by rw [frX.A f (by omega) (by omega)]; exact a3, fun j c hc => by rw [frX.A f (by omega) (by omega)]; exact a4 j c hc⟩
def XQ (m : Nat) (σ σ' : pm_H) : Prop := frX m (fun f => f = 1234) (fun i => 23 ≤ i ∧ i ≤ 26) (fun _ => False) σ σ'
theorem XQ.tr {m : Nat} {σ σ1 σ2 : pm_H} (h : XQ m σ σ1) (g : XQ m σ1 σ2) : XQ m σ σ2 := frX.tr h g
theorem XQ.mS {m : Nat} {σ σ' : pm_H} (h : XQ m σ σ') (hm : mS σ m) : mS σ' m := frX.mS h hm (fun f hf => by rw [hf]; decide)
theorem XQ_sA {m ro k : Nat} {v : Value} {σ : pm_H} (h : 23 ≤ ro ∧ ro ≤ 26) : XQ m σ (pm_sA σ (m + ro) k v) := frX.mono (XR_sA (ro := ro) (by omega) (by omega)) (fun _ q => q.elim) (fun i q => by omega) (fun _ q => q)
theorem XQ_sF {m : Nat} {v : Value} {σ : pm_H} : XQ m σ (pm_sF σ 1234 m v) := frX_sF.mono (fun _ h => h) (fun _ h => h.elim) (fun _ h => h)
theorem XQ.P {m : Nat} {σ σ' : pm_H} (h : XQ m σ σ') : XP m σ σ' := frX.mono h (fun _ q => q) (fun i q => by omega) (fun _ q => q)
theorem byte_c : ∀ c : Nat, c < 100 → vp_nar .byte (Int32.ofInt (c : Int)).toInt8.toInt32 = Int32.ofInt (c : Int) := by decide +kernel
/-- a pair comes -/
def comP (m g : Nat) (S : List Ent) (x y : List Nat) (σ : pm_H) (b : Bool) (σ' : pm_H) : Prop := (b = true → XQ m σ σ' ∧ ((g ∈ keys S ∧ (g, x.drop (mlen x y), y.drop (mlen x y)) ∈ S ∧ tabM σ' m S) ∨ (g ∉ keys S ∧ tabM σ' m (S ++ [(g, x.drop (mlen x y), y.drop (mlen x y))])))) ∧ (b = false → σ' = σ ∧ ∃ w', (g, w') ∈ S ∧ w' ≠ (x.drop (mlen x y), y.drop (mlen x y)))
theorem s_M_comes {σ : pm_H} {A B : Tr} {m g : Nat} {S : List Ent} {x y : List Nat} (hm : mS σ m) (ht : tabM σ m S) (ok : okS A B S ∨ S = []) (hx : wdT σ (m + 27) x) (hy : wdT σ (m + 28) y) (hg : g < 144) (lx : x.length ≤ 870) (ly : y.length ≤ 870) (cx : ∀ c, c ∈ x → c < 100) (cy : ∀ c, c ∈ y → c < 100) (lm : max x.length y.length - mlen x y ≤ 870) : pm_C 0 226 [.ref m, .int (Int32.ofInt (g : Int)), .int (Int32.ofInt ((mlen x y : Nat) : Int)), .int (Int32.ofInt (x.length : Int)), .int (Int32.ofInt (y.length : Int))] σ (fun o σ' => ∃ b, o = .inl (some (.int (bI b))) ∧ comP m g S x y σ b σ') := by
  have vg := vi (show g < 144 from hg) (by omega)
  have wg := vc (show g < 2000000 by omega)
  have ml : mlen x y = min x.length y.length := rfl
  have n1 : (x.drop (mlen x y)).length = x.length - mlen x y := List.length_drop
  have n2 : (y.drop (mlen x y)).length = y.length - mlen x y := List.length_drop
  -- what is read on from the place
  have rd : ∀ j, j < max x.length y.length - mlen x y → ∃ b : Nat, (x.drop (mlen x y) ++ y.drop (mlen x y))[j]? = some b ∧ b < 100 ∧ (y.length < x.length → iv (pm_A σ (m + 27) (mlen x y + j)) = Int32.ofInt (b : Int)) ∧ (x.length ≤ y.length → iv (pm_A σ (m + 28) (mlen x y + j)) = Int32.ofInt (b : Int)) ∧ mlen x y + j < 876 := by
    intro j hj
    by_cases c : y.length < x.length
    · have l2 : mlen x y + j < x.length := by omega
      have g2 := List.getElem?_eq_getElem l2
      exact ⟨x[mlen x y + j], by rw [left_at, if_pos c]; exact g2, cx _ (List.mem_of_getElem? g2), fun _ => hx _ _ g2, fun q => by omega, by omega⟩
    · have l2 : mlen x y + j < y.length := by omega
      have g2 := List.getElem?_eq_getElem l2
      exact ⟨y[mlen x y + j], by rw [left_at, if_neg c]; exact g2, cy _ (List.mem_of_getElem? g2), fun q => by omega, fun _ => hy _ _ g2, by omega⟩
  have z0 : Int32.ofInt ((x.length : Int) - (y.length : Int)) ≤ 0 ↔ x.length ≤ y.length := by
    rw [show Int32.ofInt ((x.length : Int) - (y.length : Int)) ≤ 0 ↔ (x.length : Int) - (y.length : Int) ≤ 0 from oi_lel ⟨by omega, by decide⟩]
    omega
  have at17 : pm_R 0 226 17 [.ref m, .int (Int32.ofInt (g : Int)), .int (Int32.ofInt ((mlen x y : Nat) : Int)), pm_U, pm_U, .int (Int32.ofInt ((x.length : Int) - (y.length : Int))), pm_U, pm_U] [.int (Int32.ofInt ((max x.length y.length - mlen x y : Nat) : Int))] σ (fun o σ' => ∃ b, o = .inl (some (.int (bI b))) ∧ comP m g S x y σ b σ') := by
    by_cases c : g ∈ keys S
    · obtain ⟨u, v, hm0⟩ := key_in c
      obtain ⟨i, hi⟩ := List.mem_iff_getElem?.mp hm0
      have ok' : okS A B S := by
        rcases ok with q | q
        · exact q
        · rw [q] at hm0; simp at hm0
      have ent := (ht.2.1 i g u v hi).2
      obtain ⟨b1, b2, b3, b4, b5⟩ := ok'.1 i g u v hi
      have il := (List.getElem?_eq_some_iff.mp hi).1
      have l144 := okS_len ok'
      have uv0 : u.length = 0 ∨ v.length = 0 := by
        rcases b3 with q | q
        · left; rw [q]; rfl
        · right; rw [q]; rfl
      have cu : ∀ d, d ∈ u ++ v → d < 100 := fun d hd => by
        rcases List.mem_append.mp hd with w | w
        · exact b4 d w
        · exact b5 d w
      refine w_M_comes_17 (rdR hm.1 hm.f23 (gA hm.t23 hm.l23 vg wg ent.1 ⟨fun q => absurd q (by decide), fun _ => rdR hm.1 hm.f24 (gA hm.t24 hm.l24 vg wg ent.2.1 ?_)⟩))
      rw [oi_eq (by omega)]
      refine ⟨fun e => ?_, fun e => ⟨rfl, false, rfl, fun q => (by cases q), fun _ => ⟨rfl, (u, v), hm0, fun q => ?_⟩⟩⟩
      · have len : max x.length y.length - mlen x y = u.length + v.length := by omega
        rw [len]
        by_cases same : (u, v) = (x.drop (mlen x y), y.drop (mlen x y))
        · have e1 : u = x.drop (mlen x y) := congrArg (fun z => z.1) same
          have e2 : v = y.drop (mlen x y) := congrArg (fun z => z.2) same
          refine lp0 (fun j => [.ref m, .int (Int32.ofInt (g : Int)), .int (Int32.ofInt ((mlen x y : Nat) : Int)), pm_U, pm_U, .int (Int32.ofInt ((x.length : Int) - (y.length : Int))), .int (Int32.ofInt ((u.length + v.length : Nat) : Int)), .int (Int32.ofInt (j : Nat))]) (u.length + v.length) (fun j hj next => ?_) ?_ 0 (Nat.zero_le _)
          · obtain ⟨b, r2, r3, r4, r5, r6⟩ := rd j (by omega)
            have r1 := ent.2.2 j b (by rw [e1, e2]; exact r2)
            refine w_M_comes_33 ⟨fun q => ?_, fun _ => ?_⟩
            · rw [oi_le (by omega)] at q; omega
            rw [oi_870, oi_addN, z0, oi_s]
            refine rdR hm.1 hm.f25 (gA hm.t25 hm.l25 (vi (show 870 * g + j < 125280 by omega) (by omega)) (vc (by omega)) r1 ⟨fun q => ?_, fun q => ?_⟩)
            · exact rdR hm.1 hm.f28 (gA hm.t28 hm.l28 (vi r6 (by omega)) (vc (by omega)) (r5 q) ⟨fun _ => next, fun w => absurd rfl w⟩)
            · exact rdR hm.1 hm.f27 (gA hm.t27 hm.l27 (vi r6 (by omega)) (vc (by omega)) (r4 (by omega)) ⟨fun _ => next, fun w => absurd rfl w⟩)
          · exact w_M_comes_33 ⟨fun _ => ⟨rfl, true, rfl, fun _ => ⟨frX.rf, Or.inl ⟨c, by rw [← e1, ← e2]; exact hm0, ht⟩⟩, fun q => (by cases q)⟩, fun q => absurd (Int32.le_refl _) q⟩
        · have ex : ∃ j, j < u.length + v.length ∧ (u ++ v)[j]? ≠ (x.drop (mlen x y) ++ y.drop (mlen x y))[j]? := by
            apply Classical.byContradiction
            intro n
            have all : ∀ j, j < u.length + v.length → (u ++ v)[j]? = (x.drop (mlen x y) ++ y.drop (mlen x y))[j]? := fun j hj => by
              apply Classical.byContradiction
              intro q; exact n ⟨j, hj, q⟩
            have eq : u ++ v = x.drop (mlen x y) ++ y.drop (mlen x y) := by
              apply List.ext_getElem?
              intro j
              by_cases hj : j < u.length + v.length
              · exact all j hj
              · rw [List.getElem?_eq_none (by rw [List.length_append]; omega), List.getElem?_eq_none (by rw [List.length_append, n1, n2]; omega)]
            refine same ?_
            obtain ⟨q1, q2⟩ := List.append_inj eq (by rw [n1]; omega)
            rw [q1, q2]
          obtain ⟨j0, h1, h2⟩ := ex
          refine lp_up (fun j (_ : Unit) => [.ref m, .int (Int32.ofInt (g : Int)), .int (Int32.ofInt ((mlen x y : Nat) : Int)), pm_U, pm_U, .int (Int32.ofInt ((x.length : Int) - (y.length : Int))), .int (Int32.ofInt ((u.length + v.length : Nat) : Int)), .int (Int32.ofInt (j : Nat))]) (fun j _ τ => τ = σ ∧ j ≤ j0) (u.length + v.length) (fun j hj _ τ hτ next => ?_) (fun _ τ hτ => absurd hτ.2 (by omega)) 0 (Nat.zero_le _) () σ ⟨rfl, Nat.zero_le _⟩
          obtain ⟨rfl, hj0⟩ := hτ
          obtain ⟨b, r2, r3, r4, r5, r6⟩ := rd j (by omega)
          have l1 : j < (u ++ v).length := by rw [List.length_append]; exact hj
          have r0 := List.getElem?_eq_getElem l1
          generalize (u ++ v)[j] = a at r0
          have ca := cu a (List.mem_of_getElem? r0)
          have r1 := ent.2.2 j a r0
          have on : a = b → pm_R 0 226 33 [.ref m, .int (Int32.ofInt (g : Int)), .int (Int32.ofInt ((mlen x y : Nat) : Int)), pm_U, pm_U, .int (Int32.ofInt ((x.length : Int) - (y.length : Int))), .int (Int32.ofInt ((u.length + v.length : Nat) : Int)), .int (Int32.ofInt ((j + 1 : Nat) : Int))] [] τ (fun o σ' => ∃ b, o = .inl (some (.int (bI b))) ∧ comP m g S x y τ b σ') := fun ab => next () τ ⟨rfl, by
            by_cases c0 : j = j0
            · exfalso
              rw [c0] at r0 r2
              exact h2 (by rw [r0, r2, ab])
            · omega⟩
          have bad : ∃ b, (Sum.inl (some (.int ((0 : Int32)))) : pm_O) = .inl (some (.int (bI b))) ∧ comP m g S x y τ b τ := ⟨false, rfl, fun q => (by cases q), fun _ => ⟨rfl, (u, v), hm0, same⟩⟩
          refine w_M_comes_33 ⟨fun q => ?_, fun _ => ?_⟩
          · rw [oi_le (by omega)] at q; omega
          rw [oi_870, oi_addN, z0, oi_s]
          refine rdR hm.1 hm.f25 (gA hm.t25 hm.l25 (vi (show 870 * g + j < 125280 by omega) (by omega)) (vc (by omega)) r1 ⟨fun q => ?_, fun q => ?_⟩)
          · refine rdR hm.1 hm.f28 (gA hm.t28 hm.l28 (vi r6 (by omega)) (vc (by omega)) (r5 q) ?_)
            rw [oi_eq (by omega)]
            exact ⟨fun w => on (by omega), fun _ => ⟨rfl, bad⟩⟩
          · refine rdR hm.1 hm.f27 (gA hm.t27 hm.l27 (vi r6 (by omega)) (vc (by omega)) (r4 (by omega)) ?_)
            rw [oi_eq (by omega)]
            exact ⟨fun w => on (by omega), fun _ => ⟨rfl, bad⟩⟩
      · have e1 : u = x.drop (mlen x y) := congrArg (fun z => z.1) q
        have e2 : v = y.drop (mlen x y) := congrArg (fun z => z.2) q
        rw [← e1] at n1
        rw [← e2] at n2
        omega
    · have hS : S.length < 144 := by
        rcases ok with q | q
        · exact okS_lt q hg c
        · rw [q]; simp
      have kl : ∀ (i x' : Nat) (u v : List Nat), S[i]? = some (x', u, v) → x' < 144 := fun i x' u v hi => by
        rcases ok with q | q
        · exact (q.1 i x' u v hi).1
        · rw [q] at hi; simp at hi
      refine w_M_comes_17 (rdR hm.1 hm.f23 (gA hm.t23 hm.l23 vg wg (ht.2.2 g hg c) ⟨fun _ => rdR hm.1 hm.f23 (wA hm.t23 hm.l23 vg wg (fun σ4 e4 => ?_)), fun q => absurd rfl q⟩))
      have f4 : XQ m σ σ4 := by rw [e4]; exact XQ_sA (by omega)
      have m4 := f4.mS hm
      refine rdR m4.1 m4.f24 (wA m4.t24 m4.l24 vg wg (fun σ6 e6 => ?_))
      have f6 : XQ m σ σ6 := f4.tr (by rw [e6]; exact XQ_sA (by omega))
      have A23 : ∀ j, pm_A σ6 (m + 23) j = if j = g then .int (vp_nar .boolean 1) else pm_A σ (m + 23) j := fun j => by
        rw [e6, A_sA, if_neg (by omega), e4, A_sA]
        by_cases c : j = g
        · rw [if_pos ⟨rfl, c⟩, if_pos c]
        · rw [if_neg (fun q => c q.2), if_neg c]
      have A24 : ∀ j, pm_A σ6 (m + 24) j = if j = g then .int (Int32.ofInt ((x.length : Int) - (y.length : Int))) else pm_A σ (m + 24) j := fun j => by
        rw [e6, A_sA, e4, A_sA, if_neg (c := m + 24 = m + 23 ∧ j = g) (by omega)]
        by_cases c : j = g
        · rw [if_pos ⟨rfl, c⟩, if_pos c]
        · rw [if_neg (fun q => c q.2), if_neg c]
      have A25 : ∀ j, pm_A σ6 (m + 25) j = pm_A σ (m + 25) j := fun j => by
        rw [e6, A_sA, if_neg (by omega), e4, A_sA, if_neg (by omega)]
      have A26 : ∀ j, pm_A σ6 (m + 26) j = pm_A σ (m + 26) j := fun j => by
        rw [e6, A_sA, if_neg (by omega), e4, A_sA, if_neg (by omega)]
      refine lp (fun j => [.ref m, .int (Int32.ofInt (g : Int)), .int (Int32.ofInt ((mlen x y : Nat) : Int)), pm_U, pm_U, .int (Int32.ofInt ((x.length : Int) - (y.length : Int))), .int (Int32.ofInt ((max x.length y.length - mlen x y : Nat) : Int)), .int (Int32.ofInt (j : Nat))]) (fun j τ => XR m 25 σ6 τ ∧ (∀ i b : Nat, i < j → (x.drop (mlen x y) ++ y.drop (mlen x y))[i]? = some b → iv (pm_A τ (m + 25) (870 * g + i)) = Int32.ofInt (b : Int)) ∧ ∀ a, (a < 870 * g ∨ 870 * g + 870 ≤ a) → pm_A τ (m + 25) a = pm_A σ (m + 25) a) (max x.length y.length - mlen x y) (fun j hj τ hh next => ?_) (fun τ hh => ?_) 0 (Nat.zero_le _) σ6 ⟨frX.rf, fun i b h => absurd h (by omega), fun a _ => A25 a⟩
      · obtain ⟨f, hd, ho⟩ := hh
        have mt := f.mS (f6.mS hm)
        obtain ⟨b, r2, r3, r4, r5, r6⟩ := rd j hj
        have R27 : pm_A τ (m + 27) (mlen x y + j) = pm_A σ (m + 27) (mlen x y + j) := by rw [frX.A f (by omega) (by omega), frX.A f6 (by omega) (by omega)]
        have R28 : pm_A τ (m + 28) (mlen x y + j) = pm_A σ (m + 28) (mlen x y + j) := by rw [frX.A f (by omega) (by omega), frX.A f6 (by omega) (by omega)]
        have nx : ∀ σ4, σ4 = pm_sA τ (m + 25) (870 * g + j) (.int (Int32.ofInt (b : Int))) → pm_R 0 226 78 [.ref m, .int (Int32.ofInt (g : Int)), .int (Int32.ofInt ((mlen x y : Nat) : Int)), pm_U, pm_U, .int (Int32.ofInt ((x.length : Int) - (y.length : Int))), .int (Int32.ofInt ((max x.length y.length - mlen x y : Nat) : Int)), .int (Int32.ofInt ((j + 1 : Nat) : Int))] [] σ4 (fun o σ' => ∃ b, o = .inl (some (.int (bI b))) ∧ comP m g S x y σ b σ') := fun σ4 e4 => next σ4 ⟨f.tr (by rw [e4]; exact XR_sA (by omega) (by omega)), fun i b' hi hb' => by
          rw [e4, A_sA]
          by_cases c : i = j
          · rw [c] at hb' ⊢
            rw [if_pos ⟨rfl, rfl⟩]
            rw [r2] at hb'
            rw [Option.some.inj hb']; rfl
          · rw [if_neg (by omega)]; exact hd i b' (by omega) hb', fun a ha => by rw [e4, A_sA, if_neg (by omega)]; exact ho a ha⟩
        refine w_M_comes_78 ⟨fun q => ?_, fun _ => ?_⟩
        · rw [oi_le (by omega)] at q; omega
        rw [z0, oi_addN, oi_870, oi_s]
        refine rdR mt.1 mt.f25 ⟨fun q => ?_, fun q => ?_⟩
        · refine rdR mt.1 mt.f28 (gA mt.t28 mt.l28 (vi r6 (by omega)) (vc (by omega)) (ivq R28 (r5 q)) ?_)
          rw [byte_c b r3]
          exact wA mt.t25 mt.l25 (vi (show 870 * g + j < 125280 by omega) (by omega)) (vc (by omega)) nx
        · refine rdR mt.1 mt.f27 (gA mt.t27 mt.l27 (vi r6 (by omega)) (vc (by omega)) (ivq R27 (r4 (by omega))) ?_)
          rw [byte_c b r3]
          exact wA mt.t25 mt.l25 (vi (show 870 * g + j < 125280 by omega) (by omega)) (vc (by omega)) nx
      · obtain ⟨f, hd, ho⟩ := hh
        have mt := f.mS (f6.mS hm)
        have q0 : iv (pm_F τ 1234 m) = Int32.ofInt (S.length : Int) := by rw [frX.F f id, e6, F_sA, e4, F_sA]; exact ht.1
        refine w_M_comes_78 ⟨fun _ => ?_, fun q => absurd (Int32.le_refl _) q⟩
        refine rdR mt.1 mt.f26 (rdF mt.1 q0 (wA mt.t26 mt.l26 (vi (show S.length < 49152 by omega) (by omega)) (vc (by omega)) (fun σ8 e8 => ?_)))
        have m8 : mS σ8 m := by rw [e8]; exact mS_sA mt
        refine rdF m8.1 (ivq (by rw [e8, F_sA]) q0) (wF m8.1 (fun σ9 e9 => ⟨rfl, true, rfl, fun _ => ⟨?_, Or.inr ⟨c, ?_⟩⟩, fun q => (by cases q)⟩))
        · exact ((f6.tr (frX.mono f (fun _ q => q.elim) (fun i q => by omega) (fun _ q => q))).tr (show XQ m τ σ8 from by rw [e8]; exact XQ_sA (by omega))).tr (by rw [e9]; exact XQ_sF)
        rw [oi_s] at e9
        refine ⟨by rw [e9, F_sF, if_pos ⟨rfl, rfl⟩, List.length_append]; rfl, fun i x' u' v' hi => ?_, fun x' hx' hn' => ?_⟩
        · have B26 : ∀ j, pm_A σ9 (m + 26) j = if j = S.length then .int (Int32.ofInt (g : Int)) else pm_A σ (m + 26) j := fun j => by
            rw [e9, A_sF, e8, A_sA, frX.A f (by omega) (by omega), A26]
            by_cases c : j = S.length
            · rw [if_pos ⟨rfl, c⟩, if_pos c]
            · rw [if_neg (fun q => c q.2), if_neg c]
          have B23 : ∀ j, pm_A σ9 (m + 23) j = pm_A σ6 (m + 23) j := fun j => by rw [e9, A_sF, e8, A_sA, if_neg (by omega), frX.A f (by omega) (by omega)]
          have B24 : ∀ j, pm_A σ9 (m + 24) j = pm_A σ6 (m + 24) j := fun j => by rw [e9, A_sF, e8, A_sA, if_neg (by omega), frX.A f (by omega) (by omega)]
          have B25 : ∀ j, pm_A σ9 (m + 25) j = pm_A τ (m + 25) j := fun j => by rw [e9, A_sF, e8, A_sA, if_neg (by omega)]
          rcases getA hi with d | ⟨d, d2⟩
          · have il := (List.getElem?_eq_some_iff.mp d).1
            obtain ⟨g1, g2, g3, g4⟩ := ht.2.1 i x' u' v' d
            have xg : x' ≠ g := fun q => c (by rw [← q]; exact List.mem_map.mpr ⟨_, List.mem_of_getElem? d, rfl⟩)
            have ok' : okS A B S := by
              rcases ok with q | q
              · exact q
              · rw [q] at d; simp at d
            obtain ⟨b1, b2, b3, b4, b5⟩ := ok'.1 i x' u' v' d
            refine ⟨by rw [B26, if_neg (by omega)]; exact g1, by rw [B23, A23, if_neg xg]; exact g2, by rw [B24, A24, if_neg xg]; exact g3, fun j e he => ?_⟩
            have jl := (List.getElem?_eq_some_iff.mp he).1
            rw [List.length_append] at jl
            rw [B25, ho _ (by omega)]
            exact g4 j e he
          · have q1 : x' = g := congrArg (fun z : Ent => z.1) d2
            have q2 : u' = x.drop (mlen x y) := congrArg (fun z : Ent => z.2.1) d2
            have q3 : v' = y.drop (mlen x y) := congrArg (fun z : Ent => z.2.2) d2
            rw [q1, q2, q3]
            refine ⟨by rw [B26, if_pos d]; rfl, by rw [B23, A23, if_pos rfl]; rfl, by rw [B24, A24, if_pos rfl, n1, n2]; show Int32.ofInt _ = Int32.ofInt _; congr 1; omega, fun j e he => ?_⟩
            have jl := (List.getElem?_eq_some_iff.mp he).1
            rw [List.length_append, n1, n2] at jl
            rw [B25]
            exact hd j e (by omega) he
        · have e0 : keys (S ++ [(g, x.drop (mlen x y), y.drop (mlen x y))]) = keys S ++ [g] := by unfold keys; rw [List.map_append]; rfl
          rw [e0, List.mem_append, List.mem_singleton] at hn'
          rw [e9, A_sF, e8, A_sA, if_neg (by omega), frX.A f (by omega) (by omega), A23, if_neg (fun q => hn' (Or.inr q))]
          exact ht.2.2 x' hx' (fun q => hn' (Or.inl q))
  refine w_M_comes_0 ?_
  rw [oi_le (by omega), oi_sub, oi_sub]
  refine ⟨fun c => ?_, fun c => ?_⟩
  · rw [show ((mlen x y : Nat) : Int) - (y.length : Int) = (x.length : Int) - (y.length : Int) by omega]
    rw [show (0 : Int32) ≤ Int32.ofInt ((x.length : Int) - (y.length : Int)) ↔ (0 : Int) ≤ (x.length : Int) - (y.length : Int) from oi_lle ⟨by omega, by decide⟩, oi_negs]
    refine ⟨fun q => ?_, fun q => ?_⟩
    · rw [show max x.length y.length - mlen x y = 0 by omega] at at17
      rw [show (x.length : Int) - (y.length : Int) = 0 by omega] at at17 ⊢
      exact at17
    · rw [show -((x.length : Int) - (y.length : Int)) = ((max x.length y.length - mlen x y : Nat) : Int) by omega]
      exact at17
  · rw [show (x.length : Int) - ((mlen x y : Nat) : Int) = (x.length : Int) - (y.length : Int) by omega]
    rw [show (0 : Int32) ≤ Int32.ofInt ((x.length : Int) - (y.length : Int)) ↔ (0 : Int) ≤ (x.length : Int) - (y.length : Int) from oi_lle ⟨by omega, by decide⟩]
    refine ⟨fun q => ?_, fun q => absurd (by omega) q⟩
    rw [show max x.length y.length - mlen x y = x.length - y.length by omega] at at17
    rw [show (((x.length - y.length : Nat) : Int)) = (x.length : Int) - (y.length : Int) by omega] at at17
    exact at17
