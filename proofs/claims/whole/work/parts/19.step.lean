/-! ===== the pure machine is sound: one more step; all runs ===== -/
section SNS
variable {D : va_G} {DA : Nat → ClassId} {B : Nat} {strs : List (String × Nat × String)} {ncs : List (String × String)} {l : Launch} {NM n : Nat}
theorem pm_kc_of {own : String} {args : Array Value} {s : State} {i : Instr} {v : Value} (hk : pm_known s) (h : pm_kcw own i v) : pm_kc own args s i v := by
  unfold pm_kcw at h
  unfold pm_kc
  cases i <;> first | trivial | (obtain ⟨x, h1, h2⟩ := h; exact ⟨x, h1, hk _ h2 rfl args⟩)
theorem pm_room_20 {d : Nat} {R : Room} (h : pm_room d R) : 1 ≤ R.frames ∧ 200 ≤ R.locals ∧ 5 < R.frames := by
  obtain ⟨h1, h2⟩ := h
  refine ⟨by omega, Nat.le_trans ?_ h2, by omega⟩
  exact Nat.le_trans (Nat.le_of_ble_eq_true rfl : 200 ≤ 300) (Nat.le_add_left _ _)
set_option maxHeartbeats 4000000 in
theorem pm_sound_step (hl : l.stackTraces = false) (hE : ∀ (m k : Nat) (e : pm_E), m < NM → (pm_cd' m)[k]? = some e → pm_eok NM strs ncs m e) (h0 : ∀ x, x < NM → ∃ en, (pm_cd' x)[0]? = some en ∧ en.1 = 0) (IH : pm_Goal D DA B strs ncs l NM n) : pm_Goal D DA B strs ncs l NM (n + 1) := by
  intro d m k L S σ o σ' h hm p e R s mid args below meth c H locs cells slots Mc Ms ls Q pc hctx hroom hlr hrep hS hMc hMs hRc hRs hfin hpc
  obtain ⟨en, hen, hpc⟩ := hpc
  have heok := hE m k en hm hen
  have hctx' := hctx
  obtain ⟨hexec, hb, hml, hown, hlocks, hret, hini, htab, hamb⟩ := hctx'
  have hk := hamb.2.2.1
  have hml' : c.maxLocals = ls.size := by rw [hml]; exact hlr.1.symm
  have h : pm_step (pm_exec n) d m k L S σ = some (o, σ') := h
  obtain ⟨hfr, hlo, hfr5⟩ := pm_room_20 hroom
  unfold pm_step at h
  have hen' : (pm_prog m).2.2[k]? = some en := hen
  rw [hen'] at h
  obtain ⟨pc0, i, len, v, x, y, nx, f1, f2, c1, c2, hs⟩ := en
  dsimp only at hpc
  subst hpc
  dsimp only at h
  obtain ⟨hthr, hsw, hgen⟩ := heok
  -- going on at a place
  have go : ∀ {d' : Nat} {k' : Nat} {L' S' : List Value} {σ1 : pm_H} {H1 : Heap} {locs1 : List Loc} {ls1 : Array Slot} {cells1 slots1 pc1 : Nat}, pm_exec n d' m k' L' S' σ1 = some (o, σ') → pm_room d' R → pm_lr ls1 (pm_nl m) L' → pm_rep D DA B s σ1 H1 → va_S (fun q => B ≤ q) s.heap H1 locs1 → cells1 = cells + (pm_n σ1 - pm_n σ) → slots1 = slots + (pm_w σ1 - pm_w σ) → pm_n σ ≤ pm_n σ1 → pm_w σ ≤ pm_w σ1 → (∃ en, (pm_cd' m)[k']? = some en ∧ en.1 = pc1) → W p l e R s mid args below meth c H1 locs1 cells1 slots1 Q (F0 mid pc1 ls1 S') := by
    intro d' k' L' S' σ1 H1 locs1 ls1 cells1 slots1 pc1 g1 g2 g3 g4 g5 g6 g7 g8 g9 g10
    have g11 := pm_exec_n _ _ _ _ _ _ _ _ _ g1
    exact IH d' m k' L' S' σ1 o σ' g1 hm p e R s mid args below meth c H1 locs1 cells1 slots1 Mc Ms ls1 Q pc1 hctx g2 g3 g4 g5 (by omega) (by omega) hRc hRs hfin g10
  cases h1 : pm_sop i v L S with
  | some q =>
    obtain ⟨L', S'⟩ := q
    rw [h1] at h
    obtain ⟨z1, z2, z3⟩ := pm_sop_dc (cc := pm_cc m) (pc := pc0) (y := y) h1
    obtain ⟨g1, g2, g3, g4, g5, g6, g7, g8, g9, g10, g11⟩ := hgen z1
    refine pm_sop_ok hexec hb hown (z3 g1) g2 (pm_kc_of hk g3) h1 hlr (fun ls' hl' => ?_)
    exact go h hroom (pm_lr_fg f1 hl') hrep hS (by omega) (by omega) (Nat.le_refl _) (Nat.le_refl _) (g7 z2)
  | none =>
  rw [h1] at h
  dsimp only at h
  cases h2 : pm_rd i v x y S σ with
  | some q =>
    obtain ⟨pq, w, S'⟩ := q
    rw [h2] at h
    dsimp only at h
    by_cases hp : pm_op pq
    · rw [pm_if_t hp] at h
      obtain ⟨z1, z2, z3⟩ := pm_rd_dc (cc := pm_cc m) (pc := pc0) (y' := y) h2
      obtain ⟨g1, g2, g3, g4, g5, g6, g7, g8, g9, g10, g11⟩ := hgen z1
      refine pm_rd_ok hexec hb hown hamb hrep (z3 g1) g4 h2 hp ?_
      exact go h hroom (pm_lr_fg f1 hlr) hrep hS (by omega) (by omega) (Nat.le_refl _) (Nat.le_refl _) (g7 z2)
    · rw [pm_if_f hp] at h; cases h
  | none =>
  rw [h2] at h
  dsimp only at h
  cases h2a : pm_wr i v x y S σ with
  | some q =>
    obtain ⟨pq, S', σ1⟩ := q
    rw [h2a] at h
    dsimp only at h
    by_cases hp : pm_op pq
    · rw [pm_if_t hp] at h
      obtain ⟨z1, z2⟩ := pm_wr_dc h2a
      have z4 := pm_wr_le h2a
      have z5 := pm_exec_n _ _ _ _ _ _ _ _ _ h
      obtain ⟨g1, g2, g3, g4, g5, g6, g7, g8, g9, g10, g11⟩ := hgen z1
      refine pm_wr_ok hexec hb hml' hown (fun hi => hini (of_decide_eq_true hi)) hamb hrep hS g1 g5 h2a hp hfr hlo (by omega) (by omega) (fun H1 locs1 g12 g13 => ?_)
      exact go h hroom (pm_lr_fg f1 hlr) g12 g13 rfl rfl z4.1 z4.2 (g7 z2)
    · rw [pm_if_f hp] at h; cases h
  | none =>
  rw [h2a] at h
  dsimp only at h
  cases h2b : pm_cd i S with
  | some q =>
    obtain ⟨pq, S'⟩ := q
    rw [h2b] at h
    dsimp only at h
    by_cases hp : pm_op pq
    · rw [pm_if_t hp] at h
      obtain ⟨z1, z2⟩ := pm_cd_dc h2b
      obtain ⟨g1, g2, g3, g4, g5, g6, g7, g8, g9, g10, g11⟩ := hgen z1
      refine pm_cd_ok (nL := 0) hexec hb hml' hown hamb g1 g6 h2b hp hfr hlo (by omega) (by omega) ?_
      exact go h hroom (pm_lr_fg f1 hlr) hrep hS (by omega) (by omega) (Nat.le_refl _) (Nat.le_refl _) (g7 z2)
    · rw [pm_if_f hp] at h; cases h
  | none =>
  rw [h2b] at h
  dsimp only at h
  cases h3 : pm_bop i S with
  | some q =>
    obtain ⟨pq, sw, S'⟩ := q
    rw [h3] at h
    dsimp only at h
    obtain ⟨z1, z2, z3, z4, z5⟩ := pm_bop_dc (cc := pm_cc m) (pc := pc0) (y := y) h3
    obtain ⟨g1, g2, g3, g4, g5, g6, g7, g8, g9, g10, g11⟩ := hgen z1
    obtain ⟨et, he1, he2⟩ := z5 _ _ _ _ g8
    have g7' := g7 z2
    rw [z3] at g7'
    refine pm_bop_ok (tgt := et.1) hexec hb (z4 g1) he2 h3 (fun hp => ?_) (fun hp => ?_)
    · rw [pm_if_t hp] at h
      cases sw with
      | true => exact go h hroom (pm_lr_fg f1 hlr) hrep hS (by omega) (by omega) (Nat.le_refl _) (Nat.le_refl _) g7'
      | false => exact go h hroom (pm_lr_fg f2 hlr) hrep hS (by omega) (by omega) (Nat.le_refl _) (Nat.le_refl _) ⟨et, he1, rfl⟩
    · rw [pm_if_f hp] at h
      cases sw with
      | true => exact go h hroom (pm_lr_fg f2 hlr) hrep hS (by omega) (by omega) (Nat.le_refl _) (Nat.le_refl _) ⟨et, he1, rfl⟩
      | false => exact go h hroom (pm_lr_fg f1 hlr) hrep hS (by omega) (by omega) (Nat.le_refl _) (Nat.le_refl _) g7'
  | none =>
  rw [h3] at h
  dsimp only at h
  cases h4 : pm_rop i x S with
  | some q =>
    obtain ⟨pq, o1⟩ := q
    rw [h4] at h
    dsimp only at h
    by_cases hp : pm_op pq
    · rw [pm_if_t hp] at h
      obtain ⟨z1, z2, r, hr⟩ := pm_rop_dc (cc := pm_cc m) (pc := pc0) (y := y) h4
      obtain ⟨g1, g2, g3, g4, g5, g6, g7, g8, g9, g10, g11⟩ := hgen z1
      cases h
      subst hr
      have e1 : cells = Mc := by omega
      have e2 : slots = Ms := by omega
      rw [e1, e2]
      exact hfin.1 r rfl H locs pc0 ls S i x pq h4 hp (z2 g1) g9 hrep hS
    · rw [pm_if_f hp] at h; cases h
  | none =>
  rw [h4] at h
  dsimp only at h
  split at h
  · -- goto
    obtain ⟨g1, g2, g3, g4, g5, g6, g7, g8, g9, g10, g11⟩ := hgen rfl
    obtain ⟨et, he1, he2⟩ := g8
    refine lv_goto (tgt := et.1) hexec hb g1 he2 ?_
    exact go h hroom (pm_lr_fg f2 hlr) hrep hS (by omega) (by omega) (Nat.le_refl _) (Nat.le_refl _) ⟨et, he1, rfl⟩
  · -- throw
    cases h
    obtain ⟨ik, is, ic, text, hh, hfit, w1, w2, w3, w4, d1, d2, d3⟩ := hthr rfl
    obtain ⟨sa, hsa⟩ := hamb.2.2.2.1 _ w3
    have hQ := hfin.2 x rfl
    rw [hQ]
    have en1 : pm_n (pm_thr σ) = pm_n σ + 1 := rfl
    have ew1 : pm_w (pm_thr σ) = pm_w σ + 6 := rfl
    have hout : ∀ q, ∀ z ∈ c.exceptionTable.toList, covers z q = false := by
      intro q z hz
      rw [htab, hh] at hz
      cases hz
    have hXC : ∀ t : State, s.WarmedH t.vm → t.heap.size = H.size + 1 → (∀ q : Nat, q < H.size → t.heap[q]? = H[q]?) → pm_Xc D DA B (.inr x) (pm_thr σ) (pm_ex x) s t := fun t hW hz ho =>
      ⟨⟨x, rfl, rfl⟩, (hrep.thr hz ho).moved hW.alike, ⟨Nat.le_trans hS.1 (by omega), fun q h1 h2 => (ho q (Nat.lt_of_lt_of_le h1 hS.1)).trans (hS.2.1 q h1 h2)⟩⟩
    have hlo' : (([] : List Value).map fun v => v.category).sum + (13 * (pm_names.length + 1) + 43) ≤ R.locals := Nat.le_trans (Nat.le_of_ble_eq_true rfl : _ ≤ 200) hlo
    rcases w4 with w4 | ⟨ix, by0, b0, b1, b2, b5, w4⟩
    · have hat : ∀ w ∈ vx_atS (pm_own m) ic (pm_ex x) pm_names, w.before args s = true := fun w hw => hk w (w4 w hw).1 (w4 w hw).2.1 args
      have hgood : ∀ w ∈ Cond.classLink (pm_own m) ik (pm_ex x) :: Cond.initialized (pm_ex x) :: vx_atS (pm_own m) ic (pm_ex x) pm_names, vx_ot w = true := by
        intro w hw
        rcases List.mem_cons.mp hw with rfl | hw
        · rfl
        · rcases List.mem_cons.mp hw with rfl | hw
          · rfl
          · exact (w4 w hw).2.2
      have hnames : ∀ n ∈ pm_names, Bundle.fit n = true := by decide +kernel
      rcases d3 with ⟨d3, d4, d5⟩ | ⟨d3, d4, d5⟩
      · exact px_throwS hexec hb hl hown hfit hnames (hk _ w1 rfl args) (hk _ w2 rfl args) hsa hat hgood hamb.2.2.2.2.1 hamb.2.2.2.2.2.1 hS hml'.symm d1 d2 d3 d4 d5 (hout _) hfr5 hlo' (by omega) (by omega) hlocks hXC hS.2.2 (by omega) (by omega)
      · exact px_throwSW hexec hb hl hown hfit hnames (hk _ w1 rfl args) (hk _ w2 rfl args) hsa hat hgood hamb.2.2.2.2.1 hamb.2.2.2.2.2.1 hS hml'.symm d1 d2 d3 d4 d5 (hout _) hfr5 hlo' (by omega) (by omega) hlocks hXC hS.2.2 (by omega) (by omega)
    · have hat : ∀ w ∈ px_at (pm_own m) ic (pm_ex x) "java/lang/RuntimeException" ["java/lang/Exception"] ix by0, w.before args s = true := fun w hw => hk w (w4 w hw).1 (w4 w hw).2.1 args
      have hgood : ∀ w ∈ Cond.classLink (pm_own m) ik (pm_ex x) :: Cond.initialized (pm_ex x) :: px_at (pm_own m) ic (pm_ex x) "java/lang/RuntimeException" ["java/lang/Exception"] ix by0, vx_ot w = true := by
        intro w hw
        rcases List.mem_cons.mp hw with rfl | hw
        · rfl
        · rcases List.mem_cons.mp hw with rfl | hw
          · rfl
          · exact (w4 w hw).2.2
      have hY0 : Bundle.fit "java/lang/RuntimeException" = true := by decide +kernel
      have hnames : ∀ n ∈ ["java/lang/Exception"], Bundle.fit n = true := by decide +kernel
      have tail : ∀ (pc9 : Nat) (H1 : Heap) (ce : Cell), decode (pm_cc m) pc9 = .ok (.athrow, 1) → H1.size = H.size + 1 → (∀ q : Nat, q < H.size → H1[q]? = H[q]?) → H1[H.size]? = some ce → ce.vm = .none → s.vm.findClass (pm_ex x) = some ce.cls → W p l e R s mid args below meth c H1 locs (cells + 1) (slots + 6) (vx_MQ below (pm_Qc D DA B (.inr x) (pm_thr σ)) (pm_Xc D DA B (.inr x) (pm_thr σ)) args s Mc Ms (fun q => B ≤ q)) (F0 mid pc9 ls (.ref H.size :: [])) := by
        intro pc9 H1 ce hd9 g1 g2 g3 g4 g5
        refine px_athrow hexec hb hd9 ?_
        have hS1 := pm_S_push hS g1 g2
        exact vx_out (hout _) hlocks g3 g4 g5 (fun t ht hal => ⟨⟨x, rfl, rfl⟩, by rw [ht]; exact (hrep.thr g1 g2).moved hal, hS1.F ht⟩) hS1.2.2 (by omega) (by omega)
      rcases d3 with ⟨d3, d4, d5⟩ | ⟨d3, d4, d5⟩
      · exact px_makeS hexec hb hl hown hfit hY0 hnames b0 b1 b2 b5 (hk _ w1 rfl args) (hk _ w2 rfl args) hsa hat hgood hamb.2.2.2.2.1 hamb.2.2.2.2.2.1 hS hml'.symm d1 d2 d3 d4 hfr5 hlo' (by omega) (by omega) (fun H1 ce g1 g2 g3 g4 g5 => tail _ H1 ce d5 g1 g2 g3 g4 g5)
      · exact px_makeSW hexec hb hl hown hfit hY0 hnames b0 b1 b2 b5 (hk _ w1 rfl args) (hk _ w2 rfl args) hsa hat hgood hamb.2.2.2.2.1 hamb.2.2.2.2.2.1 hS hml'.symm d1 d2 d3 d4 hfr5 hlo' (by omega) (by omega) (fun H1 ce g1 g2 g3 g4 g5 => tail _ H1 ce d5 g1 g2 g3 g4 g5)
  · -- switch
    rename_i d9 lo hi offs z S' q9
    obtain ⟨hd, j1, j2, ⟨ed, je1, je2⟩, j3⟩ := hsw _ _ _ _ rfl
    unfold pm_sw at h
    by_cases hlt : z.toInt < y
    · rw [if_pos hlt] at h
      refine lv_tableOut (tgt := ed.1) hexec hb hd (Or.inl (by rw [j1]; exact hlt)) je2 ?_
      exact go h hroom (pm_lr_fg f1 hlr) hrep hS (by omega) (by omega) (Nat.le_refl _) (Nat.le_refl _) ⟨ed, je1, rfl⟩
    · rw [if_neg hlt] at h
      cases hj : f2[(z.toInt - y).toNat]? with
      | none =>
        rw [hj] at h
        have hge : f2.length ≤ (z.toInt - y).toNat := List.getElem?_eq_none_iff.mp hj
        refine lv_tableOut (tgt := ed.1) hexec hb hd (Or.inr (by rw [j2]; omega)) je2 ?_
        exact go h hroom (pm_lr_fg f1 hlr) hrep hS (by omega) (by omega) (Nat.le_refl _) (Nat.le_refl _) ⟨ed, je1, rfl⟩
      | some t =>
        rw [hj] at h
        have hlt2 : (z.toInt - y).toNat < f2.length := (List.getElem?_eq_some_iff.mp hj).1
        obtain ⟨et, off, k1, k2, k3⟩ := j3 _ _ hj
        refine lv_tableIn (tgt := et.1) (off := off) hexec hb hd (by rw [j1]; exact hlt) (by rw [j2]; omega) (by rw [j1]; exact k2) k3 ?_
        exact go h hroom (pm_lr_fg f1 hlr) hrep hS (by omega) (by omega) (Nat.le_refl _) (Nat.le_refl _) ⟨et, k1, rfl⟩
  · -- calls
    cases hc : pm_isc i with
    | false => rw [hc] at h; cases h
    | true =>
      rw [hc] at h
      simp only [if_true] at h
      have hx0 : pm_isx i = false ∧ pm_len i = 3 ∧ pm_falls i = true ∧ (pm_dc (pm_cc m) pc0 i y → decode (pm_cc m) pc0 = .ok (i, 3)) := by
        unfold pm_isc at hc
        split at hc <;> first | exact ⟨rfl, rfl, rfl, id⟩ | cases hc
      obtain ⟨z1, z2, z3, z4⟩ := hx0
      obtain ⟨g1, g2, g3, g4, g5, g6, g7, g8, g9, g10, g11⟩ := hgen z1
      have g7' := g7 z3
      rw [z2] at g7'
      cases d with
      | zero => cases h
      | succ d' =>
        dsimp only at h
        by_cases hp : (pm_prog x).1 ≤ S.length ∧ pm_cat (S.drop (pm_prog x).1) ≤ 8 ∧ (pm_flat (S.take (pm_prog x).1).reverse).length ≤ (pm_prog x).2.1 ∧ pm_op (pm_rcv σ y (S.take (pm_prog x).1).reverse)
        · rw [pm_if_t hp] at h
          obtain ⟨p1, p2, p3, p4⟩ := hp
          cases hcall : pm_exec n d' x 0 (pm_ent (S.take (pm_prog x).1).reverse (pm_prog x).2.1) [] σ with
          | none => rw [hcall] at h; cases h
          | some q =>
            obtain ⟨o1, σ1⟩ := q
            have a1 := pm_exec_n _ _ _ _ _ _ _ _ _ hcall
            rw [hcall] at h
            cases o1 with
            | inl r =>
              dsimp only at h
              cases hpu : pm_push v r (S.drop (pm_prog x).1) with
              | none => rw [hpu] at h; cases h
              | some S2 =>
                rw [hpu] at h
                have a2 := pm_exec_n _ _ _ _ _ _ _ _ _ h
                refine pm_call_ret IH hctx hroom hlr.1 hrep hS hc (z4 g1) g10 p1 p2 p3 p4 hcall h0 (by omega) (by omega) (fun H1 locs1 g12 g13 => ?_)
                have e9 := pm_push_list hpu
                rw [e9] at h
                exact go h hroom (pm_lr_fg f1 hlr) g12 g13 rfl rfl a1.1 a1.2 g7'
            | inr E =>
              dsimp only at h
              cases c2 with
              | true => cases h
              | false =>
                simp only [Bool.false_eq_true, if_false] at h
                obtain ⟨hk1, hk2⟩ := g11 hc
                cases hlk : hs.lookup E with
                | none =>
                  rw [hlk] at h
                  dsimp only at h
                  split at h
                  · rename_i hemp
                    have hnil : hs = [] := List.isEmpty_iff.mp hemp
                    have hh : pm_hh m = [] := (hk1 hnil).elim (fun h => by cases h) id
                    cases h
                    refine pm_call_thr IH hctx hroom hlr.1 hrep hS hc (z4 g1) g10 p1 p2 p3 p4 hcall h0 (by omega) (by omega) (fun ce q9 H1 locs1 g12 g13 g14 g15 g16 => ?_)
                    rw [hfin.2 E rfl]
                    refine vx_out (fun z hz => by rw [htab, hh] at hz; cases hz) hlocks g14 g15 g16 (fun t ht hal => ⟨⟨E, rfl, rfl⟩, by rw [ht]; exact g12.moved hal, g13.F ht⟩) g13.2.2 (by omega) (by omega)
                  · cases h
                | some hd9 =>
                  rw [hlk] at h
                  dsimp only at h
                  have a2 := pm_exec_n _ _ _ _ _ _ _ _ _ h
                  obtain ⟨pre, suf, t, nm, et, q1, q2, q3, q4, q5, q6, q7, q8⟩ := hk2 E hd9 hlk
                  refine pm_call_thr IH hctx hroom hlr.1 hrep hS hc (z4 g1) g10 p1 p2 p3 p4 hcall h0 (by omega) (by omega) (fun ce q9 H1 locs1 g12 g13 g14 g15 g16 => ?_)
                  refine vx_catch (name := nm) hown pre t suf (by rw [htab]; exact q1) (fun z hz => ?_) q3 q4 (hk _ q5 rfl args) (hk _ q6 rfl args) g14 g15 g16 ?_
                  · rcases q2 z hz with hz1 | ⟨hz1, nm', hz2, hz3⟩
                    · exact Or.inl hz1
                    · exact Or.inr ⟨hz1, nm', hk _ hz2 rfl args, hamb.2.2.2.2.2.2.1 _ hz3⟩
                  · rcases q8 with ⟨k9, r1, r2, r3⟩ | ⟨k9, r1, r2, r3⟩
                    · refine lv_astore_n hexec hb r1 rfl (pm_lr_nil hlr) r2 rfl (fun ls' hl' => ?_)
                      exact go h hroom (lv_has_mono hl' (fun q hq => by simp [pm_asf] at hq)) g12 g13 rfl rfl a1.1 a1.2 ⟨et, q7, r3⟩
                    · refine lv_astore hexec hb r1 (pm_lr_nil hlr) r2 rfl (fun ls' hl' => ?_)
                      exact go h hroom (lv_has_mono hl' (fun q hq => by simp [pm_asf] at hq)) g12 g13 rfl rfl a1.1 a1.2 ⟨et, q7, r3⟩
        · rw [pm_if_f hp] at h; cases h
theorem pm_sound (hl : l.stackTraces = false) (hE : ∀ (m k : Nat) (e : pm_E), m < NM → (pm_cd' m)[k]? = some e → pm_eok NM strs ncs m e) (h0 : ∀ x, x < NM → ∃ en, (pm_cd' x)[0]? = some en ∧ en.1 = 0) : ∀ n, pm_Goal D DA B strs ncs l NM n := by
  intro n
  induction n with
  | zero => intro d m k L S σ o σ' h; cases h
  | succ n ih => exact pm_sound_step hl hE h0 ih
end SNS
