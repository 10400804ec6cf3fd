/-! ===== the pure machine is sound: the step ===== -/
section SNM
variable {D : va_G} {DA : Nat → ClassId} {B : Nat} {strs : List (String × Nat × String)} {ncs : List (String × String)} {l : Launch} {NM n : Nat}
set_option maxRecDepth 10000 in
theorem pm_ari {z d L : Nat} (h1 : z ≤ 80) (h2 : 100 * (d + 1) + 300 ≤ L) : 8 + (z + 11) + (100 * d + 300) ≤ L := by omega
theorem pm_cat_sum : ∀ S : List Value, (S.map fun v => v.category).sum = pm_cat S := by
  intro S
  induction S with
  | nil => rfl
  | cons v r ih => simp [pm_cat, ih]
theorem pm_push_list {mk : Value} {r : Option Value} {S S' : List Value} (h : pm_push mk r S = some S') : S' = r.toList ++ S := by
  unfold pm_push at h
  split at h <;> cases h <;> rfl
theorem pm_rcv_ref {σ : pm_H} {ci : Nat} {As : List Value} (h : pm_op (pm_rcv σ (ci + 1) As)) : ∃ a As', As = .ref a :: As' ∧ pm_t σ a = ci + 1 := by
  unfold pm_rcv at h
  split at h
  · rename_i h1; omega
  · rename_i a As' h1
    exact ⟨a, As', rfl, by cases h1; exact h⟩
  · exact h.elim
theorem pm_wsx_warm {x : Nat} {s : State} (hm : pm_mok x) (hk : pm_known s) : ∀ w ∈ pm_wsx x, ∀ (a' : Array Value) (U : State), s.WarmedH U.vm → w.before a' U = true := by
  intro w hw a' U hW
  cases hh : pm_hh x with
  | nil =>
    have e : pm_wsx x = Cond.code (pm_y x) (pm_cc x) (pm_nl x) (pm_ret x) :: [] := by unfold pm_wsx; rw [hh]
    rw [e] at hw
    rw [List.mem_singleton.mp hw]
    exact pm_kw_warm rfl hW (hk _ (hm.2.1 hh) rfl #[])
  | cons a b =>
    have e : pm_wsx x = Cond.codeWith (pm_y x) (pm_cc x) (pm_nl x) (pm_ret x) (pm_hh x) :: [] := by unfold pm_wsx; rw [hh]
    rw [e] at hw
    rw [List.mem_singleton.mp hw]
    exact pm_kw_warm rfl hW (hk _ (hm.2.2.1 (by rw [hh]; exact fun h => by cases h)) rfl #[])
theorem pm_ar_len {x k : Nat} (h : pm_ar x k) : ∀ sig, parseMethodDescriptor (pm_y x).desc = some sig → k = sig.parameters.length := by
  intro sig hs
  unfold pm_ar at h
  rw [hs] at h
  exact (Option.some.inj h).symm
theorem pm_split {S : List Value} {k : Nat} : S = ((S.take k).reverse).reverse ++ S.drop k := by
  rw [List.reverse_reverse, List.take_append_drop]
section CALLS
variable {p : Program} {e : Env} {R : Room} {s : State} {mid : MethodId} {args : Array Value} {below : List Frame} {meth : Method} {c : Code} {H : Heap} {locs : List Loc} {cells slots : Nat} {Q : State → Prop} {pc : Nat} {ls : Array Slot} {S : List Value}
variable {m x y d : Nat} {i : Instr} {c2 : Bool} {σ σ1 : pm_H}
/-- the words of a plain call -/
theorem pm_callB {idx k : Nat} (hm : pm_mok x) (hh : pm_hh x = []) (hk : pm_known s) (har : pm_ar x k) (hroom : pm_room (d + 1) R) (hlink : Cond.methodLink (pm_own m) idx (pm_y x) ∈ lw_tbl) :
    CallB R s args (pm_own m) idx (pm_y x) (pm_cc x) (pm_nl x) (pm_ret x) (pm_wsx x) (pm_rm d (pm_n σ1 - pm_n σ) (pm_w σ1 - pm_w σ)) (pm_n σ1 - pm_n σ) (pm_w σ1 - pm_w σ) k := by
  have hnl := hm.2.2.2.2.2.2
  obtain ⟨r1, r2⟩ := hroom
  refine ⟨rfl, rfl, ?_, ?_, pm_wsx_warm hm hk, by unfold pm_wsx; rw [hh]; exact List.mem_cons_self, hk _ (hm.2.1 hh) rfl args, hk _ hm.2.2.2.1 rfl args, hm.2.2.2.2.2.1, pm_ar_len har, hk _ hlink rfl args⟩
  · show d + 20 + 1 ≤ R.frames; omega
  · exact pm_ari hnl r2
theorem pm_callN {idx k : Nat} {host : String} (hm : pm_mok x) (hh : pm_hh x = []) (hk : pm_known s) (har : pm_ar x k) (hroom : pm_room (d + 1) R) (hlink : Cond.methodLinkNest (pm_own m) idx (pm_y x) host ∈ lw_tbl) :
    va_CN R s args (pm_own m) idx (pm_y x) host (pm_cc x) (pm_nl x) (pm_ret x) (pm_wsx x) (pm_rm d (pm_n σ1 - pm_n σ) (pm_w σ1 - pm_w σ)) (pm_n σ1 - pm_n σ) (pm_w σ1 - pm_w σ) k := by
  have hnl := hm.2.2.2.2.2.2
  obtain ⟨r1, r2⟩ := hroom
  refine ⟨⟨rfl, rfl, ?_, ?_, pm_wsx_warm hm hk, by unfold pm_wsx; rw [hh]; exact List.mem_cons_self⟩, hk _ (hm.2.1 hh) rfl args, hk _ hm.2.2.2.1 rfl args, hm.2.2.2.2.2.1, pm_ar_len har, hk _ hlink rfl args⟩
  · show d + 20 + 1 ≤ R.frames; omega
  · exact pm_ari hnl r2
theorem pm_callW {idx k : Nat} (hm : pm_mok x) (hh : pm_hh x ≠ []) (hk : pm_known s) (har : pm_ar x k) (hroom : pm_room (d + 1) R) (hlink : Cond.methodLink (pm_own m) idx (pm_y x) ∈ lw_tbl) (hst : Cond.static (pm_y x) ∈ lw_tbl) :
    vx_CSW R s args (pm_own m) idx (pm_y x) (pm_cc x) (pm_nl x) (pm_ret x) (pm_hh x) (pm_wsx x) (pm_rm d (pm_n σ1 - pm_n σ) (pm_w σ1 - pm_w σ)) (pm_n σ1 - pm_n σ) (pm_w σ1 - pm_w σ) k := by
  have hnl := hm.2.2.2.2.2.2
  obtain ⟨r1, r2⟩ := hroom
  have hin : Cond.codeWith (pm_y x) (pm_cc x) (pm_nl x) (pm_ret x) (pm_hh x) ∈ pm_wsx x := by
    cases h9 : pm_hh x with
    | nil => exact absurd h9 hh
    | cons a b => unfold pm_wsx; rw [h9]; exact List.mem_cons_self
  refine ⟨⟨rfl, rfl, ?_, ?_, pm_wsx_warm hm hk, hin⟩, hk _ (hm.2.2.1 hh) rfl args, hk _ hm.2.2.2.1 rfl args, hm.2.2.2.2.2.1, pm_ar_len har, hk _ hlink rfl args, hk _ hst rfl args⟩
  · show d + 20 + 1 ≤ R.frames; omega
  · exact pm_ari hnl r2
theorem pm_preS {As : List Value} (hx : pm_ctx D DA B strs ncs m p s mid meth c) (hr : pm_rep D DA B s σ H) (hS : va_S (fun q => B ≤ q) s.heap H locs) : PreS s H (pm_Pc D DA B strs ncs As σ) As :=
  ⟨pm_Pc_blind, fun U hU hW => ⟨rfl, pm_amb.warm (H := s.heap) hW (fun a h1 h2 => by rw [hU]; exact hS.2.1 a h1 h2) hx.2.2.2.2.2.2.2.2, by rw [hU]; exact hr.moved hW.alike⟩⟩
theorem pm_preV {As : List Value} {a ci : Nat} {r : vw_C} (hx : pm_ctx D DA B strs ncs m p s mid meth c) (hr : pm_rep D DA B s σ H) (hS : va_S (fun q => B ≤ q) s.heap H locs) (ht : pm_t σ a = ci + 1) (hc : pm_cl[ci]? = some r) : PreV s H r.1 a (pm_Pc D DA B strs ncs (.ref a :: As) σ) As := by
  refine ⟨pm_Pc_blind, ?_, (pm_preS hx hr hS).2⟩
  obtain ⟨cell, q1, q2, q3, -⟩ := (hr.2.2.2.1 a).1 ci r ht hc
  exact ⟨cell, q1, by rw [q3]; rfl, by rw [q2]; exact (hx.2.2.2.2.2.2.2.2.1.1 ci r hc).2.1⟩
theorem pm_call_ret (IH : pm_Goal D DA B strs ncs l NM n) {r : Option Value} (hx : pm_ctx D DA B strs ncs m p s mid meth c) (hroom : pm_room (d + 1) R) (hls : ls.size = pm_nl m) (hr : pm_rep D DA B s σ H) (hS : va_S (fun q => B ≤ q) s.heap H locs) (hi : pm_isc i = true) (hd : decode (pm_cc m) pc = .ok (i, 3)) (hc : pm_cok NM (pm_own m) i x y c2)
    (hna : pm_na x ≤ S.length) (hcat : pm_cat (S.drop (pm_na x)) ≤ 8) (hfl : (pm_flat (S.take (pm_na x)).reverse).length ≤ pm_nl x) (hrc : pm_op (pm_rcv σ y (S.take (pm_na x)).reverse)) (he : pm_exec n d x 0 (pm_ent (S.take (pm_na x)).reverse (pm_nl x)) [] σ = some (.inl r, σ1)) (h0 : ∀ x, x < NM → ∃ en, (pm_cd' x)[0]? = some en ∧ en.1 = 0)
    (hcl : cells + (pm_n σ1 - pm_n σ) ≤ R.cells) (hsl : slots + (pm_w σ1 - pm_w σ) ≤ R.slots)
    (kk : ∀ (H1 : Heap) (locs1 : List Loc), pm_rep D DA B s σ1 H1 → va_S (fun q => B ≤ q) s.heap H1 locs1 → W p l e R s mid args below meth c H1 locs1 (cells + (pm_n σ1 - pm_n σ)) (slots + (pm_w σ1 - pm_w σ)) Q (F0 mid (pc + 3) ls (r.toList ++ S.drop (pm_na x)))) : W p l e R s mid args below meth c H locs cells slots Q (F0 mid pc ls S) := by
  have hx' := hx
  obtain ⟨hexec, hb, hml, hown, -, -, -, -, hamb⟩ := hx'
  have hk := hamb.2.2.1
  have hlen : ((S.take (pm_na x)).reverse).length = pm_na x := by simp [hna]
  have hroom8 : 2 * (F0 mid pc ls S).monitorRoom + ((S.drop (pm_na x)).map fun v => v.category).sum ≤ 8 := lv_room (by rw [pm_cat_sum]; exact hcat)
  have FX : CallFix p mid c (pm_cc m) (pm_nl m) s args [] (pm_own m) := ⟨hexec, hb, hml, hown, fun w h => absurd h List.not_mem_nil⟩
  unfold pm_isc at hi
  split at hi
  · -- static
    simp only [pm_cok] at hc
    obtain ⟨hxn, hm, hy, har, w1, hl⟩ := hc
    have hM := pm_met_ret (pm_met IH hxn hm he hfl (h0 x hxn))
    rcases hl with ⟨-, hh, host, hl⟩ | ⟨hl, hh⟩
    · exact pm_after (va_runSN FX hM ⟨pm_callN hm hh hk har hroom hl, hk _ w1 rfl args, trivial⟩ (pm_preS hx hr hS) rfl hlen hls pm_split hroom8 hd ⟨hcl, hsl⟩) hS kk
    · by_cases hh' : pm_hh x = []
      · exact pm_after (va_runS FX hM ⟨pm_callB hm hh' hk har hroom hl, hk _ w1 rfl args⟩ (pm_preS hx hr hS) rfl hlen hls pm_split hroom8 hd ⟨hcl, hsl⟩) hS kk
      · exact pm_after (vx_runSW FX hM (pm_callW hm hh' hk har hroom hl w1) (pm_preS hx hr hS) rfl hlen hls pm_split hroom8 hd ⟨hcl, hsl⟩) hS kk
  · -- virtual
    simp only [pm_cok] at hc
    obtain ⟨hxn, hm, hna1, har, hh, ⟨ci, rc, hy, hcc, hcn⟩, w1, w2, hl⟩ := hc
    subst hy
    obtain ⟨a, As', hAs, ht⟩ := pm_rcv_ref hrc
    rw [hAs] at he hfl hlen
    have hM := pm_met_ret (pm_met IH hxn hm he hfl (h0 x hxn))
    have hst : S = As'.reverse ++ .ref a :: S.drop (pm_na x) := by
      have h9 := pm_split (S := S) (k := pm_na x)
      rw [hAs] at h9
      exact h9.trans (by rw [List.reverse_cons, List.append_assoc]; rfl)
    have hn' : As'.length = pm_na x - 1 := by simp at hlen; omega
    have w2' : (Cond.selects rc.1 (pm_y x) (pm_y x)).before args s = true := by rw [← hcn]; exact hk _ w2 rfl args
    rcases hl with ⟨-, host, hl⟩ | hl
    · exact pm_after (va_runVN FX hM ⟨pm_callN hm hh hk har hroom hl, hk _ w1 rfl args, w2'⟩ (pm_preV hx hr hS ht hcc) rfl hn' hls hst hroom8 hd ⟨hcl, hsl⟩) hS kk
    · exact pm_after (va_runV FX hM ⟨pm_callB hm hh hk har hroom hl, hk _ w1 rfl args, w2'⟩ (pm_preV hx hr hS ht hcc) rfl hn' hls hst hroom8 hd ⟨hcl, hsl⟩) hS kk
  · -- special
    simp only [pm_cok] at hc
    obtain ⟨hxn, hm, hna1, har, hh, -, ⟨ci, rc, hy, hcc, hcn⟩, hret, hnm, w1, hl⟩ := hc
    subst hy
    obtain ⟨a, As', hAs, ht⟩ := pm_rcv_ref hrc
    rw [hAs] at he hfl hlen
    have hM := pm_met_ret (pm_met IH hxn hm he hfl (h0 x hxn))
    have hst : S = As'.reverse ++ .ref a :: S.drop (pm_na x) := by
      have h9 := pm_split (S := S) (k := pm_na x)
      rw [hAs] at h9
      exact h9.trans (by rw [List.reverse_cons, List.append_assoc]; rfl)
    have hn' : As'.length = pm_na x - 1 := by simp at hlen; omega
    rcases hl with ⟨host, hl⟩ | hl
    · have hB := pm_callN (σ := σ) (σ1 := σ1) (args := args) hm hh hk har hroom hl
      rw [hret] at hB
      exact pm_after (va_runIN FX hM ⟨hB, hnm, hk _ w1 rfl args⟩ (pm_preS hx hr hS) rfl hn' hls hst hroom8 hd ⟨hcl, hsl⟩) hS kk
    · have hB := pm_callB (σ := σ) (σ1 := σ1) (args := args) hm hh hk har hroom hl
      rw [hret] at hB
      exact pm_after (va_runI FX hM ⟨hB, hnm, hk _ w1 rfl args⟩ (pm_preS hx hr hS) rfl hn' hls hst hroom8 hd ⟨hcl, hsl⟩) hS kk
  · cases hi
theorem pm_call_thr (IH : pm_Goal D DA B strs ncs l NM n) {E0 : Nat} (hx : pm_ctx D DA B strs ncs m p s mid meth c) (hroom : pm_room (d + 1) R) (hls : ls.size = pm_nl m) (hr : pm_rep D DA B s σ H) (hS : va_S (fun q => B ≤ q) s.heap H locs) (hi : pm_isc i = true) (hd : decode (pm_cc m) pc = .ok (i, 3)) (hc : pm_cok NM (pm_own m) i x y false)
    (hna : pm_na x ≤ S.length) (hcat : pm_cat (S.drop (pm_na x)) ≤ 8) (hfl : (pm_flat (S.take (pm_na x)).reverse).length ≤ pm_nl x) (hrc : pm_op (pm_rcv σ y (S.take (pm_na x)).reverse)) (he : pm_exec n d x 0 (pm_ent (S.take (pm_na x)).reverse (pm_nl x)) [] σ = some (.inr E0, σ1)) (h0 : ∀ x, x < NM → ∃ en, (pm_cd' x)[0]? = some en ∧ en.1 = 0)
    (hcl : cells + (pm_n σ1 - pm_n σ) ≤ R.cells) (hsl : slots + (pm_w σ1 - pm_w σ) ≤ R.slots)
    (kx : ∀ (ce : Cell) (q9 : Addr) (H1 : Heap) (locs1 : List Loc), pm_rep D DA B s σ1 H1 → va_S (fun q => B ≤ q) s.heap H1 locs1 → H1[q9]? = some ce → ce.vm = .none → s.vm.findClass (pm_ex E0) = some ce.cls → vx_W p l e R s mid args below meth c H1 locs1 (cells + (pm_n σ1 - pm_n σ)) (slots + (pm_w σ1 - pm_w σ)) Q (F0 mid pc ls (S.drop (pm_na x))) q9) : W p l e R s mid args below meth c H locs cells slots Q (F0 mid pc ls S) := by
  have hx' := hx
  obtain ⟨hexec, hb, hml, hown, -, -, -, -, hamb⟩ := hx'
  have hk := hamb.2.2.1
  have hlen : ((S.take (pm_na x)).reverse).length = pm_na x := by simp [hna]
  have hroom8 : 2 * (F0 mid pc ls S).monitorRoom + ((S.drop (pm_na x)).map fun v => v.category).sum ≤ 8 := lv_room (by rw [pm_cat_sum]; exact hcat)
  have FX : CallFix p mid c (pm_cc m) (pm_nl m) s args [] (pm_own m) := ⟨hexec, hb, hml, hown, fun w h => absurd h List.not_mem_nil⟩
  unfold pm_isc at hi
  split at hi
  · simp only [pm_cok] at hc
    obtain ⟨hxn, hm, hy, har, w1, hl⟩ := hc
    have hM := pm_met IH hxn hm he hfl (h0 x hxn)
    rcases hl with ⟨h, -⟩ | ⟨hl, hh⟩
    · cases h
    · have hh' : pm_hh x = [] := hh.elim id (fun h => by cases h)
      exact pm_afterX (vx_runS FX hM ⟨pm_callB hm hh' hk har hroom hl, hk _ w1 rfl args⟩ (pm_preS hx hr hS) rfl hlen hls pm_split hroom8 hd ⟨hcl, hsl⟩) hS kx
  · simp only [pm_cok] at hc
    obtain ⟨hxn, hm, hna1, har, hh, ⟨ci, rc, hy, hcc, hcn⟩, w1, w2, hl⟩ := hc
    subst hy
    obtain ⟨a, As', hAs, ht⟩ := pm_rcv_ref hrc
    rw [hAs] at he hfl hlen
    have hM := pm_met IH hxn hm he hfl (h0 x hxn)
    have hst : S = As'.reverse ++ .ref a :: S.drop (pm_na x) := by
      have h9 := pm_split (S := S) (k := pm_na x)
      rw [hAs] at h9
      exact h9.trans (by rw [List.reverse_cons, List.append_assoc]; rfl)
    have hn' : As'.length = pm_na x - 1 := by simp at hlen; omega
    have w2' : (Cond.selects rc.1 (pm_y x) (pm_y x)).before args s = true := by rw [← hcn]; exact hk _ w2 rfl args
    rcases hl with ⟨h, -⟩ | hl
    · cases h
    · exact pm_afterX (vx_runV FX hM ⟨pm_callB hm hh hk har hroom hl, hk _ w1 rfl args, w2'⟩ (pm_preV hx hr hS ht hcc) rfl hn' hls hst hroom8 hd ⟨hcl, hsl⟩) hS kx
  · simp only [pm_cok] at hc
    obtain ⟨_, _, _, _, _, h, _⟩ := hc
    cases h
  · cases hi
end CALLS
end SNM
