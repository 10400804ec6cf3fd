/-! ===== instructions that read cells, on the machine ===== -/
def pm_fok (own : String) (idx x y : Nat) : Prop := ∃ (ci k : Nat) (C : String) (T : u_T) (N : Nat), x = ci + 1 ∧ y = 100 * ci + k ∧ pm_cl[ci]? = some (C, T, N) ∧ k < N ∧ (Cond.fieldLink own idx (T k).1 (T k).2.1 (T k).2.2.1 ∈ lw_tbl ∨ ∃ host, Cond.fieldLinkNest own idx (T k).1 (T k).2.1 (T k).2.2.1 host ∈ lw_tbl)
/-- what a class's table says -/
def pm_clok (ci : Nat) (r : vw_C) : Prop := (∀ w ∈ u_ws r.1 r.2.1 r.2.2, w ∈ lw_tbl) ∧ (∀ k, k < r.2.2 → parseFieldDescriptor (r.2.1 k).2.2.1 = some (pm_fty ci k)) ∧ (∀ a, a < r.2.2 → ∀ b, b < r.2.2 → a ≠ b → (r.2.1 a).2.1 ≠ (r.2.1 b).2.1) ∧ (∀ k, k < r.2.2 → (r.2.1 k).1 = r.1) ∧ r.2.2 ≤ 100
theorem pm_clok_all : ∀ (ci : Nat) (r : vw_C), pm_cl[ci]? = some r → pm_clok ci r := by
  intro ci r h
  match ci, h with
  | 0, h => cases h; exact ⟨pu_X0, tyX0_ok, nmX0, by decide +kernel, by decide⟩
  | 1, h => cases h; exact ⟨pu_X1, tyX1_ok, nmX1, by decide +kernel, by decide⟩
  | 2, h => cases h; exact ⟨pu_X2, tyX2_ok, nmX2, by decide +kernel, by decide⟩
  | 3, h => cases h; exact ⟨pu_X3, tyX3_ok, nmX3, by decide +kernel, by decide⟩
  | 4, h => cases h; exact ⟨pu_X4, tyX4_ok, nmX4, by decide +kernel, by decide⟩
  | 5, h => cases h; exact ⟨pu_X5, tyX5_ok, nmX5, by decide +kernel, by decide⟩
  | 6, h => cases h; exact ⟨pu_X6, tyX6_ok, nmX6, by decide +kernel, by decide⟩
  | 7, h => cases h; exact ⟨pu_X7, tyX7_ok, nmX7, by decide +kernel, by decide⟩
  | 8, h => cases h; exact ⟨pu_X8, tyX8_ok, nmX8, by decide +kernel, by decide⟩
  | 9, h => cases h; exact ⟨pu_X9, tyX9_ok, nmX9, by decide +kernel, by decide⟩
  | 10, h => cases h; exact ⟨pu_X10, tyX10_ok, nmX10, by decide +kernel, by decide⟩
  | 11, h => cases h; exact ⟨pu_X11, tyX11_ok, nmX11, by decide +kernel, by decide⟩
  | 12, h => cases h; exact ⟨pu_X12, tyX12_ok, nmX12, by decide +kernel, by decide⟩
  | n + 13, h => cases h
theorem pm_good_lay {C : String} {T : u_T} {N : Nat} : ∀ w ∈ u_ws C T N, pm_kw w = true := by
  intro w hw
  obtain ⟨k, -, rfl⟩ := List.mem_map.mp hw
  unfold u_lay
  split <;> rfl
theorem pm_hts {s : State} {args : Array Value} {ci : Nat} {r : vw_C} (hk : pm_known s) (hc : pm_cl[ci]? = some r) : ∀ w ∈ u_ws r.1 r.2.1 r.2.2, w.before args s = true := fun w hw => hk w ((pm_clok_all ci r hc).1 w hw) (pm_good_lay w hw) args
/-- the kind that a row of the table gives for what is read -/
def pm_mk (ty : FieldType) (v : Value) : Bool := match ty, v with
  | .int, .int _ => true
  | .boolean, .int _ => true
  | .byte, .int _ => true
  | .char, .int _ => true
  | .short, .int _ => true
  | .long, .long _ => true
  | .object _, .null => true
  | .array _, .null => true
  | _, _ => false
def pm_rok (own : String) (i : Instr) (v : Value) (x y : Nat) : Prop := match i with
  | .getfield idx => pm_fok own idx x y ∧ pm_mk (pm_fty (x - 1) (y - 100 * (x - 1))) v = true
  | .iaload => x = 100 ∨ x = 200
  | .baload => x = 102 ∨ x = 103
  | .caload => x = 104
  | .laload => x = 101
  | .daload => x = 105
  | .aaload => x ∈ pm_tags ∧ 120 ≤ x
  | .arraylength => x ∈ pm_tags ∨ x = 200
  | _ => True
theorem pm_isr {v : Value} (h : isr v = true) : pm_rvv v = .ref (rv v) := by cases v <;> first | rfl | cases h
section RD
variable {p : Program} {l : Launch} {e : Env} {R : Room} {s : State} {m : MethodId} {args : Array Value} {below : List Frame} {meth : Method} {c : Code} {H : Heap} {locs : List Loc} {cells slots : Nat} {Q : State → Prop}
variable {D : va_G} {DA : Nat → ClassId} {B : Nat} {strs : List (String × Nat × String)} {ncs : List (String × String)} {σ : pm_H} {H0 : Heap}
variable {cc : ByteArray} {pc : Nat} {ls : Array Slot} {own : String}
theorem pm_get (hexec : p.tables.exec = Jvm.exec) (hb : c.code = cc) (hown : s.vm.findClass own = some m.cls) (ha : pm_amb D DA B strs ncs s H0) (hr : pm_rep D DA B s σ H) {idx x y a : Nat} {S : List Value} (hd : decode cc pc = .ok (.getfield idx, 3)) (hf : pm_fok own idx x y) (ht : pm_t σ a = x)
    (kk : W p l e R s m args below meth c H locs cells slots Q (F0 m (pc + 3) ls (pm_fv (pm_fty (x - 1) (y - 100 * (x - 1))) (pm_F σ y a) :: S))) : W p l e R s m args below meth c H locs cells slots Q (F0 m pc ls (.ref a :: S)) := by
  obtain ⟨ci, k, C, T, N, hx, hy, hc, hk, hl⟩ := hf
  obtain ⟨cell, q1, q2, q3, q4⟩ := (hr.2.2.2.1 a).1 ci _ (ht.trans hx) hc
  obtain ⟨hS, hfc, kC, hkC, hkind⟩ := ha.1.1 ci _ hc
  obtain ⟨cf, kf, fi, f, hi, hsl⟩ := hS k hk
  have hts := pm_hts (args := args) ha.2.2.1 hc
  have e1 : x - 1 = ci := by omega
  have e2 : y - 100 * (x - 1) = k := by rw [e1]; omega
  rw [e2, e1, hy] at kk
  have hst := (u_facts hfc hkC (u_lays hts (fun _ h => h) hk) hi).1
  have hv : cell.slots[f.slot]? = some (pm_fv (pm_fty ci k) (pm_F σ (100 * ci + k) a)) := by rw [hsl]; exact q4 k hk
  rcases hl with hl | ⟨host, hl⟩
  · exact W.getf hexec hb hown (ha.2.2.1 _ hl rfl args) hi hst q1 (by rw [q3]; exact fun h => by cases h) hv rfl rfl hd kk
  · exact va_Wgetf hexec hb hown (ha.2.2.1 _ hl rfl args) hi hst q1 (by rw [q3]; exact fun h => by cases h) hv rfl rfl hd kk
theorem pm_arr (ha : pm_amb D DA B strs ncs s H0) (hr : pm_rep D DA B s σ H) {a x : Nat} (ht : pm_t σ a = x) (hx : x ∈ pm_tags) {j : Int32} (hin : vp_in j (pm_l σ a)) :
    H[a]? = some (arrV (DA x) (pm_l σ a) (fun j => pm_av x (pm_A σ a j))) ∧ s.isArrayOf (arrV (DA x) (pm_l σ a) (fun j => pm_av x (pm_A σ a j))) (pm_aty x) ∧ ¬ (j < 0 ∨ (arrV (DA x) (pm_l σ a) (fun j => pm_av x (pm_A σ a j))).slots.size ≤ j.toNatClampNeg) ∧
    (arrV (DA x) (pm_l σ a) (fun j => pm_av x (pm_A σ a j))).slots[j.toNatClampNeg]? = some (pm_av x (pm_A σ a j.toNatClampNeg)) ∧ (arrV (DA x) (pm_l σ a) (fun j => pm_av x (pm_A σ a j))).vm ≠ .unknown := by
  subst ht
  have hlt : j.toNatClampNeg < pm_l σ a := Nat.not_le.mp fun q => hin (Or.inr q)
  exact ⟨(hr.2.2.2.1 a).2 hx, (ha.2.1 _ hx).1 _ _, by rw [arrV_size]; exact hin, arrV_read _ _ hlt, fun q => by cases q⟩
theorem pm_rd_ok {i : Instr} {v w : Value} {x y : Nat} {S S' : List Value} {q : Option Prop} (hexec : p.tables.exec = Jvm.exec) (hb : c.code = cc) (hown : s.vm.findClass own = some m.cls) (ha : pm_amb D DA B strs ncs s H0) (hr : pm_rep D DA B s σ H) (hd : decode cc pc = .ok (i, pm_len i)) (hk : pm_rok own i v x y) (h : pm_rd i v x y S σ = some (q, w, S')) (hq : pm_op q)
    (kk : W p l e R s m args below meth c H locs cells slots Q (F0 m (pc + pm_len i) ls (w :: S'))) : W p l e R s m args below meth c H locs cells slots Q (F0 m pc ls S) := by
  unfold pm_rd at h
  split at h <;> cases h <;> simp only [pm_op] at hq <;> simp only [pm_rok] at hk
  · obtain ⟨hf, hm⟩ := hk
    refine pm_get hexec hb hown ha hr hd hf hq ?_
    generalize pm_fty (x - 1) (y - 100 * (x - 1)) = ty at hm ⊢
    cases ty <;> first | exact kk | cases hm
  · obtain ⟨hf, hm⟩ := hk
    refine pm_get hexec hb hown ha hr hd hf hq ?_
    generalize pm_fty (x - 1) (y - 100 * (x - 1)) = ty at hm ⊢
    cases ty <;> first | exact kk | cases hm
  · obtain ⟨hf, hm⟩ := hk
    refine pm_get hexec hb hown ha hr hd hf hq.1 ?_
    generalize pm_fty (x - 1) (y - 100 * (x - 1)) = ty at hm ⊢
    have e := pm_isr hq.2
    cases ty <;> simp only [pm_fv, e] <;> first | exact kk | cases hm
  · rcases hk with rfl | rfl
    · obtain ⟨e1, e2, e3, e4, e5⟩ := pm_arr ha hr hq.1 (by decide) hq.2
      exact W.iald hexec hb e1 e2 e5 e3 e4 rfl rfl hd kk
    · obtain ⟨-, scr, e1, e2, e3, e4, e5⟩ := hr.2.2.2.2 _ hq.1
      exact W.iald hexec hb e1 e2 e3 (by rw [e4]; exact hq.2) (e5 _ (Nat.not_le.mp fun q => hq.2 (Or.inr q))) rfl rfl hd kk
  · rcases hk with rfl | rfl
    · obtain ⟨e1, e2, e3, e4, e5⟩ := pm_arr ha hr hq.1 (by decide) hq.2
      exact W.zald hexec hb e1 e2 e5 e3 e4 rfl rfl hd kk
    · obtain ⟨e1, e2, e3, e4, e5⟩ := pm_arr ha hr hq.1 (by decide) hq.2
      exact W.bald hexec hb e1 e2 e5 e3 e4 rfl rfl hd kk
  · subst hk
    obtain ⟨e1, e2, e3, e4, e5⟩ := pm_arr ha hr hq.1 (by decide) hq.2
    exact W.cald hexec hb e1 e2 e5 e3 e4 rfl rfl hd kk
  · subst hk
    obtain ⟨e1, e2, e3, e4, e5⟩ := pm_arr ha hr hq.1 (by decide) hq.2
    exact W.lald hexec hb e1 e2 e5 e3 e4 rfl rfl hd kk
  · subst hk
    obtain ⟨e1, e2, e3, e4, e5⟩ := pm_arr ha hr hq.1 (by decide) hq.2
    exact W.dald hexec hb e1 e2 e5 e3 e4 rfl rfl hd kk
  · obtain ⟨hk, h120⟩ := hk
    obtain ⟨h1, h2, h3⟩ := hq
    obtain ⟨e1, e2, e3, e4, e5⟩ := pm_arr ha hr h1 hk h2
    have ety : pm_aty x = .object (pm_cn (x - 120)) := by
      unfold pm_aty
      rw [if_neg (by omega), if_neg (by omega), if_neg (by omega), if_neg (by omega), if_neg (by omega), if_neg (by omega)]
    rw [ety] at e2
    have ev : ∀ z, pm_av x z = pm_rvv z := fun z => by
      unfold pm_av
      rw [if_neg (by omega), if_neg (by omega), if_pos h120]
    rw [ev, pm_isr h3] at e4
    exact W.aald hexec hb e1 e2 rfl e5 e3 e4 rfl rfl hd kk
  · rcases hk with hk | rfl
    · have e0 := fun (a : Nat) (hq : pm_t σ a = x) => (hr.2.2.2.1 a).2 (by rw [hq]; exact hk)
      have e1 := e0 _ hq
      rw [hq] at e1
      exact W.alen (ty := pm_aty x) hexec hb e1 ((ha.2.1 _ hk).1 _ _) (by rw [arrV_size] <;> rfl) rfl rfl hd kk
    · obtain ⟨-, scr, e1, e2, e3, e4, e5⟩ := hr.2.2.2.2 _ hq
      exact W.alen hexec hb e1 e2 (by rw [e4] <;> rfl) rfl rfl hd kk
end RD
