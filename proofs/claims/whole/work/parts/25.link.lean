/-! ===== the claim out of a run of the pure machine over the law ===== -/
def R_law : String := "TransducerBenchLaw"
def lw_P (b : Addr) (xs : List Int32) (args : Array Value) (s : State) : Prop := args = #[.ref b] ∧ s.IntsAt b xs ∧ xs.length ≤ 3072 ∧ (Jvm.Cond.and given_1 narrow_1).before args s = true
theorem lw_closed {s t : State} {o : Outcome} {d0 : Drawn} {L : List Loc} {k n : Nat} (hd0 : s.drawn.sameBut d0 lw_cs) (hv : ∃ v, o = .returned v) (hW : (s.setDrawn d0).WarmedH t.vm) (hs : (s.setDrawn d0).sameButNew ({ t with vm := s.vm } : State) L k n) : State.butDraws s t lw_cs (fun t1 => Framed s o t1 L k n) := by
  have h2 : t.drawn = d0 := congrArg State.drawn hs.1
  refine ⟨⟨hv, hW, State.sameButNew.setDrawn hs s.drawn⟩, ?_, by decide⟩
  rw [h2]
  exact hd0
def lw_Q (_ : Array Value) (s : State) (o : Outcome) (t : State) : Prop := o = .returned (some (.int 1)) ∧ State.butDraws s t lw_cs (fun t1 => Framed s o t1 [] 601024 7293034)
def lw_Z (below : List Frame) (a : Array Value) (s : State) : State → Prop := fun t => ∃ o, t.status = .running ∧ Ended t below o ∧ lw_Q a s o t
theorem lw_ret {p : Program} {l : Launch} {e : Env} {s : State} {m : MethodId} {below : List Frame} {meth : Method} {c : Code} {b : Nat} {d0 : Drawn} (hd0 : s.drawn.sameBut d0 lw_cs) (hx : p.tables.exec = Jvm.exec) (hb : c.code = code) (hr : meth.sig.returnType = ret) (hlocks : meth.locks = false) {pc : Nat} {H : Heap} {ls : Array Slot} (hdg : decode code pc = .ok (.ireturn, 1)) : W p l e room_1 (s.setDrawn d0) m #[Value.ref b] below meth c H [] 601024 7293034 (lw_Z below #[Value.ref b] s) (F0 m pc ls [.int 1]) := by
  intro T hT X
  obtain ⟨fs, hret, hrun, hended, hW, hframe⟩ := X.leave (v := some (.int 1)) (hlocks := hlocks) (fun h => by rw [hr] at h; cases h)
  have hmeth' : T.vm.method? m = some meth := X.method'
  refine ⟨T.setFrames fs, ?_, .returned (some (.int 1)), hrun, hended, rfl, lw_closed hd0 ⟨_, rfl⟩ hW hframe⟩
  jvm_step X.here [X.here.top, hx, hb, hdg, hmeth', hr, ret, narrow_b1]
  (try refine ⟨rfl, ?_⟩); (try refine ⟨rfl, ?_⟩)
  first | (intro acts; rw [hret _ acts rfl rfl rfl]) | rw [hret _ _ rfl rfl rfl]
  exact Steps.refl _
def lw_At (p : Program) (s : State) (m : MethodId) (meth : Method) (c : Code) (b L : Nat) (xs : Nat → Int32) : Prop :=
  p.tables.exec = Jvm.exec ∧ c.code = code ∧ meth.sig.returnType = ret ∧ c.maxLocals = 9 ∧ s.vm.findClass R_law = some m.cls ∧ (∀ w ∈ lw_tbl, w.before #[Value.ref b] s = true) ∧ va_X b L xs s s.heap ∧ b < s.heap.size ∧ meth.locks = false ∧ (Jvm.Cond.and given_1 narrow_1).before #[Value.ref b] s = true ∧ c.exceptionTable.toList = []
/-- what is wanted of the law's run on the pure machine -/
def pm_law : Prop := ∀ (N b L : Nat) (xs : Nat → Int32), b < N → L ≤ 3072 → pm_C 40 282 [.ref b] (pm_s0 N b L xs) (fun o σ' => o = .inl (some (.int 1)) ∧ pm_n σ' ≤ N + 601024 ∧ pm_w σ' ≤ 7293034)
theorem lw_start {p : Program} {e : Env} {s : State} {m : MethodId} {below : List Frame} {meth : Method} {c : Code} (hlaw : pm_law) (l : Launch) (hflags : l.flags = flags0) {b L : Nat} {xs : Nat → Int32} (hL : L ≤ 3072) (C0 : lw_At p s m meth c b L xs) : W p l e room_1 s m #[Value.ref b] below meth c s.heap [] 0 0 (lw_Z below #[Value.ref b] s) (entryFrame m ([Value.ref b] : List Value).toArray 9) := by
  obtain ⟨hx, hb, hr, hml, hown, hts, hX, hbl, hlocks, hgv, htab⟩ := C0
  obtain ⟨D, DA, hamb, hrep⟩ := pm_start hts hX hbl hgv
  obtain ⟨n, o, σ', hex, ho, hn, hw⟩ := hlaw s.heap.size b L xs hbl hL
  have hl : l.stackTraces = false := by
    first | (unfold Launch.stackTraces; rw [hflags]; decide +kernel) | (simp only [Launch.stackTraces, hflags]; decide +kernel)
  have hnl : pm_nl 282 = 9 := rfl
  have hctx : pm_ctx D DA s.heap.size pm_st9 pm_nc9 282 p s m meth c := ⟨hx, hb, hml, hown, hlocks, hr, fun h => absurd h (by decide +kernel), htab, hamb⟩
  have hle := pm_exec_n _ _ _ _ _ _ _ _ _ hex
  have e1 : pm_n (pm_s0 s.heap.size b L xs) = s.heap.size := rfl
  have e2 : pm_w (pm_s0 s.heap.size b L xs) = 0 := rfl
  have r1 : room_1.cells = 601024 := rfl
  have r2 : room_1.slots = 7293034 := rfl
  rw [lg_entry_eq]
  refine pm_sound (D := D) (DA := DA) (B := s.heap.size) hl pm_all_ok pm_h0 n 40 282 0 (pm_ent [.ref b] 9) [] _ o σ' hex (by decide) p e room_1 s m _ below meth c s.heap [] 0 0 (pm_n σ' - s.heap.size) (pm_w σ') _ _ 0 hctx ⟨Nat.le_of_ble_eq_true rfl, Nat.le_of_ble_eq_true rfl⟩ (pm_lr_ent [.ref b] (Nat.le_of_ble_eq_true rfl)) hrep va_S.rf (by rw [e1]; omega) (by rw [e2]; omega) (by rw [r1]; omega) (by rw [r2]; exact hw) ⟨fun r hr9 H1 locs1 pc1 ls1 S1 i1 x1 q1 hrop hq hd hre hrep1 hS1 => ?_, fun x hx9 => ?_⟩ (pm_h0 282 (by decide))
  · rw [ho] at hr9
    cases hr9
    have hS : i1 = .ireturn ∧ S1 = [.int 1] := by
      unfold pm_rop at hrop
      split at hrop <;> cases hrop <;> exact ⟨rfl, rfl⟩
    obtain ⟨rfl, rfl⟩ := hS
    refine va_forget hS1.2.2 ?_
    refine W.widen (k := 601024) (n := 7293034) (by omega) hw ?_
    exact lw_ret (d0 := s.drawn) (Drawn.sameBut.refl s.drawn lw_cs) hx hb hr hlocks hd
  · rw [ho] at hx9
    cases hx9
