/-! ===== the pure machine is sound: a run of it is a run of the bytecode ===== -/
theorem pm_step_le {rec : Nat → Nat → Nat → List Value → List Value → pm_H → Option (pm_O × pm_H)} (hr : ∀ d m k L S σ o σ', rec d m k L S σ = some (o, σ') → pm_n σ ≤ pm_n σ' ∧ pm_w σ ≤ pm_w σ') {d m k : Nat} {L S : List Value} {σ σ' : pm_H} {o : pm_O} (h : pm_step rec d m k L S σ = some (o, σ')) : pm_n σ ≤ pm_n σ' ∧ pm_w σ ≤ pm_w σ' := by
  unfold pm_step at h
  cases hk : (pm_prog m).2.2[k]? with
  | none => rw [hk] at h; cases h
  | some e =>
    obtain ⟨pc, i, len, v, x, y, nx, f1, f2, c1, c2, hs⟩ := e
    rw [hk] at h
    dsimp only at h
    cases h1 : pm_sop i v L S with
    | some q => obtain ⟨L', S'⟩ := q; rw [h1] at h; exact hr _ _ _ _ _ _ _ _ h
    | none =>
    rw [h1] at h
    dsimp only at h
    cases h2 : pm_rd i v x y S σ with
    | some q =>
      obtain ⟨p, w, S'⟩ := q
      rw [h2] at h
      dsimp only at h
      by_cases hp : pm_op p
      · rw [pm_if_t hp] at h; exact hr _ _ _ _ _ _ _ _ h
      · rw [pm_if_f hp] at h; cases h
    | none =>
    rw [h2] at h
    dsimp only at h
    cases h2a : pm_wr i v x y S σ with
    | some q =>
      obtain ⟨p, S', σ1⟩ := q
      rw [h2a] at h
      dsimp only at h
      by_cases hp : pm_op p
      · rw [pm_if_t hp] at h
        have a1 := pm_wr_le h2a
        have a2 := hr _ _ _ _ _ _ _ _ h
        exact ⟨Nat.le_trans a1.1 a2.1, Nat.le_trans a1.2 a2.2⟩
      · rw [pm_if_f hp] at h; cases h
    | none =>
    rw [h2a] at h
    dsimp only at h
    cases h2b : pm_cd i S with
    | some q =>
      obtain ⟨p, S'⟩ := q
      rw [h2b] at h
      dsimp only at h
      by_cases hp : pm_op p
      · rw [pm_if_t hp] at h; exact hr _ _ _ _ _ _ _ _ h
      · rw [pm_if_f hp] at h; cases h
    | none =>
    rw [h2b] at h
    dsimp only at h
    cases h3 : pm_bop i S with
    | some q =>
      obtain ⟨p, sw, S'⟩ := q
      rw [h3] at h
      dsimp only at h
      by_cases hp : p
      · rw [pm_if_t hp] at h
        cases sw <;> exact hr _ _ _ _ _ _ _ _ h
      · rw [pm_if_f hp] at h
        cases sw <;> exact hr _ _ _ _ _ _ _ _ h
    | none =>
    rw [h3] at h
    dsimp only at h
    cases h4 : pm_rop i x S with
    | some q =>
      obtain ⟨p, o'⟩ := q
      rw [h4] at h
      dsimp only at h
      by_cases hp : pm_op p
      · rw [pm_if_t hp] at h; cases h; exact ⟨Nat.le_refl _, Nat.le_refl _⟩
      · rw [pm_if_f hp] at h; cases h
    | none =>
    rw [h4] at h
    dsimp only at h
    split at h
    · exact hr _ _ _ _ _ _ _ _ h
    · cases h; exact ⟨Nat.le_succ _, Nat.le_add_right _ _⟩
    · exact hr _ _ _ _ _ _ _ _ h
    · cases hc : pm_isc i with
      | false => rw [hc] at h; cases h
      | true =>
        rw [hc] at h
        simp only [if_true] at h
        cases d with
        | zero => cases h
        | succ d' =>
          dsimp only at h
          by_cases hp : (pm_prog x).1 ≤ S.length ∧ pm_cat (S.drop (pm_prog x).1) ≤ 8 ∧ (pm_flat (S.take (pm_prog x).1).reverse).length ≤ (pm_prog x).2.1 ∧ pm_op (pm_rcv σ y (S.take (pm_prog x).1).reverse)
          · rw [pm_if_t hp] at h
            cases hcall : rec d' x 0 (pm_ent (S.take (pm_prog x).1).reverse (pm_prog x).2.1) [] σ with
            | none => rw [hcall] at h; cases h
            | some q =>
              obtain ⟨o1, σ1⟩ := q
              have a1 := hr _ _ _ _ _ _ _ _ hcall
              rw [hcall] at h
              cases o1 with
              | inl r =>
                dsimp only at h
                cases hpu : pm_push v r (S.drop (pm_prog x).1) with
                | none => rw [hpu] at h; cases h
                | some S2 =>
                  rw [hpu] at h
                  have a2 := hr _ _ _ _ _ _ _ _ h
                  exact ⟨Nat.le_trans a1.1 a2.1, Nat.le_trans a1.2 a2.2⟩
              | inr E =>
                dsimp only at h
                cases c2 with
                | true => cases h
                | false =>
                  simp only [Bool.false_eq_true, if_false] at h
                  cases hlk : hs.lookup E with
                  | none =>
                    rw [hlk] at h
                    dsimp only at h
                    split at h
                    · cases h; exact a1
                    · cases h
                  | some hh =>
                    rw [hlk] at h
                    have a2 := hr _ _ _ _ _ _ _ _ h
                    exact ⟨Nat.le_trans a1.1 a2.1, Nat.le_trans a1.2 a2.2⟩
          · rw [pm_if_f hp] at h; cases h
theorem pm_exec_n : ∀ (n d m k : Nat) (L S : List Value) (σ : pm_H) (o : pm_O) (σ' : pm_H), pm_exec n d m k L S σ = some (o, σ') → pm_n σ ≤ pm_n σ' ∧ pm_w σ ≤ pm_w σ' := by
  intro n
  induction n with
  | zero => intro d m k L S σ o σ' h; cases h
  | succ n ih => intro d m k L S σ o σ' h; exact pm_step_le ih h
/-- room for d calls inside one another -/
def pm_room (d : Nat) (R : Room) : Prop := d + 20 ≤ R.frames ∧ 100 * d + 300 ≤ R.locals
def pm_ctx (D : va_G) (DA : Nat → ClassId) (B : Nat) (strs : List (String × Nat × String)) (ncs : List (String × String)) (m : Nat) (p : Program) (s : State) (mid : MethodId) (meth : Method) (c : Code) : Prop :=
  p.tables.exec = Jvm.exec ∧ c.code = pm_cc m ∧ c.maxLocals = pm_nl m ∧ s.vm.findClass (pm_own m) = some mid.cls ∧ meth.locks = false ∧ meth.sig.returnType = pm_ret m ∧ ((pm_y m).name = "<init>" → meth.name = "<init>") ∧ c.exceptionTable.toList = tableOf (pm_hh m) ∧ pm_amb D DA B strs ncs s s.heap
def pm_Qc (D : va_G) (DA : Nat → ClassId) (B : Nat) (o : pm_O) (σ' : pm_H) : Array Value → State → Outcome → State → Prop := fun _ st oc t => (∃ r, o = .inl r ∧ oc = .returned r) ∧ pm_rep D DA B t σ' t.heap ∧ va_F (fun q => B ≤ q) st t
def pm_Xc (D : va_G) (DA : Nat → ClassId) (B : Nat) (o : pm_O) (σ' : pm_H) : String → State → State → Prop := fun E st t => (∃ x, o = .inr x ∧ E = pm_ex x) ∧ pm_rep D DA B t σ' t.heap ∧ va_F (fun q => B ≤ q) st t
def pm_Pc (D : va_G) (DA : Nat → ClassId) (B : Nat) (strs : List (String × Nat × String)) (ncs : List (String × String)) (As : List Value) (σ : pm_H) : Array Value → State → Prop := fun v U => v = As.toArray ∧ pm_amb D DA B strs ncs U U.heap ∧ pm_rep D DA B U σ U.heap
/-- what the end of the run must be good for -/
def pm_fin (D : va_G) (DA : Nat → ClassId) (B : Nat) (l : Launch) (o : pm_O) (σ' : pm_H) (p : Program) (e : Env) (R : Room) (s : State) (mid : MethodId) (args : Array Value) (below : List Frame) (meth : Method) (c : Code) (m Mc Ms : Nat) (Q : State → Prop) : Prop :=
  (∀ r, o = .inl r → ∀ (H1 : Heap) (locs1 : List Loc) (pc1 : Nat) (ls1 : Array Slot) (S1 : List Value) (i1 : Instr) (x1 : Nat) (q1 : Option Prop), pm_rop i1 x1 S1 = some (q1, .inl r) → pm_op q1 → decode (pm_cc m) pc1 = .ok (i1, 1) → pm_reo (pm_ret m) i1 x1 → pm_rep D DA B s σ' H1 → va_S (fun q => B ≤ q) s.heap H1 locs1 → W p l e R s mid args below meth c H1 locs1 Mc Ms Q (F0 mid pc1 ls1 S1)) ∧
  (∀ x, o = .inr x → Q = vx_MQ below (pm_Qc D DA B o σ') (pm_Xc D DA B o σ') args s Mc Ms (fun q => B ≤ q))
def pm_Goal (D : va_G) (DA : Nat → ClassId) (B : Nat) (strs : List (String × Nat × String)) (ncs : List (String × String)) (l : Launch) (NM n : Nat) : Prop :=
  ∀ (d m k : Nat) (L S : List Value) (σ : pm_H) (o : pm_O) (σ' : pm_H), pm_exec n d m k L S σ = some (o, σ') → m < NM →
  ∀ (p : Program) (e : Env) (R : Room) (s : State) (mid : MethodId) (args : Array Value) (below : List Frame) (meth : Method) (c : Code) (H : Heap) (locs : List Loc) (cells slots Mc Ms : Nat) (ls : Array Slot) (Q : State → Prop) (pc : Nat),
    pm_ctx D DA B strs ncs m p s mid meth c → pm_room d R → pm_lr ls (pm_nl m) L → pm_rep D DA B s σ H → va_S (fun q => B ≤ q) s.heap H locs →
    Mc = cells + (pm_n σ' - pm_n σ) → Ms = slots + (pm_w σ' - pm_w σ) → Mc ≤ R.cells → Ms ≤ R.slots → pm_fin D DA B l o σ' p e R s mid args below meth c m Mc Ms Q →
    (∃ en, (pm_cd' m)[k]? = some en ∧ en.1 = pc) → W p l e R s mid args below meth c H locs cells slots Q (F0 mid pc ls S)
def pm_rm (d mc ms : Nat) : Room := { frames := d + 20, cells := mc, slots := ms, locals := 100 * d + 300 }
def pm_wsx (x : Nat) : List Cond := match pm_hh x with
  | [] => [Cond.code (pm_y x) (pm_cc x) (pm_nl x) (pm_ret x)]
  | _ :: _ => [Cond.codeWith (pm_y x) (pm_cc x) (pm_nl x) (pm_ret x) (pm_hh x)]
section SND
variable {D : va_G} {DA : Nat → ClassId} {B : Nat} {strs : List (String × Nat × String)} {ncs : List (String × String)} {l : Launch} {NM n : Nat}
theorem pm_Pc_blind {As : List Value} {σ : pm_H} : FrameBlind (pm_Pc D DA B strs ncs As σ) := by
  intro a U g mk h
  obtain ⟨h1, h2, h3⟩ := h
  exact ⟨h1, pm_amb.warm (U := U.calling g mk a) (H1 := U.heap) (State.WarmedH.refl U) (fun _ _ _ => rfl) h2, h3.moved (Vm.Alike.refl U.vm)⟩
/-- the end of a method, whatever it answers -/
theorem pm_fin_met {o : pm_O} {σ' : pm_H} {p : Program} {e : Env} {R : Room} {s : State} {mid : MethodId} {args : Array Value} {below : List Frame} {meth : Method} {c : Code} {m Mc Ms : Nat} (hx : pm_ctx D DA B strs ncs m p s mid meth c) :
    pm_fin D DA B l o σ' p e R s mid args below meth c m Mc Ms (vx_MQ below (pm_Qc D DA B o σ') (pm_Xc D DA B o σ') args s Mc Ms (fun q => B ≤ q)) := by
  refine ⟨fun r ho H1 locs1 pc1 ls1 S1 i1 x1 q1 hrop hq hd hre hrep hS => ?_, fun x hx => rfl⟩
  obtain ⟨hexec, hb, -, -, hlocks, hret, -⟩ := hx
  rw [← hret] at hre
  have key : ∀ t : State, t.heap = H1 → s.WarmedH t.vm → pm_Qc D DA B o σ' args s (.returned r) t := fun t ht hW => ⟨⟨r, ho, rfl⟩, by rw [ht]; exact hrep.moved hW.alike, hS.F ht⟩
  refine vx_ret ?_
  unfold pm_rop at hrop
  split at hrop <;> cases hrop <;> simp only [pm_op] at hq <;> simp only [pm_reo] at hre
  · rcases hre with ⟨-, hre⟩ | ⟨h, -⟩
    · exact W.iret hexec hb hre key hS.2.2 hd hlocks
    · cases h
  · rcases hre with ⟨h, -⟩ | ⟨-, hre⟩
    · cases h
    · exact W.zret hexec hb hre (by simp only [narrow]; rw [hq]) key hS.2.2 hd hlocks
  · exact W.lret hexec hb hre key hS.2.2 hd hlocks
  · exact W.dret hexec hb hre key hS.2.2 hd hlocks
  · obtain ⟨rt, hre, hrt⟩ := hre
    exact W.aret hexec hb hre hrt (Or.inr ⟨_, rfl⟩) key hS.2.2 hd hlocks
  · exact W.vret hexec hb hre key hS.2.2 hd hlocks
/-- a callee's contract -/
theorem pm_met (IH : pm_Goal D DA B strs ncs l NM n) {d x : Nat} {As : List Value} {σ σ1 : pm_H} {o : pm_O} (hx : x < NM) (hm : pm_mok x) (he : pm_exec n d x 0 (pm_ent As (pm_nl x)) [] σ = some (o, σ1)) (hlen : (pm_flat As).length ≤ pm_nl x) (h0 : ∃ en, (pm_cd' x)[0]? = some en ∧ en.1 = 0) :
    vx_Met l (pm_y x) (pm_wsx x) (pm_rm d (pm_n σ1 - pm_n σ) (pm_w σ1 - pm_w σ)) (pm_Pc D DA B strs ncs As σ) (pm_Qc D DA B o σ1) (pm_Xc D DA B o σ1) (pm_n σ1 - pm_n σ) (pm_w σ1 - pm_w σ) (fun q => B ≤ q) := by
  have body : ∀ (p : Program) (e : Env) (s : State) (mid : MethodId) (args : Array Value) (below : List Frame) (meth : Method) (c : Code) (s₁ : State), BodyLoose p l (pm_y x) (headSpec (pm_wsx x) (pm_rm d (pm_n σ1 - pm_n σ) (pm_w σ1 - pm_w σ))) (pm_cc x) (pm_nl x) (pm_ret x) e s mid args below meth c s₁ → c.maxLocals = pm_nl x → c.exceptionTable.toList = tableOf (pm_hh x) → pm_Pc D DA B strs ncs As σ args s →
      W p l e (headSpec (pm_wsx x) (pm_rm d (pm_n σ1 - pm_n σ) (pm_w σ1 - pm_w σ))).room s mid args below meth c s.heap [] 0 0 (vx_MQ below (pm_Qc D DA B o σ1) (pm_Xc D DA B o σ1) args s (pm_n σ1 - pm_n σ) (pm_w σ1 - pm_w σ) (fun q => B ≤ q)) (entryFrame mid args (pm_nl x)) := by
    intro p e s mid args below meth c s₁ Bd hml htab hv
    obtain ⟨rfl, hamb, hrep⟩ := hv
    have hctx : pm_ctx D DA B strs ncs x p s mid meth c := ⟨Bd.exec, Bd.bytes, hml, by rw [← hm.1]; exact findClass_of_methodNamed Bd.named, Bd.notSynchronized, Bd.returns, fun h => ((name_of_methodNamed Bd.named Bd.method).1).trans h, htab, hamb⟩
    rw [lg_entry_eq]
    exact IH d x 0 _ _ σ o σ1 he hx p e _ s mid _ below meth c s.heap [] 0 0 (pm_n σ1 - pm_n σ) (pm_w σ1 - pm_w σ) _ _ 0 hctx ⟨Nat.le_refl _, Nat.le_refl _⟩ (pm_lr_ent As hlen) hrep va_S.rf (by omega) (by omega) (Nat.le_refl _) (Nat.le_refl _) (pm_fin_met hctx) h0
  cases hh : pm_hh x with
  | nil =>
    have hw : pm_wsx x = Cond.code (pm_y x) (pm_cc x) (pm_nl x) (pm_ret x) :: [] := by unfold pm_wsx; rw [hh]
    refine vx_ofW hm.2.2.2.2.1 hw (fun p e s mid args below meth c s₁ Bd hml htab hv => body p e s mid args below meth c s₁ Bd hml ?_ hv)
    rw [hh]
    exact List.eq_nil_iff_forall_not_mem.mpr htab
  | cons a b =>
    have hw : pm_wsx x = Cond.codeWith (pm_y x) (pm_cc x) (pm_nl x) (pm_ret x) (pm_hh x) :: [] := by unfold pm_wsx; rw [hh]
    refine vx_ofWH hm.2.2.2.2.1 hw (fun p e s mid args below meth c s₁ Bd hml hv => body p e s mid args below meth c s₁ Bd hml (vx_table (x := pm_y x) Bd (atoms_spec (ws := pm_wsx x) Bd.pre _ (by rw [hw]; exact List.mem_cons_self))) hv)
theorem pm_met_ret {l : Launch} {y : MethodName} {ws : List Cond} {rm : Room} {Pc : Array Value → State → Prop} {r : Option Value} {σ1 : pm_H} {mc ms : Nat} {free : Addr → Prop} (h : vx_Met l y ws rm Pc (pm_Qc D DA B (.inl r) σ1) (pm_Xc D DA B (.inl r) σ1) mc ms free) : Met l y ws rm Pc (pm_Qc D DA B (.inl r) σ1) mc ms free := by
  refine MetFree.mono h (fun _ _ h => h) (fun _ _ _ _ _ h => h) (fun a s o t _ hq => ?_)
  rcases hq with hq | ⟨q, -, E, ce, L, ⟨⟨x, hx, -⟩, -⟩, -⟩
  · exact hq
  · cases hx
section AFT
variable {p : Program} {e : Env} {R : Room} {s : State} {m : MethodId} {args : Array Value} {below : List Frame} {meth : Method} {c : Code} {H : Heap} {locs : List Loc} {cells slots mc ms : Nat} {Q : State → Prop} {pc : Nat} {ls : Array Slot} {st0 rest : List Value} {a : Array Value} {σ1 : pm_H}
theorem pm_S_call {t T' st₀ : State} {L : List Loc} (hS : va_S (fun q => B ≤ q) s.heap H locs) (h0 : st₀.heap = H) (e1 : T'.heap = t.heap) (hF : va_F (fun q => B ≤ q) st₀ t) (hL : ∀ q ∈ L, B ≤ q.base) : va_S (fun q => B ≤ q) s.heap T'.heap (locs ++ L) := by
  obtain ⟨hz, hk⟩ := hF
  rw [h0] at hz hk
  refine ⟨Nat.le_trans hS.1 (by rw [e1]; exact hz), fun q h1 h2 => by rw [e1, hk q (Nat.lt_of_lt_of_le h1 hS.1) h2]; exact hS.2.1 q h1 h2, fun q hq => ?_⟩
  rcases List.mem_append.mp hq with h | h
  · exact hS.2.2 q h
  · exact hL q h
theorem pm_after {r : Option Value} (hr : va_Run p l e R s m args below meth c H locs cells slots mc ms (F0 m pc ls st0) rest (pm_Qc D DA B (.inl r) σ1 a) (fun q => B ≤ q)) (hS : va_S (fun q => B ≤ q) s.heap H locs)
    (kk : ∀ (H1 : Heap) (locs1 : List Loc), pm_rep D DA B s σ1 H1 → va_S (fun q => B ≤ q) s.heap H1 locs1 → W p l e R s m args below meth c H1 locs1 (cells + mc) (slots + ms) Q (F0 m (pc + 3) ls (r.toList ++ rest))) : W p l e R s m args below meth c H locs cells slots Q (F0 m pc ls st0) := by
  intro T hT X
  obtain ⟨v, st₀, t, T', L, h0, X', hL, e1, e2, ⟨⟨r', hr', hv⟩, hrep, hF⟩, st⟩ := hr T hT X
  cases hr'
  cases hv
  have hal : s.vm.Alike t.vm := by rw [← e2]; exact X'.warmed.alike
  obtain ⟨t2, a1, b1⟩ := kk T'.heap (locs ++ L) (by rw [e1]; exact hrep.moved hal.symm) (pm_S_call hS h0 e1 hF hL) T' rfl X'
  exact ⟨t2, st t2 a1, b1⟩
theorem pm_afterX {E0 : Nat} (hr : vx_Run p l e R s m args below meth c H locs cells slots mc ms (F0 m pc ls st0) rest (pm_Qc D DA B (.inr E0) σ1 a) (pm_Xc D DA B (.inr E0) σ1) (fun q => B ≤ q)) (hS : va_S (fun q => B ≤ q) s.heap H locs)
    (kx : ∀ (ce : Cell) (q9 : Addr) (H1 : Heap) (locs1 : List Loc), pm_rep D DA B s σ1 H1 → va_S (fun q => B ≤ q) s.heap H1 locs1 → H1[q9]? = some ce → ce.vm = .none → s.vm.findClass (pm_ex E0) = some ce.cls → vx_W p l e R s m args below meth c H1 locs1 (cells + mc) (slots + ms) Q (F0 m pc ls rest) q9) : W p l e R s m args below meth c H locs cells slots Q (F0 m pc ls st0) := by
  intro T hT X
  rcases hr T hT X with ⟨v, st₀, t, T', L, h0, X', hL, e1, e2, ⟨⟨r', hr', -⟩, -⟩, st⟩ | ⟨q, st₀, t, T', L, E, ce, h0, X', hL, e1, e2, ⟨⟨x, hx, hE⟩, hrep, hF⟩, hce, hcv, hcl, st⟩
  · cases hr'
  · cases hx
    subst hE
    have hal : s.vm.Alike t.vm := by rw [← e2]; exact X'.warmed.alike
    obtain ⟨t2, a1, b1⟩ := kx ce q T'.heap (locs ++ L) (by rw [e1]; exact hrep.moved hal.symm) (pm_S_call hS h0 e1 hF hL) (by rw [e1]; exact hce) hcv hcl T' rfl X'
    exact ⟨t2, st.trans a1, b1⟩
end AFT
end SND
