/-! ===== writing, making: all of them ===== -/
def pm_dc (cc : ByteArray) (pc : Nat) (i : Instr) (y : Nat) : Prop := match i with
  | .nop => decode cc pc = .ok (.invokestatic y, 3)
  | .pop => decode cc pc = .ok (.invokespecial y, 3)
  | .dup_x1 => decode cc pc = .ok (.invokestatic y, 3)
  | .dup_x2 => decode cc pc = .ok (.invokestatic y, 3)
  | i => decode cc pc = .ok (i, pm_len i)
def pm_cdw (own : String) (i : Instr) (y : Nat) : Prop := match i with
  | .pop => Cond.methodLink own y objectInit ∈ lw_tbl ∧ Cond.instanceMethod objectInit ∈ lw_tbl ∧ Cond.code objectInit ⟨#[0xb1]⟩ 1 none ∈ lw_tbl
  | .dup_x1 => Cond.methodLink own y Lib.Math.max.name ∈ lw_tbl ∧ Cond.static Lib.Math.max.name ∈ lw_tbl ∧ Cond.initialized "java/lang/Math" ∈ lw_tbl ∧ Cond.code Lib.Math.max.name Lib.Math.max.code 2 (some .int) ∈ lw_tbl
  | .dup_x2 => Cond.methodLink own y Lib.Math.min.name ∈ lw_tbl ∧ Cond.static Lib.Math.min.name ∈ lw_tbl ∧ Cond.initialized "java/lang/Math" ∈ lw_tbl ∧ Cond.code Lib.Math.min.name Lib.Math.min.code 2 (some .int) ∈ lw_tbl
  | _ => True
theorem pm_cat_sum' : ∀ S : List Value, (S.map fun v => v.category).sum = pm_cat S := by
  intro S
  induction S with
  | nil => rfl
  | cons v r ih => simp [pm_cat, ih]
theorem pm_n_new (σ : pm_H) (t len w : Nat) : pm_n (pm_new σ t len w) = pm_n σ + 1 := rfl
theorem pm_w_new (σ : pm_H) (t len w : Nat) : pm_w (pm_new σ t len w) = pm_w σ + w := rfl
theorem pm_n_sA (σ : pm_H) (a j : Nat) (v : Value) : pm_n (pm_sA σ a j v) = pm_n σ := rfl
theorem pm_w_sA (σ : pm_H) (a j : Nat) (v : Value) : pm_w (pm_sA σ a j v) = pm_w σ := rfl
theorem pm_cpy_av (σ : pm_H) (x a0 sp a dp n j : Nat) : va_cpy (fun j => pm_av x (pm_A σ a0 j)) (fun j => pm_av x (pm_A σ a j)) sp dp n j = pm_av x (pm_A (pm_cp σ a0 sp a dp n) a j) := by
  show (if dp ≤ j ∧ j < dp + n then _ else _) = pm_av x (if a = a ∧ dp ≤ j ∧ j < dp + n then _ else _)
  by_cases hj : dp ≤ j ∧ j < dp + n
  · rw [if_pos hj, if_pos ⟨rfl, hj⟩]; rfl
  · rw [if_neg hj, if_neg (fun h => hj h.2)]; rfl
theorem pm_int_fit {z : Int32} (h : z &&& 1 = z) : z = 0 ∨ z = 1 := by
  have hb : z.toBitVec &&& 1#32 = z.toBitVec := by
    have := congrArg Int32.toBitVec h
    simpa using this
  have h2 : z.toBitVec = 0#32 ∨ z.toBitVec = 1#32 := by
    generalize z.toBitVec = b at hb
    have h1 : b.toNat &&& 1 = b.toNat := by
      have := congrArg BitVec.toNat hb
      simpa using this
    rw [Nat.and_one_is_mod] at h1
    rcases Nat.mod_two_eq_zero_or_one b.toNat with h | h
    · left; apply BitVec.eq_of_toNat_eq; simp; omega
    · right; apply BitVec.eq_of_toNat_eq; simp; omega
  rcases h2 with h2 | h2
  · left; exact Int32.toBitVec_inj.mp h2
  · right; exact Int32.toBitVec_inj.mp h2
section WRO
variable {p : Program} {l : Launch} {e : Env} {R : Room} {s : State} {m : MethodId} {args : Array Value} {below : List Frame} {meth : Method} {c : Code} {H : Heap} {locs : List Loc} {cells slots : Nat} {Q : State → Prop}
variable {D : va_G} {DA : Nat → ClassId} {B : Nat} {strs : List (String × Nat × String)} {ncs : List (String × String)} {σ σ' : pm_H} {H0 Hs : Heap}
variable {cc : ByteArray} {pc : Nat} {ls : Array Slot} {own : String}
theorem pm_S_push {A : Nat → Prop} {H1 : Heap} (hS : va_S A Hs H locs) (hz : H1.size = H.size + 1) (ho : ∀ q : Nat, q < H.size → H1[q]? = H[q]?) : va_S A Hs H1 locs := ⟨Nat.le_trans hS.1 (by omega), fun x h1 h2 => (ho x (Nat.lt_of_lt_of_le h1 hS.1)).trans (hS.2.1 x h1 h2), hS.2.2⟩
set_option maxHeartbeats 1000000 in
theorem pm_wr_ok {i : Instr} {v : Value} {x y : Nat} {S S' : List Value} {q : Option Prop} {ini : Bool} (hexec : p.tables.exec = Jvm.exec) (hb : c.code = cc) (hml : c.maxLocals = ls.size) (hown : s.vm.findClass own = some m.cls) (hini : ini = true → meth.name = "<init>") (ha : pm_amb D DA B strs ncs s H0) (hr : pm_rep D DA B s σ H) (hS : va_S (fun q => B ≤ q) Hs H locs) (hd : pm_dc cc pc i y) (hk : pm_wok own ini i v x y) (h : pm_wr i v x y S σ = some (q, S', σ')) (hq : pm_op q)
    (hfr : 1 ≤ R.frames) (hlo : 200 ≤ R.locals) (hRc : cells + (pm_n σ' - pm_n σ) ≤ R.cells) (hRs : slots + (pm_w σ' - pm_w σ) ≤ R.slots)
    (kk : ∀ (H1 : Heap) (locs1 : List Loc), pm_rep D DA B s σ' H1 → va_S (fun q => B ≤ q) Hs H1 locs1 → W p l e R s m args below meth c H1 locs1 (cells + (pm_n σ' - pm_n σ)) (slots + (pm_w σ' - pm_w σ)) Q (F0 m (pc + pm_len i) ls S')) : W p l e R s m args below meth c H locs cells slots Q (F0 m pc ls S) := by
  have z0 : ∀ a b : Nat, a + (b - b) = a := fun a b => by omega
  unfold pm_wr at h
  split at h <;> cases h <;> simp only [pm_op] at hq <;> simp only [pm_wok] at hk
  · -- putfield int
    obtain ⟨hf, hm⟩ := hk
    refine pm_put hexec hb hown ha hr hS hini hd hf hq ?_ ?_ ?_ (fun H1 l1 g1 g2 => by have := kk H1 l1 g1 g2; rwa [show pm_n (pm_sF σ y _ _) = pm_n σ from rfl, show pm_w (pm_sF σ y _ _) = pm_w σ from rfl, z0, z0] at this)
    · generalize pm_fty (x - 1) (y - 100 * (x - 1)) = ty at hm ⊢; cases ty <;> first | rfl | cases hm
    · generalize pm_fty (x - 1) (y - 100 * (x - 1)) = ty at hm ⊢; cases ty <;> first | rfl | cases hm
    · generalize pm_fty (x - 1) (y - 100 * (x - 1)) = ty at hm ⊢; cases ty <;> first | rfl | cases hm
  · -- putfield boolean
    obtain ⟨hf, hm⟩ := hk
    have h01 := pm_int_fit hq.2
    refine pm_put hexec hb hown ha hr hS hini hd hf hq.1 ?_ ?_ ?_ (fun H1 l1 g1 g2 => by have := kk H1 l1 g1 g2; rwa [show pm_n (pm_sF σ y _ _) = pm_n σ from rfl, show pm_w (pm_sF σ y _ _) = pm_w σ from rfl, z0, z0] at this)
    · generalize pm_fty (x - 1) (y - 100 * (x - 1)) = ty at hm ⊢; cases ty <;> first | (simp only [narrow]; rw [hq.2]) | cases hm
    · generalize pm_fty (x - 1) (y - 100 * (x - 1)) = ty at hm ⊢; cases ty <;> first | (rcases h01 with h | h <;> rw [h] <;> rfl) | cases hm
    · generalize pm_fty (x - 1) (y - 100 * (x - 1)) = ty at hm ⊢; cases ty <;> first | rfl | cases hm
  · -- putfield long
    obtain ⟨hf, hm⟩ := hk
    refine pm_put hexec hb hown ha hr hS hini hd hf hq ?_ ?_ ?_ (fun H1 l1 g1 g2 => by have := kk H1 l1 g1 g2; rwa [show pm_n (pm_sF σ y _ _) = pm_n σ from rfl, show pm_w (pm_sF σ y _ _) = pm_w σ from rfl, z0, z0] at this)
    · generalize pm_fty (x - 1) (y - 100 * (x - 1)) = ty at hm ⊢; cases ty <;> first | rfl | cases hm
    · generalize pm_fty (x - 1) (y - 100 * (x - 1)) = ty at hm ⊢; cases ty <;> first | rfl | cases hm
    · generalize pm_fty (x - 1) (y - 100 * (x - 1)) = ty at hm ⊢; cases ty <;> first | rfl | cases hm
  · -- putfield ref
    obtain ⟨hf, hm⟩ := hk
    refine pm_put hexec hb hown ha hr hS hini hd hf hq ?_ ?_ ?_ (fun H1 l1 g1 g2 => by have := kk H1 l1 g1 g2; rwa [show pm_n (pm_sF σ y _ _) = pm_n σ from rfl, show pm_w (pm_sF σ y _ _) = pm_w σ from rfl, z0, z0] at this)
    · generalize pm_fty (x - 1) (y - 100 * (x - 1)) = ty at hm ⊢; cases ty <;> first | rfl | cases hm
    · generalize pm_fty (x - 1) (y - 100 * (x - 1)) = ty at hm ⊢; cases ty <;> first | rfl | cases hm
    · generalize pm_fty (x - 1) (y - 100 * (x - 1)) = ty at hm ⊢; cases ty <;> first | rfl | cases hm
  · -- iastore
    subst hk
    obtain ⟨e1, e2, e3, e4, e5⟩ := pm_arr ha hr hq.1 (by decide) hq.2
    have hB := hr.2.2.1 _ (by rw [hq.1]; decide) (by rw [hq.1]; decide)
    refine W.iast hexec hb e1 e2 e5 e3 rfl rfl hd (fun H1 g1 g2 g3 => ?_)
    simp only [pm_n_sA, pm_w_sA, z0] at kk
    exact kk H1 _ (hr.ast hq.1 (by decide) g1 g2 g3) (hS.put g2 g3 hB)
  · -- bastore boolean
    rcases hk with ⟨rfl, -⟩ | ⟨-, hk⟩
    · obtain ⟨e1, e2, e3, e4, e5⟩ := pm_arr ha hr hq.1 (by decide) hq.2
      have hB := hr.2.2.1 _ (by rw [hq.1]; decide) (by rw [hq.1]; decide)
      refine W.zast hexec hb e1 e2 e5 e3 rfl rfl hd (fun H1 g1 g2 g3 => ?_)
      simp only [pm_n_sA, pm_w_sA, z0] at kk
      exact kk H1 _ (hr.ast hq.1 (by decide) g1 g2 g3) (hS.put g2 g3 hB)
    · cases hk
  · -- bastore byte
    rcases hk with ⟨-, hk⟩ | ⟨rfl, -⟩
    · cases hk
    · obtain ⟨e1, e2, e3, e4, e5⟩ := pm_arr ha hr hq.1 (by decide) hq.2
      have hB := hr.2.2.1 _ (by rw [hq.1]; decide) (by rw [hq.1]; decide)
      refine W.bast hexec hb e1 e2 e5 e3 rfl rfl hd (fun H1 g1 g2 g3 => ?_)
      simp only [pm_n_sA, pm_w_sA, z0] at kk
      exact kk H1 _ (hr.ast hq.1 (by decide) g1 g2 g3) (hS.put g2 g3 hB)
  · -- castore
    subst hk
    obtain ⟨e1, e2, e3, e4, e5⟩ := pm_arr ha hr hq.1 (by decide) hq.2
    have hB := hr.2.2.1 _ (by rw [hq.1]; decide) (by rw [hq.1]; decide)
    refine W.cast hexec hb e1 e2 e5 e3 rfl rfl hd (fun H1 g1 g2 g3 => ?_)
    simp only [pm_n_sA, pm_w_sA, z0] at kk
    exact kk H1 _ (hr.ast hq.1 (by decide) g1 g2 g3) (hS.put g2 g3 hB)
  · -- lastore
    subst hk
    obtain ⟨e1, e2, e3, e4, e5⟩ := pm_arr ha hr hq.1 (by decide) hq.2
    have hB := hr.2.2.1 _ (by rw [hq.1]; decide) (by rw [hq.1]; decide)
    refine W.last hexec hb e1 e2 e5 e3 rfl rfl hd (fun H1 g1 g2 g3 => ?_)
    simp only [pm_n_sA, pm_w_sA, z0] at kk
    exact kk H1 _ (hr.ast hq.1 (by decide) g1 g2 g3) (hS.put g2 g3 hB)
  · -- dastore
    subst hk
    obtain ⟨e1, e2, e3, e4, e5⟩ := pm_arr ha hr hq.1 (by decide) hq.2
    have hB := hr.2.2.1 _ (by rw [hq.1]; decide) (by rw [hq.1]; decide)
    refine W.dast hexec hb e1 e2 e5 e3 rfl rfl hd (fun H1 g1 g2 g3 => ?_)
    simp only [pm_n_sA, pm_w_sA, z0] at kk
    exact kk H1 _ (hr.ast hq.1 (by decide) g1 g2 g3) (hS.put g2 g3 hB)
  · -- aastore
    obtain ⟨hk, h120, hy⟩ := hk
    obtain ⟨h1, h2, h3⟩ := hq
    obtain ⟨e1, e2, e3, e4, e5⟩ := pm_arr ha hr h1 hk h2
    have hg := pm_tags_ge hk
    have hB := hr.2.2.1 _ (by rw [h1]; omega) (by rw [h1]; exact hg.2)
    have hci : ∃ r, pm_cl[x - 120]? = some r ∧ pm_cn (x - 120) = r.1 := by
      simp [pm_tags] at hk
      rcases hk with rfl | rfl | rfl | rfl | rfl | rfl | rfl | rfl | rfl | rfl <;> first | omega | exact ⟨_, rfl, rfl⟩
    obtain ⟨r, hc, hcn⟩ := hci
    obtain ⟨cellV, g1, g2, g3, -⟩ := (hr.2.2.2.1 _).1 (x - 120) r (h3.trans hy) hc
    have hcls := (ha.1.1 _ r hc).2
    have hRA := (ha.2.1 _ hk).2
    have ety : pm_aty x = .object (pm_cn (x - 120)) := by
      unfold pm_aty
      rw [if_neg (by omega), if_neg (by omega), if_neg (by omega), if_neg (by omega), if_neg (by omega), if_neg (by omega)]
    rw [ety, hcn] at hRA
    obtain ⟨kA, comp, k1, k2, k3, -⟩ := hRA
    have hcomp : comp = D.1 (x - 120) := Option.some.inj (k3.symm.trans hcls.1)
    subst hcomp
    obtain ⟨kC, hkC, -⟩ := hcls.2
    refine W.aast hexec hb e1 (fun q h => by cases h) (fun h => by cases h) k1 k2 rfl hkC ⟨fun q => h2 (Or.inl q), by rw [arrV_size]; exact Nat.not_le.mp fun q => h2 (Or.inr q)⟩ g1 (fun q h => by rw [g3] at h; cases h) (by rw [g2]; exact hkC) (by rw [g2]; exact va_assign hcls) rfl rfl hd (fun H1 g1 g2 g3 => ?_)
    have ev : ∀ z, pm_av x (.ref z) = .ref z := fun z => by
      unfold pm_av
      rw [if_neg (by omega), if_neg (by omega), if_pos h120]
      rfl
    simp only [pm_n_sA, pm_w_sA, z0] at kk
    exact kk H1 _ (hr.ast h1 hk (by rw [ev]; exact g1) g2 g3) (hS.put g2 g3 hB)
  · -- new
    obtain ⟨ci, C, T, hx, hc, w1, w2, w3⟩ := hk
    have hKn := ha.1.1 ci _ hc
    have hcl := pm_clok_all ci _ hc
    have hts := pm_hts (args := args) ha.2.2.1 hc
    have e1 : pm_n (pm_new σ x 0 y) - pm_n σ = 1 := by rw [pm_n_new]; omega
    have e2 : pm_w (pm_new σ x 0 y) - pm_w σ = y := by rw [pm_w_new]; omega
    rw [e1] at hRc kk
    rw [e2] at hRs kk
    refine W.newcK hexec hb hown (ha.2.2.1 _ w1 rfl args) (ha.2.2.1 _ w2 rfl args) (ha.2.2.1 _ w3 rfl args) rfl hd hRc hRs hKn.2.1 rfl (fun H1 kC hkC g1 g2 g3 => ?_)
    have hsz : H.size = pm_n σ := hr.1
    have hci := pm_cl_lt hc
    have := kk H1 locs (hr.push g2 g3 (by omega) ⟨fun ci' r' q1 q2 => ?_, fun q1 => ?_⟩) (pm_S_push hS g2 g3)
    · rw [← hsz] at this; exact this
    · have q3 : pm_t (pm_new σ x 0 y) H.size = x := by unfold pm_t pm_new; simp only; rw [if_pos (show H.size = σ.1.1 from hsz)]
      have q4 : ci' = ci := by omega
      subst q4
      cases Option.some.inj (q2.symm.trans hc)
      refine (u_born (pm_fty ci') hts (fun _ h => h) hKn hkC g1 hcl.2.1).to (fun k _ => ?_)
      have q5 : pm_F (pm_new σ x 0 y) (100 * ci' + k) H.size = .null := by unfold pm_F pm_new; simp only; rw [if_pos (show H.size = σ.1.1 from hsz)]
      rw [q5]
      exact pm_fv_null _
    · have q3 : pm_t (pm_new σ x 0 y) H.size = x := by unfold pm_t pm_new; simp only; rw [if_pos (show H.size = σ.1.1 from hsz)]
      rw [q3] at q1
      have := pm_tags_ge q1
      omega
  · -- newarray
    obtain ⟨hk, h120, hty, w1⟩ := hk
    obtain ⟨hz, hle⟩ := hq
    rename_i z _
    have e1 : pm_n (pm_new σ x z.toNatClampNeg z.toNatClampNeg) - pm_n σ = 1 := by rw [pm_n_new]; omega
    have e2 : pm_w (pm_new σ x z.toNatClampNeg z.toNatClampNeg) - pm_w σ = z.toNatClampNeg := by rw [pm_w_new]; omega
    rw [e1] at hRc kk
    rw [e2] at hRs kk
    have hsz : H.size = pm_n σ := hr.1
    have hg := pm_tags_ge hk
    have hRA := (ha.2.1 _ hk).2
    refine va_newaK hexec hb (by rw [hty]; exact ha.2.2.1 _ w1 rfl args) rfl hd rfl hz rfl ?_ hRc hRs rfl (fun H1 cA g1 g2 g3 g4 g5 => ?_)
    · rw [hty]
      simp [pm_tags] at hk
      rcases hk with rfl | rfl | rfl | rfl | rfl | rfl | rfl | rfl | rfl | rfl <;> first | (simp [pm_aty, componentBytes]; omega) | omega
    · rw [hty] at g1 g5
      have hDA : DA x = cA := by
        simp [pm_tags] at hk
        rcases hk with rfl | rfl | rfl | rfl | rfl | rfl | rfl | rfl | rfl | rfl <;> first | exact Option.some.inj (hRA.symm.trans g5) | omega
      have hdef : defaultValue (pm_aty x) = pm_av x .null := by
        simp [pm_tags] at hk
        rcases hk with rfl | rfl | rfl | rfl | rfl | rfl | rfl | rfl | rfl | rfl <;> rfl
      have q3 : pm_t (pm_new σ x z.toNatClampNeg z.toNatClampNeg) H.size = x := by unfold pm_t pm_new; simp only; rw [if_pos (show H.size = σ.1.1 from hsz)]
      have q4 : pm_l (pm_new σ x z.toNatClampNeg z.toNatClampNeg) H.size = z.toNatClampNeg := by unfold pm_l pm_new; simp only; rw [if_pos (show H.size = σ.1.1 from hsz)]
      have q5 : ∀ j, pm_A (pm_new σ x z.toNatClampNeg z.toNatClampNeg) H.size j = .null := fun j => by unfold pm_A pm_new; simp only; rw [if_pos (show H.size = σ.1.1 from hsz)]
      have := kk H1 locs (hr.push g2 g3 hg.2 ⟨fun ci' r' a1 a2 => ?_, fun a1 => ?_⟩) (pm_S_push hS g2 g3)
      · rw [← hsz] at this; exact this
      · have := pm_cl_lt a2; omega
      · rw [q3, q4, g1, hDA]
        simp only [q5, hdef]
  · -- anewarray
    obtain ⟨hk, h120, w1⟩ := hk
    obtain ⟨hz, hle⟩ := hq
    rename_i z _
    have e1 : pm_n (pm_new σ x z.toNatClampNeg z.toNatClampNeg) - pm_n σ = 1 := by rw [pm_n_new]; omega
    have e2 : pm_w (pm_new σ x z.toNatClampNeg z.toNatClampNeg) - pm_w σ = z.toNatClampNeg := by rw [pm_w_new]; omega
    rw [e1] at hRc kk
    rw [e2] at hRs kk
    have hsz : H.size = pm_n σ := hr.1
    have hg := pm_tags_ge hk
    have hRA := (ha.2.1 _ hk).2
    have ety : pm_aty x = .object (pm_cn (x - 120)) := by
      unfold pm_aty
      rw [if_neg (by omega), if_neg (by omega), if_neg (by omega), if_neg (by omega), if_neg (by omega), if_neg (by omega)]
    rw [ety] at hRA
    refine W.anew hexec hb hown (ha.2.2.1 _ w1 rfl args) (va_AO.use (ha.2.2.2.2.2.2.2 _ hk h120)) rfl hd rfl hz (by omega) hRc hRs (fun cA kA comp f1 f2 f3 f4 => ?_)
    generalize hH1 : H.push ({ cls := cA, slots := Array.replicate z.toNatClampNeg .null, vm := .none } : Cell) = H1
    have g2 : H1.size = H.size + 1 := by rw [← hH1, Array.size_push]
    have g1 : H1[H.size]? = some (arrV cA z.toNatClampNeg (fun _ => .null)) := by rw [← hH1, Array.getElem?_push_size, ← arrV_new]
    have g3 : ∀ q : Nat, q < H.size → H1[q]? = H[q]? := fun q hq => by rw [← hH1, Array.getElem?_push, if_neg (Nat.ne_of_lt hq)]
    have hDA : DA x = cA := by
      obtain ⟨_, _, _, _, _, h6⟩ := hRA
      exact Option.some.inj (h6.symm.trans f1)
    have q3 : pm_t (pm_new σ x z.toNatClampNeg z.toNatClampNeg) H.size = x := by unfold pm_t pm_new; simp only; rw [if_pos (show H.size = σ.1.1 from hsz)]
    have q4 : pm_l (pm_new σ x z.toNatClampNeg z.toNatClampNeg) H.size = z.toNatClampNeg := by unfold pm_l pm_new; simp only; rw [if_pos (show H.size = σ.1.1 from hsz)]
    have q5 : ∀ j, pm_A (pm_new σ x z.toNatClampNeg z.toNatClampNeg) H.size j = .null := fun j => by unfold pm_A pm_new; simp only; rw [if_pos (show H.size = σ.1.1 from hsz)]
    have ev : pm_av x .null = .null := by
      unfold pm_av
      rw [if_neg (by omega), if_neg (by omega), if_pos h120]
      rfl
    have := kk H1 locs (hr.push g2 g3 hg.2 ⟨fun ci' r' a1 a2 => ?_, fun a1 => ?_⟩) (pm_S_push hS g2 g3)
    · rw [← hsz] at this; exact this
    · have := pm_cl_lt a2; omega
    · rw [q3, q4, g1, hDA]
      simp only [q5, ev]
  · -- arraycopy
    obtain ⟨hx, w1, w2, w3, w4⟩ := hk
    obtain ⟨t0, t1, h1, h2, h3, h4, h5⟩ := hq
    have hk : x ∈ pm_tags := by rcases hx with rfl | rfl <;> decide
    have hg := pm_tags_ge hk
    have c0 := fun a (h : pm_t σ a = x) => (hr.2.2.2.1 a).2 (by rw [h]; exact hk)
    have hc0 := c0 _ t0
    have hc1 := c0 _ t1
    rw [t0] at hc0
    rw [t1] at hc1
    have hB := hr.2.2.1 _ (by rw [t1]; omega) (by rw [t1]; exact hg.2)
    refine pm_acopy hexec hb hml hown (ha.2.2.1 _ w1 rfl args) (ha.2.2.1 _ w2 rfl args) (ha.2.2.1 _ w3 rfl args) (ha.2.2.1 _ w4 rfl args) hc0 hc1 (ha.2.1 _ hk).1 (ha.2.1 _ hk).1 ?_ h1 h2 h3 h4 h5 ?_ hfr ?_ hd (fun H1 L g1 g2 g3 g4 => ?_)
    · rcases hx with rfl | rfl <;> rfl
    · intro i _
      rcases hx with rfl | rfl <;> exact ⟨rfl, fun b h => by cases h⟩
    · refine Nat.le_trans (Nat.le_of_ble_eq_true ?_) hlo
      decide +kernel
    · refine (fun K => ?_) (kk H1 (locs ++ L) (hr.put (a := _) (fun _ => rfl) (fun _ => rfl) rfl (fun _ _ _ => rfl) (fun q j hq => ?_) g2 g3 (by rw [t1]; exact hg.2) ⟨fun ci r a1 a2 => ?_, fun a1 => ?_⟩) ⟨by rw [g2]; exact hS.1, fun q a1 a2 => ?_, fun q hq => ?_⟩)
      · rwa [show pm_n (pm_cp σ _ _ _ _ _) = pm_n σ from rfl, show pm_w (pm_cp σ _ _ _ _ _) = pm_w σ from rfl, z0, z0] at K
      · show (if q = _ ∧ _ then _ else _) = _
        rw [if_neg (fun h => hq h.1)]
        rfl
      · have h3 := t1.symm.trans a1
        have := pm_cl_lt a2
        omega
      · rw [show pm_t (pm_cp σ _ _ _ _ _) _ = x from t1, g1]
        congr 2
        funext j
        exact pm_cpy_av _ _ _ _ _ _ _ _
      · rw [g3 q (fun e => a2 (by rw [e]; exact hB))]
        exact hS.2.1 q a1 a2
      · rcases List.mem_append.mp hq with h | h
        · exact hS.2.2 q h
        · rw [g4 q h]; exact hB
theorem pm_cd_ok {i : Instr} {y nL : Nat} {S S' : List Value} {q : Option Prop} (hexec : p.tables.exec = Jvm.exec) (hb : c.code = cc) (hml : c.maxLocals = ls.size) (hown : s.vm.findClass own = some m.cls) (ha : pm_amb D DA B strs ncs s H0) (hd : pm_dc cc pc i y)
    (hk : pm_cdw own i y) (h : pm_cd i S = some (q, S')) (hq : pm_op q) (hfr : 1 ≤ R.frames) (hlo : 200 ≤ R.locals) (hc : cells ≤ R.cells) (hs : slots ≤ R.slots)
    (kk : W p l e R s m args below meth c H locs cells slots Q (F0 m (pc + pm_len i) ls S')) : W p l e R s m args below meth c H locs cells slots Q (F0 m pc ls S) := by
  unfold pm_cd at h
  split at h
  · cases h; exact lv_idiv hexec hb hd hq kk
  · cases h; exact lv_irem hexec hb hd hq kk
  · cases h; exact lv_ddiv hexec hb hd hq kk
  · cases h
    obtain ⟨w1, w2, w3⟩ := hk
    refine W.objInit hexec hb hown (ha.2.2.1 _ w1 rfl args) (ha.2.2.1 _ w2 rfl args) (ha.2.2.1 _ w3 rfl args) rfl hml.symm rfl hd hfr ?_ kk
    show 2 * 0 + 0 + 12 ≤ R.locals
    omega
  · obtain ⟨w1, w2, w3, w4⟩ := hk
    split at h
    · rename_i hcat
      cases h
      have hcat := Nat.le_of_ble_eq_true hcat
      exact va_mmax hexec hb hml hown (ha.2.2.1 _ w1 rfl args) (ha.2.2.1 _ w2 rfl args) (ha.2.2.1 _ w3 rfl args) (ha.2.2.1 _ w4 rfl args) hfr (by rw [pm_cat_sum']; omega) hc hs hd kk
    · cases h
  · obtain ⟨w1, w2, w3, w4⟩ := hk
    split at h
    · rename_i hcat
      cases h
      have hcat := Nat.le_of_ble_eq_true hcat
      exact va_mmin hexec hb hml hown (ha.2.2.1 _ w1 rfl args) (ha.2.2.1 _ w2 rfl args) (ha.2.2.1 _ w3 rfl args) (ha.2.2.1 _ w4 rfl args) hfr (by rw [pm_cat_sum']; omega) hc hs hd kk
    · cases h
  · cases h
end WRO
