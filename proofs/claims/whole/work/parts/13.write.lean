/-! ===== instructions that write or make cells, on the machine ===== -/
/-- a field that is written: not final, or in a constructor of its own class -/
def pm_pok (own : String) (ini : Bool) (idx x y : Nat) : Prop := ∃ (ci k : Nat) (C : String) (T : u_T) (N : Nat), x = ci + 1 ∧ y = 100 * ci + k ∧ pm_cl[ci]? = some (C, T, N) ∧ k < N ∧
  (((T k).2.2.2 = false ∧ (Cond.fieldLink own idx (T k).1 (T k).2.1 (T k).2.2.1 ∈ lw_tbl ∨ ∃ host, Cond.fieldLinkNest own idx (T k).1 (T k).2.1 (T k).2.2.1 host ∈ lw_tbl)) ∨ ((T k).2.2.2 = true ∧ ini = true ∧ (T k).1 = own ∧ Cond.fieldLink own idx (T k).1 (T k).2.1 (T k).2.2.1 ∈ lw_tbl))
def pm_mkw (ty : FieldType) (v : Value) : Bool := match ty, v with
  | .int, .int _ => true
  | .boolean, .float _ => true
  | .long, .long _ => true
  | .object _, .null => true
  | .array _, .null => true
  | _, _ => false
def pm_nok (own : String) (idx x y : Nat) : Prop := ∃ (ci : Nat) (C : String) (T : u_T), x = ci + 1 ∧ pm_cl[ci]? = some (C, T, y) ∧ Cond.classLink own idx C ∈ lw_tbl ∧ Cond.instantiable C y ∈ lw_tbl ∧ Cond.initialized C ∈ lw_tbl
def pm_wok (own : String) (ini : Bool) (i : Instr) (v : Value) (x y : Nat) : Prop := match i with
  | .putfield idx => pm_pok own ini idx x y ∧ pm_mkw (pm_fty (x - 1) (y - 100 * (x - 1))) v = true
  | .iastore => x = 100
  | .bastore => (x = 102 ∧ v = .float 0) ∨ (x = 103 ∧ v = .int 0)
  | .castore => x = 104
  | .lastore => x = 101
  | .dastore => x = 105
  | .aastore => x ∈ pm_tags ∧ 120 ≤ x ∧ y = x - 120 + 1
  | .new idx => pm_nok own idx x y
  | .newarray t => x ∈ pm_tags ∧ x < 120 ∧ newarray.typeOf t = pm_aty x ∧ Cond.arrayClass (pm_aty x) ∈ lw_tbl
  | .anewarray idx => x ∈ pm_tags ∧ 120 ≤ x ∧ Cond.classLink own idx (pm_cn (x - 120)) ∈ lw_tbl
  | .nop => (x = 100 ∨ x = 101) ∧ Cond.methodLink own y arraycopyName ∈ lw_tbl ∧ Cond.native arraycopyName ∈ lw_tbl ∧ Cond.static arraycopyName ∈ lw_tbl ∧ Cond.initialized "java/lang/System" ∈ lw_tbl
  | _ => True
theorem pm_tags_ge {x : Nat} (h : x ∈ pm_tags) : 100 ≤ x ∧ x ≠ 200 := by
  simp [pm_tags] at h
  omega
theorem pm_cl_lt {ci : Nat} {r : vw_C} (h : pm_cl[ci]? = some r) : ci < 13 := (List.getElem?_eq_some_iff.mp h).1
theorem pm_fv_null (ty : FieldType) : defaultValue ty = pm_fv ty .null := by cases ty <;> rfl
section WR
variable {p : Program} {l : Launch} {e : Env} {R : Room} {s : State} {m : MethodId} {args : Array Value} {below : List Frame} {meth : Method} {c : Code} {H : Heap} {locs : List Loc} {cells slots : Nat} {Q : State → Prop}
variable {D : va_G} {DA : Nat → ClassId} {B : Nat} {strs : List (String × Nat × String)} {ncs : List (String × String)} {σ : pm_H} {H0 Hs : Heap}
variable {cc : ByteArray} {pc : Nat} {ls : Array Slot} {own : String}
theorem pm_put (hexec : p.tables.exec = Jvm.exec) (hb : c.code = cc) (hown : s.vm.findClass own = some m.cls) (ha : pm_amb D DA B strs ncs s H0) (hr : pm_rep D DA B s σ H) (hS : va_S (fun q => B ≤ q) Hs H locs) {ini : Bool} (hini : ini = true → meth.name = "<init>") {idx x y a : Nat} {S : List Value} {w vv : Value} (hd : decode cc pc = .ok (.putfield idx, 3)) (hf : pm_pok own ini idx x y) (ht : pm_t σ a = x)
    (hn : narrow (pm_fty (x - 1) (y - 100 * (x - 1))) w = w) (hfit : fits (pm_fty (x - 1) (y - 100 * (x - 1))) w = true) (hw : pm_fv (pm_fty (x - 1) (y - 100 * (x - 1))) vv = w)
    (kk : ∀ (H1 : Heap) (locs1 : List Loc), pm_rep D DA B s (pm_sF σ y a vv) H1 → va_S (fun q => B ≤ q) Hs H1 locs1 → W p l e R s m args below meth c H1 locs1 cells slots Q (F0 m (pc + 3) ls S)) : W p l e R s m args below meth c H locs cells slots Q (F0 m pc ls (w :: .ref a :: S)) := by
  obtain ⟨ci, k, C, T, N, hx, hy, hc, hk, hl⟩ := hf
  obtain ⟨cell, q1, q2, q3, q4⟩ := (hr.2.2.2.1 a).1 ci _ (ht.trans hx) hc
  have hcl := pm_clok_all ci _ hc
  obtain ⟨hSl, hfc, kC, hkC, hkind⟩ := ha.1.1 ci _ hc
  obtain ⟨cf, kf, fi, f, hi, hsl⟩ := hSl k hk
  have hts := pm_hts (args := args) ha.2.2.1 hc
  have e1 : x - 1 = ci := by omega
  have e2 : y - 100 * (x - 1) = k := by rw [e1]; omega
  rw [e2, e1] at hn hfit hw
  have hci := pm_cl_lt hc
  have hap := va_apart (own := own) hts (fun _ h => h) (pm_fty ci) hcl.2.1 hcl.2.2.1 ha.1 hc
  have hst := (u_facts hfc hkC (u_lays hts (fun _ h => h) hk) hi).1
  have hlt : f.slot < cell.slots.size := by rw [hsl]; exact k2_hasslot (q4 k hk)
  have hne : pm_t σ a ≠ 0 ∧ pm_t σ a ≠ 200 := by omega
  have hB : B ≤ a := hr.2.2.1 a hne.1 hne.2
  have fin : ∀ H' : Heap, H'[a]? = some (cell.setSlot f.slot w) → H'.size = H.size → (∀ q, q ≠ a → H'[q]? = H[q]?) → W p l e R s m args below meth c H' (locs ++ [⟨a, f.slot⟩]) cells slots Q (F0 m (pc + 3) ls S) := by
    intro H' g1 g2 g3
    refine kk H' _ (hr.put (a := a) (fun _ => rfl) (fun _ => rfl) rfl (fun f' q hq => ?_) (fun _ _ _ => rfl) g2 g3 hne.2 ⟨fun ci' r' h1 h2 => ?_, fun h1 => ?_⟩) (hS.put g2 g3 hB)
    · show (if f' = y ∧ q = a then vv else _) = _
      rw [if_neg (fun h => hq h.2)]
      rfl
    · have h3 : ci' = ci := by
        have : pm_t σ a = ci' + 1 := h1
        omega
      subst h3
      cases Option.some.inj (h2.symm.trans hc)
      rw [hsl] at g1
      refine t_OB.to (V := updV (fun k => pm_fv (pm_fty ci' k) (pm_F σ (100 * ci' + k) a)) k w) ⟨_, g1, q2, q3, t_set q4 hap hk w⟩ (fun j _ => ?_)
      show (if j = k then w else _) = pm_fv _ (if 100 * ci' + j = y ∧ a = a then vv else _)
      by_cases hj : j = k
      · subst hj
        rw [if_pos rfl, if_pos ⟨hy.symm, rfl⟩]
        exact hw.symm
      · rw [if_neg hj, if_neg (fun h => hj (by have := h.1; omega))]
        rfl
    · have h2 : pm_t σ a ∈ pm_tags := h1
      have := pm_tags_ge h2
      omega
  rcases hl with ⟨hfin, hl⟩ | ⟨hfin, hi1, hi2, hl⟩
  · have hlay := hts _ (u_in_lay hk)
    unfold u_lay at hlay
    rw [if_neg (by rw [hfin]; decide)] at hlay
    have h6 := u_store hfc hkC hkind hlay hi (hcl.2.1 k hk) hn hfit
    rcases hl with hl | ⟨host, hl⟩
    · exact W.putK hexec hb (f := f) ⟨hown, ha.2.2.1 _ hl rfl args, ⟨_, _, _, hi⟩, hst⟩ (by rw [q2]; exact h6) q1 q3 hlt rfl rfl hd fin
    · exact va_WputK hexec hb hown (ha.2.2.1 _ hl rfl args) hi hst (by rw [q2]; exact h6) q1 q3 hlt rfl rfl hd fin
  · have hlay := hts _ (u_in_lay hk)
    unfold u_lay at hlay
    rw [if_pos hfin] at hlay
    have hcf : m.cls = cf := by
      obtain ⟨_, _, c', _, _, _, -, -, hf', -, -, -, hown2, -⟩ := Cond.laysFinal_spec hlay
      have e1 : c' = cf := by have := hi.symm.trans hf'; simp at this; exact this.1.symm
      rw [hi2] at hown2
      rw [← e1]; exact Option.some.inj (hown.symm.trans hown2)
    have h6 := u_fits hfc hkC hkind (Or.inr hlay) hi (hcl.2.1 k hk) hn hfit
    exact W.putFinK hexec hb hown (ha.2.2.1 _ hl rfl args) hi hst hcf (hini hi1) (by rw [q2]; exact h6) q1 q3 hlt rfl rfl hd fin
theorem pm_rep.ast (hr : pm_rep D DA B s σ H) {a x j : Nat} {vv : Value} {H1 : Heap} (ht : pm_t σ a = x) (hx : x ∈ pm_tags) (e1 : H1[a]? = some ((arrV (DA x) (pm_l σ a) (fun j => pm_av x (pm_A σ a j))).setSlot j (pm_av x vv))) (z : H1.size = H.size) (oq : ∀ q : Nat, q ≠ a → H1[q]? = H[q]?) : pm_rep D DA B s (pm_sA σ a j vv) H1 := by
  have hg := pm_tags_ge hx
  refine hr.put (a := a) (fun _ => rfl) (fun _ => rfl) rfl (fun _ _ _ => rfl) (fun q j' hq => ?_) z oq (by omega) ⟨fun ci r h1 h2 => ?_, fun h1 => ?_⟩
  · show (if q = a ∧ j' = j then vv else _) = _
    rw [if_neg (fun h => hq h.1)]
    rfl
  · have h3 : pm_t σ a = ci + 1 := h1
    have := pm_cl_lt h2
    omega
  · have h2 : pm_t (pm_sA σ a j vv) a = x := ht
    rw [h2, e1, arrV_store]
    congr 2
    funext q
    show (if q = j then pm_av x vv else _) = pm_av x (if a = a ∧ q = j then vv else _)
    by_cases hq : q = j
    · rw [if_pos hq, if_pos ⟨rfl, hq⟩]
    · rw [if_neg hq, if_neg (fun h => hq h.2)]
      rfl
/-- System.arraycopy between two arrays of one primitive kind -/
theorem pm_acopy (hexec : p.tables.exec = Jvm.exec) (hb : c.code = cc) (hml : c.maxLocals = ls.size) {index : Nat} (hown : s.vm.findClass own = some m.cls) (hlink : (Cond.methodLink own index arraycopyName).before args s = true) (hnat : (Cond.native arraycopyName).before args s = true) (hstat : (Cond.static arraycopyName).before args s = true) (hini : (Cond.initialized "java/lang/System").before args s = true)
    {a0 a : Nat} {c0 c1 : ClassId} {n0 n1 : Nat} {f g : Nat → Value} {ty : FieldType} (hc0 : H[a0]? = some (arrV c0 n0 f)) (hc1 : H[a]? = some (arrV c1 n1 g)) (t0 : ArrOfT s c0 ty) (t1 : ArrOfT s c1 ty) (hprim : refKind ty = false)
    {sp dp n : Int32} (h1 : ¬ sp < 0) (h2 : ¬ dp < 0) (h3 : ¬ n < 0) (h4 : sp.toNatClampNeg + n.toNatClampNeg ≤ n0) (h5 : dp.toNatClampNeg + n.toNatClampNeg ≤ n1) (hfit : ∀ i, i < n.toNatClampNeg → fits ty (f (sp.toNatClampNeg + i)) = true ∧ ∀ b : Nat, f (sp.toNatClampNeg + i) ≠ .ref b)
    (hframes : 1 ≤ R.frames) {rest : List Value} (hlocals : (rest.map fun v => v.category).sum + (nativeFrameWords "java/lang/System" "arraycopy" 5 + 11) ≤ R.locals) (hdg : decode cc pc = .ok (.invokestatic index, 3))
    (kk : ∀ (H1 : Heap) (L : List Loc), H1[a]? = some (arrV c1 n1 (va_cpy f g sp.toNatClampNeg dp.toNatClampNeg n.toNatClampNeg)) → H1.size = H.size → (∀ q : Nat, q ≠ a → H1[q]? = H[q]?) → (∀ z ∈ L, z.base = a) → W p l e R s m args below meth c H1 (locs ++ L) cells slots Q (F0 m (pc + 3) ls rest)) : W p l e R s m args below meth c H locs cells slots Q (F0 m pc ls (.int n :: .int dp :: .ref a :: .int sp :: .ref a0 :: rest)) := by
  have nn : ∀ z : Int32, ¬ z < 0 → z.toInt = (z.toNatClampNeg : Int) := by
    intro z hz
    have hz0 : (0 : Int) ≤ z.toInt := by
      have := Int32.not_lt.mp hz
      simpa using Int32.le_iff_toInt_le.mp this
    show z.toInt = ((z.toInt.toNat : Nat) : Int)
    omega
  intro T hT X
  obtain ⟨-, k0, hk0, cm0, hkk0⟩ := t0 n0 f
  obtain ⟨-, k1, hk1, cm1, hkk1⟩ := t1 n1 g
  obtain ⟨vm', X', step⟩ := X.arraycopy hexec hown hlink hnat hstat hini (src := a0) (dst := a) (cs := arrV c0 n0 f) (cd := arrV c1 n1 g) (srcPos := sp) (destPos := dp) (n := n) (by rw [hT]; exact hc0) (by rw [hT]; exact hc1)
    (fun _ h => by cases h) (fun _ h => by cases h) (fun h => by cases h) (fun h => by cases h) hk0 hk1 hkk0 hkk1 (by simp [hprim]) h1 h2 h3
    (by rw [nn sp h1, nn n h3, arrV_size]; omega)
    (by rw [nn dp h2, nn n h3, arrV_size]; omega)
    (fun vm₁ _ i hi => by
      have e : (arrV c0 n0 f).slots.getD (sp.toNatClampNeg + i) .null = f (sp.toNatClampNeg + i) := by
        rw [Array.getD_eq_getD_getElem?, arrV_read _ _ (by omega)]
        rfl
      refine ⟨?_, ?_⟩
      · rw [e]
        exact (hfit i hi).1
      · rw [e]
        have hnr := (hfit i hi).2
        cases hv : f (sp.toNatClampNeg + i) with
        | ref b => exact absurd hv (hnr b)
        | _ => exact trivial)
    (g := F0 m pc ls (.int n :: .int dp :: .ref a :: .int sp :: .ref a0 :: rest)) rfl (by rw [hml]) (rest := rest) rfl (by rw [hb]; exact hdg) hframes (by show 2 * 0 + _ + _ ≤ _; omega)
  have e1 : copied (arrV c0 n0 f) (arrV c1 n1 g) sp dp n = arrV c1 n1 (va_cpy f g sp.toNatClampNeg dp.toNatClampNeg n.toNatClampNeg) := va_copied (fun z => z) c0 c1 f g h4
  rw [e1] at X' step
  have hl : a < H.size := (Array.getElem?_eq_some_iff.mp hc1).1
  have hheap : ((T.setVm vm').setCell a (arrV c1 n1 (va_cpy f g sp.toNatClampNeg dp.toNatClampNeg n.toNatClampNeg))).heap = H.setIfInBounds a (arrV c1 n1 (va_cpy f g sp.toNatClampNeg dp.toNatClampNeg n.toNatClampNeg)) := by rw [← hT]; rfl
  have oq : ∀ q : Nat, q ≠ a → (H.setIfInBounds a (arrV c1 n1 (va_cpy f g sp.toNatClampNeg dp.toNatClampNeg n.toNatClampNeg)))[q]? = H[q]? := fun q hq => by simp [Array.getElem?_setIfInBounds, Ne.symm hq]
  obtain ⟨t, a1, b1⟩ := kk _ _ (show (H.setIfInBounds a _)[a]? = some _ by simp [Array.getElem?_setIfInBounds, hl]) (by simp) oq (fun z hz => by
      obtain ⟨y, -, hy⟩ := List.mem_map.mp hz
      rw [← hy]) _ hheap X'
  exact ⟨t, step t a1, b1⟩
end WR
